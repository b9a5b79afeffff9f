/-! THE DOCUMENT'S WORDS: a program (FUNCTIONS), a table (STATES, WAYS), the least sets -/
abbrev sP : Type := Nat × (Nat → Nat) × (Nat → Nat → Nat) × (Nat → Nat → Nat) × (Nat → Nat) × (Nat → Nat → Nat) × (Nat → Nat → Nat) × (Nat → Nat → Nat)
abbrev gp_c (P : sP) : Nat := P.1
abbrev gp_l (P : sP) : Nat → Nat := P.2.1
abbrev gp_k (P : sP) : Nat → Nat → Nat := P.2.2.1
abbrev gp_n (P : sP) : Nat → Nat → Nat := P.2.2.2.1
abbrev gp_h (P : sP) : Nat → Nat := P.2.2.2.2.1
abbrev gp_a (P : sP) : Nat → Nat → Nat := P.2.2.2.2.2.1
abbrev gp_b (P : sP) : Nat → Nat → Nat := P.2.2.2.2.2.2.1
abbrev gp_g (P : sP) : Nat → Nat → Nat := P.2.2.2.2.2.2.2
abbrev sT : Type := Nat × (Nat → Nat → Nat → Bool) × (Nat → Bool)
abbrev gs_S (T : sT) : Nat := T.1
abbrev gs_w (T : sT) : Nat → Nat → Nat → Bool := T.2.1
abbrev gs_n (T : sT) : Nat → Bool := T.2.2
def gs_wf (T : sT) : Prop := 1 ≤ gs_S T ∧ gs_S T ≤ 60 ∧ ∀ c s t, gs_w T c s t = true → c < 16 ∧ s < gs_S T ∧ (t < gs_S T ∨ t = 60)
/-- one INSTRUCTION's number is one that its KIND may have -/
def gp_ok (P : sP) (f k n : Nat) : Prop := k ≤ 8 ∧ ((k = 1 ∨ k = 2) → n < gp_l P f) ∧ (k = 3 → n < 8) ∧ ((k = 4 ∨ k = 5) → n < 16) ∧ ((k = 0 ∨ k = 6 ∨ k = 7 ∨ k = 8) → n = 0)
def gp_wf (P : sP) : Prop := gp_c P ≤ 8 ∧ ∀ f, f < gp_c P → (1 ≤ gp_l P f ∧ gp_l P f ≤ 200) ∧ gp_h P f ≤ 6 ∧ (∀ i, i < gp_l P f → gp_ok P f (gp_k P f i) (gp_n P f i)) ∧ ∀ h, h < gp_h P f → gp_a P f h < gp_b P f h ∧ gp_b P f h ≤ gp_l P f ∧ gp_g P f h < gp_l P f
def gp_goal (P : sP) (f i : Nat) : Prop := (∃ j, j < gp_l P f ∧ (gp_k P f j = 1 ∨ gp_k P f j = 2) ∧ gp_n P f j = i) ∨ ∃ h, h < gp_h P f ∧ gp_g P f h = i
def gp_gd (P : sP) (f i : Nat) : Prop := gp_k P f i = 4 ∧ 0 < i ∧ gp_k P f (i - 1) = 5 ∧ gp_n P f (i - 1) = gp_n P f i ∧ ¬ gp_goal P f i
/-- by which WAYS a set is led on -/
def gs_led (T : sT) (c : Nat) (p : Nat → Prop) (s : Nat) : Prop := s < gs_S T ∧ ∃ u, u < gs_S T ∧ p u ∧ gs_w T c u s = true
def gp_after (T : sT) (P : sP) (m : Nat → Nat → Nat → Prop) (x : Nat → Nat → Prop) (f i s : Nat) : Prop :=
  (gp_k P f i = 3 ∧ (∃ u, m f i u) ∧ gp_n P f i < gp_c P ∧ x (gp_n P f i) s) ∨
  ((gp_k P f i = 5 ∨ (gp_k P f i = 4 ∧ ¬ gp_gd P f i)) ∧ gs_led T (gp_n P f i) (m f i) s) ∨
  (gp_k P f i ≠ 3 ∧ gp_k P f i ≠ 5 ∧ (gp_k P f i = 4 → gp_gd P f i) ∧ m f i s)
/-- what the sets must have on account of one INSTRUCTION -/
def gp_rule (T : sT) (P : sP) (m : Nat → Nat → Nat → Prop) (e x a : Nat → Nat → Prop) (f i : Nat) : Prop :=
  (∀ s, gp_after T P m x f i s → ((gp_k P f i = 1 ∨ gp_k P f i = 2) → m f (gp_n P f i) s) ∧ ((gp_k P f i ≠ 1 ∧ gp_k P f i ≠ 6 ∧ gp_k P f i ≠ 7) → i + 1 < gp_l P f → m f (i + 1) s) ∧ a f s) ∧
  (∀ s, m f i s → a f s ∧ (gp_k P f i = 6 → x f s) ∧ (gp_k P f i = 3 → gp_n P f i < gp_c P → e (gp_n P f i) s) ∧
    ((gp_k P f i = 3 ∨ gp_k P f i = 7 ∨ gp_k P f i = 8) → ∀ h, h < gp_h P f → gp_a P f h ≤ i → i < gp_b P f h → m f (gp_g P f h) s)) ∧
  (∀ s u, gp_k P f i = 3 → m f i u → gp_n P f i < gp_c P → a (gp_n P f i) s → a f s ∧ ∀ h, h < gp_h P f → gp_a P f h ≤ i → i < gp_b P f h → m f (gp_g P f h) s)
def gp_cl (T : sT) (P : sP) (m : Nat → Nat → Nat → Prop) (e x a : Nat → Nat → Prop) : Prop :=
  (0 < gp_c P → e 0 0) ∧ (∀ f, f < gp_c P → ∀ s, e f s → m f 0 s) ∧ ∀ f, f < gp_c P → ∀ i, i < gp_l P f → gp_rule T P m e x a f i
/-- the least sets -/
def gl_m (T : sT) (P : sP) (f i s : Nat) : Prop := ∀ m e x a, gp_cl T P m e x a → m f i s
def gl_e (T : sT) (P : sP) (f s : Nat) : Prop := ∀ m e x a, gp_cl T P m e x a → e f s
def gl_x (T : sT) (P : sP) (f s : Nat) : Prop := ∀ m e x a, gp_cl T P m e x a → x f s
def gl_a (T : sT) (P : sP) (f s : Nat) : Prop := ∀ m e x a, gp_cl T P m e x a → a f s
theorem gs_led_mono {T : sT} {c : Nat} {p q : Nat → Prop} (h : ∀ u, p u → q u) {s : Nat} (hp : gs_led T c p s) : gs_led T c q s := by
  obtain ⟨h1, u, h2, h3, h4⟩ := hp
  exact ⟨h1, u, h2, h u h3, h4⟩
theorem gp_after_mono {T : sT} {P : sP} {m m' : Nat → Nat → Nat → Prop} {x x' : Nat → Nat → Prop} {f i : Nat} (hm : ∀ s, m f i s → m' f i s) (hx : ∀ g s, x g s → x' g s) {s : Nat} (h : gp_after T P m x f i s) : gp_after T P m' x' f i s := by
  rcases h with ⟨h1, ⟨u, h2⟩, h3, h4⟩ | ⟨h1, h2⟩ | ⟨h1, h2, h3, h4⟩
  · exact Or.inl ⟨h1, ⟨u, hm u h2⟩, h3, hx _ _ h4⟩
  · exact Or.inr (Or.inl ⟨h1, gs_led_mono hm h2⟩)
  · exact Or.inr (Or.inr ⟨h1, h2, h3, hm s h4⟩)
theorem gl_cl (T : sT) (P : sP) : gp_cl T P (gl_m T P) (gl_e T P) (gl_x T P) (gl_a T P) := by
  refine ⟨fun h0 m e x a hc => hc.1 h0, fun f hf s hs m e x a hc => hc.2.1 f hf s (hs m e x a hc), fun f hf i hi => ⟨fun s hs => ?_, fun s hs => ?_, fun s u hk hu hn ha => ?_⟩⟩
  · have key : ∀ m e x a, gp_cl T P m e x a → gp_after T P m x f i s := fun m e x a hc => gp_after_mono (fun s h => h m e x a hc) (fun g s h => h m e x a hc) hs
    exact ⟨fun hk m e x a hc => ((hc.2.2 f hf i hi).1 s (key m e x a hc)).1 hk, fun hk hl m e x a hc => ((hc.2.2 f hf i hi).1 s (key m e x a hc)).2.1 hk hl, fun m e x a hc => ((hc.2.2 f hf i hi).1 s (key m e x a hc)).2.2⟩
  · exact ⟨fun m e x a hc => ((hc.2.2 f hf i hi).2.1 s (hs m e x a hc)).1, fun hk m e x a hc => ((hc.2.2 f hf i hi).2.1 s (hs m e x a hc)).2.1 hk, fun hk hn m e x a hc => ((hc.2.2 f hf i hi).2.1 s (hs m e x a hc)).2.2.1 hk hn,
      fun hk h hh h1 h2 m e x a hc => ((hc.2.2 f hf i hi).2.1 s (hs m e x a hc)).2.2.2 hk h hh h1 h2⟩
  · exact ⟨fun m e x a hc => ((hc.2.2 f hf i hi).2.2 s u hk (hu m e x a hc) hn (ha m e x a hc)).1, fun h hh h1 h2 m e x a hc => ((hc.2.2 f hf i hi).2.2 s u hk (hu m e x a hc) hn (ha m e x a hc)).2 h hh h1 h2⟩
/-- the longs that hold the least sets -/
def gl_is (x : Int64) (p : Nat → Prop) : Prop := ∀ s, gb x s = true ↔ p s
theorem gl_is.eq {x y : Int64} {p : Nat → Prop} (hx : gl_is x p) (hy : gl_is y p) : x = y := gb_ext fun s _ => by
  have h1 := hx s
  have h2 := hy s
  cases h3 : gb x s <;> cases h4 : gb y s <;> simp_all
/-- sets that are closed, and within the least ones, are the least ones -/
theorem gl_uniq {T : sT} {P : sP} {m : Nat → Nat → Nat → Prop} {e x a : Nat → Nat → Prop} (hc : gp_cl T P m e x a) (hm : ∀ f i s, m f i s → gl_m T P f i s) (he : ∀ f s, e f s → gl_e T P f s) (hx : ∀ f s, x f s → gl_x T P f s) (ha : ∀ f s, a f s → gl_a T P f s) :
    (∀ f i s, m f i s ↔ gl_m T P f i s) ∧ (∀ f s, e f s ↔ gl_e T P f s) ∧ (∀ f s, x f s ↔ gl_x T P f s) ∧ ∀ f s, a f s ↔ gl_a T P f s :=
  ⟨fun f i s => ⟨hm f i s, fun h => h m e x a hc⟩, fun f s => ⟨he f s, fun h => h m e x a hc⟩, fun f s => ⟨hx f s, fun h => h m e x a hc⟩, fun f s => ⟨ha f s, fun h => h m e x a hc⟩⟩
/-- the sets as longs, in range only: what both programs hold -/
def gl_ok (T : sT) (P : sP) (my : Nat → Nat → Int64) (en ex al : Nat → Int64) : Prop :=
  (∀ f, f < gp_c P → ∀ i, i < gp_l P f → gl_is (my f i) (gl_m T P f i)) ∧ ∀ f, f < gp_c P → gl_is (en f) (gl_e T P f) ∧ gl_is (ex f) (gl_x T P f) ∧ gl_is (al f) (gl_a T P f)
/-- the sets that some rows of longs stand for -/
def gl_pm (P : sP) (my : Nat → Nat → Int64) : Nat → Nat → Nat → Prop := fun f i s => f < gp_c P ∧ i < gp_l P f ∧ gb (my f i) s = true
def gl_pe (P : sP) (en : Nat → Int64) : Nat → Nat → Prop := fun f s => f < gp_c P ∧ gb (en f) s = true
/-- a HOST NEEDS a GUARD: by its set of STATES -/
def gs_chg (T : sT) (c : Nat) (p : Nat → Prop) : Prop := ∃ s, s < gs_S T ∧ p s ∧ ¬ (gs_w T c s s = true ∧ ∀ t, (t < gs_S T ∨ t = 60) → t ≠ s → gs_w T c s t = false)
def gp_need (T : sT) (P : sP) (f i : Nat) : Prop := gp_k P f i = 4 ∧ (gs_n T (gp_n P f i) = true ∨ gs_chg T (gp_n P f i) (gl_m T P f i))
def gp_lack (T : sT) (P : sP) (f i : Nat) : Prop := gp_need T P f i ∧ ¬ gp_gd P f i
