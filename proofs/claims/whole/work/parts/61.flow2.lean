/-! Flow: what holds all the time (fi), how a state follows another (fr), a measure (fp) -/
def ds (P : sP) (h : Nat → Nat → Nat) : Nat := gn_s (fun f => gn_s (h f) (gp_l P f)) (gp_c P)
theorem ds_le {P : sP} {h h' : Nat → Nat → Nat} (H : ∀ f i, f < gp_c P → i < gp_l P f → h f i ≤ h' f i) : ds P h ≤ ds P h' := gn_le _ fun f hf => gn_le _ fun i hi => H f i hf hi
theorem ds_lt {P : sP} {h h' : Nat → Nat → Nat} (H : ∀ f i, f < gp_c P → i < gp_l P f → h f i ≤ h' f i) {f i : Nat} (hf : f < gp_c P) (hi : i < gp_l P f) (hl : h f i < h' f i) : ds P h < ds P h' :=
  gn_lt _ f hf (fun g hg => gn_le _ fun j hj => H g j hg hj) (gn_lt _ i hi (fun j hj => H f j hf hj) hl)
theorem ds_eq {P : sP} {h h' : Nat → Nat → Nat} (H : ∀ f i, f < gp_c P → i < gp_l P f → h f i = h' f i) : ds P h = ds P h' := gn_eq _ fun f hf => gn_eq _ fun i hi => H f i hf hi
theorem ds_up {P : sP} {h h' : Nat → Nat → Nat} {f i : Nat} (hf : f < gp_c P) (hi : i < gp_l P f) (H : ∀ g j, g < gp_c P → j < gp_l P g → ¬ (g = f ∧ j = i) → h g j = h' g j) : ds P h + h' f i = ds P h' + h f i := by
  have a := gn_up (f := fun g => gn_s (h g) (gp_l P g)) (g := fun g => gn_s (h' g) (gp_l P g)) (k := f) (gp_c P) hf (fun g hg hne => gn_eq _ fun j hj => H g j hg hj (fun e => hne e.1))
  have b := gn_up (f := h f) (g := h' f) (k := i) (gp_l P f) hi (fun j hj hne => H f j hf hj (fun e => hne e.2))
  unfold ds
  omega
theorem ds_bd {P : sP} (hw : gp_wf P) {h : Nat → Nat → Nat} {k : Nat} (H : ∀ f i, f < gp_c P → i < gp_l P f → h f i ≤ k) : ds P h ≤ 1600 * k := by
  have a := gn_bd (f := fun f => gn_s (h f) (gp_l P f)) (c := 200 * k) (gp_c P) (fun f hf => by
    have b := gn_bd (f := h f) (c := k) (gp_l P f) (fun i hi => H f i hf hi)
    have c := Nat.mul_le_mul_right k (hw.2 f hf).1.2
    omega)
  have d := Nat.mul_le_mul_right (200 * k) hw.1
  unfold ds
  omega
theorem ds_0 {P : sP} {h : Nat → Nat → Nat} (H : ds P h = 0) {f i : Nat} (hf : f < gp_c P) (hi : i < gp_l P f) : h f i = 0 := by
  rcases Nat.eq_zero_or_pos (h f i) with e | e
  · exact e
  · have := ds_lt (P := P) (h := fun _ _ => 0) (h' := h) (fun _ _ _ _ => Nat.zero_le _) hf hi e
    omega
/-- rows of a state -/
abbrev fMy (B : Nat → go_O) : Nat → Nat → Int64 := fun f i => ml (B f) 8 i
abbrev fWt (B : Nat → go_O) : Nat → Nat → Int32 := fun f i => mi (B f) 9 i
abbrev fEn (B : Nat → go_O) : Nat → Int64 := fun f => (B f).2.1 11
abbrev fEx (B : Nat → go_O) : Nat → Int64 := fun f => (B f).2.1 12
abbrev fAl (B : Nat → go_O) : Nat → Int64 := fun f => (B f).2.1 13
abbrev fGr (B : Nat → go_O) : Nat → Int32 := fun f => (B f).1 14
def i01 (x : Int32) : Nat := if x = 0 then 0 else 1
theorem i01_1 {x : Int32} (h : ¬ x = 0) : i01 x = 1 := by simp [i01, h]
theorem i01_0 {x : Int32} (h : x = 0) : i01 x = 0 := by simp [i01, h]
theorem i01_le (x : Int32) : i01 x ≤ 1 := by unfold i01; split <;> omega
def uWt (P : sP) (wt : Nat → Nat → Int32) : Nat := ds P fun f i => i01 (wt f i)
def uMy (P : sP) (my : Nat → Nat → Int64) : Nat := ds P fun f i => gb_u (my f i)
def uG (ex al : Nat → Int64) (g : Nat) : Nat := gb_u (ex g) + gb_u (al g)
def uCa (P : sP) (ex al : Nat → Int64) (gr : Nat → Int32) : Nat := ds P fun f i => if gp_k P f i = 3 ∧ gp_n P f i < gp_c P then uG ex al (gp_n P f i) + i01 (gr (gp_n P f i)) else 0
def uSu (P : sP) (ex al : Nat → Int64) : Nat := gn_s (uG ex al) (gp_c P)
def fp (P : sP) (B : Nat → go_O) (F : go_O) (t : Nat) : Nat := t + uMy P (fMy B) + uCa P (fEx B) (fAl B) (fGr B) + uSu P (fEx B) (fAl B) + i01 (F.1 3)
def fn (T : sT) (P : sP) (B : Nat → go_O) : Prop := (∀ f i s, f < gp_c P → i < gp_l P f → gb (fMy B f i) s = true → gl_m T P f i s) ∧ (∀ f s, f < gp_c P → gb (fEn B f) s = true → gl_e T P f s) ∧ (∀ f s, f < gp_c P → gb (fEx B f) s = true → gl_x T P f s) ∧ ∀ f s, f < gp_c P → gb (fAl B f) s = true → gl_a T P f s
def fi (T : sT) (P : sP) (aT : Nat) (B : Nat → go_O) (F : go_O) (t : Nat) : Prop :=
  (∀ f, f < gp_c P → bs P f (B f) ∧ ba P f (B f)) ∧ (F.1 2 = nI t ∧ F.2.2.1 0 = some aT) ∧ (F.1 3 = 0 → ∀ f, f < gp_c P → fGr B f = 0) ∧ t = uWt P (fWt B) ∧
  (∀ j, j < t → ∃ f i, f < gp_c P ∧ i < gp_l P f ∧ mi F 1 j = nI (200 * f + i) ∧ ¬ fWt B f i = 0) ∧ (∀ j k, j < k → k < t → mi F 1 j ≠ mi F 1 k) ∧ fn T P B ∧ ∀ f i, f < gp_c P → i < gp_l P f → ¬ fWt B f i = 0 → ¬ fMy B f i = 0
def fe (P : sP) (B : Nat → go_O) : Prop := ∀ f, f < gp_c P → ∀ s, gb (fEn B f) s = true → gb (fMy B f 0) s = true
def fr (P : sP) (B : Nat → go_O) (F : go_O) (t : Nat) (B' : Nat → go_O) (F' : go_O) (t' : Nat) : Prop :=
  (∀ f i s, gb (fMy B f i) s = true → gb (fMy B' f i) s = true) ∧ (∀ f s, gb (fEn B f) s = true → gb (fEn B' f) s = true) ∧ (∀ f s, gb (fEx B f) s = true → gb (fEx B' f) s = true) ∧ (∀ f s, gb (fAl B f) s = true → gb (fAl B' f) s = true) ∧
  (∀ f i, f < gp_c P → i < gp_l P f → fMy B' f i = fMy B f i ∨ ¬ fWt B' f i = 0) ∧ (∀ f i, f < gp_c P → i < gp_l P f → ¬ fWt B f i = 0 → ¬ fWt B' f i = 0) ∧
  (∀ g, g < gp_c P → (fEx B' g = fEx B g ∧ fAl B' g = fAl B g) ∨ ¬ fGr B' g = 0) ∧ (∀ g, g < gp_c P → ¬ fGr B g = 0 → ¬ fGr B' g = 0) ∧ fp P B' F' t' ≤ fp P B F t
theorem fr.rf {P : sP} {B : Nat → go_O} {F : go_O} {t : Nat} : fr P B F t B F t := ⟨fun _ _ _ h => h, fun _ _ h => h, fun _ _ h => h, fun _ _ h => h, fun _ _ _ _ => Or.inl rfl, fun _ _ _ _ h => h, fun _ _ => Or.inl ⟨rfl, rfl⟩, fun _ _ h => h, Nat.le_refl _⟩
theorem fr.tr {P : sP} {B B' B'' : Nat → go_O} {F F' F'' : go_O} {t t' t'' : Nat} (h1 : fr P B F t B' F' t') (h2 : fr P B' F' t' B'' F'' t'') : fr P B F t B'' F'' t'' := by
  obtain ⟨a1, a2, a3, a4, a5, a6, a7, a8, a9⟩ := h1
  obtain ⟨b1, b2, b3, b4, b5, b6, b7, b8, b9⟩ := h2
  refine ⟨fun f i s h => b1 f i s (a1 f i s h), fun f s h => b2 f s (a2 f s h), fun f s h => b3 f s (a3 f s h), fun f s h => b4 f s (a4 f s h), fun f i hf hi => ?_, fun f i hf hi h => b6 f i hf hi (a6 f i hf hi h), fun g hg => ?_, fun g hg h => b8 g hg (a8 g hg h), Nat.le_trans b9 a9⟩
  · rcases b5 f i hf hi with h | h
    · rcases a5 f i hf hi with h' | h'
      · exact Or.inl (h.trans h')
      · exact Or.inr (b6 f i hf hi h')
    · exact Or.inr h
  · rcases b7 g hg with h | h
    · rcases a7 g hg with h' | h'
      · exact Or.inl ⟨h.1.trans h'.1, h.2.trans h'.2⟩
      · exact Or.inr (b8 g hg h')
    · exact Or.inr h
theorem uWt_bd {P : sP} (hw : gp_wf P) {wt : Nat → Nat → Int32} {f i : Nat} (hf : f < gp_c P) (hi : i < gp_l P f) (h : wt f i = 0) : uWt P wt < 1600 := by
  have a := ds_lt (P := P) (h := fun f i => i01 (wt f i)) (h' := fun _ _ => 1) (fun f i _ _ => i01_le _) hf hi (by rw [i01_0 h]; omega)
  have b := ds_bd hw (h := fun _ _ => 1) (k := 1) (fun _ _ _ _ => Nat.le_refl _)
  unfold uWt
  omega
theorem uWt_push {P : sP} {wt : Nat → Nat → Int32} {f i : Nat} {v : Int32} (hf : f < gp_c P) (hi : i < gp_l P f) (h : wt f i = 0) (hv : ¬ v = 0) : uWt P (go_w wt f i v) = uWt P wt + 1 := by
  have a := ds_up (P := P) (h := fun g j => i01 (go_w wt f i v g j)) (h' := fun g j => i01 (wt g j)) hf hi (fun g j _ _ hne => by
    by_cases e : g = f
    · subst e
      rw [go_w_s, go_u_n fun e => hne ⟨rfl, e⟩]
    · rw [go_w_n e])
  rw [i01_0 h, go_w_s, go_u_s, i01_1 hv] at a
  unfold uWt
  omega
theorem uWt_pop {P : sP} {wt : Nat → Nat → Int32} {f i : Nat} (hf : f < gp_c P) (hi : i < gp_l P f) (h : ¬ wt f i = 0) : uWt P (go_w wt f i 0) + 1 = uWt P wt := by
  have a := ds_up (P := P) (h := fun g j => i01 (go_w wt f i 0 g j)) (h' := fun g j => i01 (wt g j)) hf hi (fun g j _ _ hne => by
    by_cases e : g = f
    · subst e
      rw [go_w_s, go_u_n fun e => hne ⟨rfl, e⟩]
    · rw [go_w_n e])
  rw [i01_1 h, go_w_s, go_u_s, i01_0 rfl] at a
  unfold uWt
  omega
theorem uMy_lt {P : sP} {my : Nat → Nat → Int64} {f i : Nat} {v : Int64} (hf : f < gp_c P) (hi : i < gp_l P f) (h : ¬ (my f i ||| v) = my f i) : uMy P (go_w my f i (my f i ||| v)) < uMy P my := by
  refine ds_lt (fun g j _ _ => ?_) hf hi ?_
  · by_cases e : g = f
    · subst e
      rw [go_w_s]
      by_cases e2 : j = i
      · subst e2
        rw [go_u_s]
        exact gb_u_le _ _
      · rw [go_u_n e2]
        exact Nat.le_refl _
    · rw [go_w_n e]
      exact Nat.le_refl _
  · rw [go_w_s, go_u_s]
    exact gb_u_lt h
/-- which rows an update of one body moves -/
theorem fMy_al (B : Nat → go_O) (f i : Nat) (v : Int64) : fMy (go_u B f (go_al (B f) 8 i v)) = go_w (fMy B) f i v := by
  funext g j
  by_cases e : g = f
  · subst e
    show ml (go_u B g (go_al (B g) 8 i v) g) 8 j = _
    rw [go_u_s, go_w_s]
    show go_w (ml (B g)) 8 i v 8 j = _
    rw [go_w_s]
  · show ml (go_u B f (go_al (B f) 8 i v) g) 8 j = _
    rw [go_u_n e, go_w_n e]
theorem fWt_ai (B : Nat → go_O) (f i : Nat) (v : Int32) : fWt (go_u B f (go_ai (B f) 9 i v)) = go_w (fWt B) f i v := by
  funext g j
  by_cases e : g = f
  · subst e
    show mi (go_u B g (go_ai (B g) 9 i v) g) 9 j = _
    rw [go_u_s, go_w_s]
    show go_w (mi (B g)) 9 i v 9 j = _
    rw [go_w_s]
  · show mi (go_u B f (go_ai (B f) 9 i v) g) 9 j = _
    rw [go_u_n e, go_w_n e]
theorem go_u_same {α β : Type} (p : α → β) (B : Nat → α) (f : Nat) (b : α) (h : p b = p (B f)) : (fun g => p (go_u B f b g)) = fun g => p (B g) := by
  funext g
  by_cases e : g = f
  · rw [e, go_u_s, h]
  · rw [go_u_n e]
theorem bs_up {P : sP} {B : Nat → go_O} {f : Nat} {b : go_O} (h : ∀ g, g < gp_c P → bs P g (B g) ∧ ba P g (B g)) (hf : f < gp_c P) (h0 : ∀ k, k ≠ 14 → b.1 k = (B f).1 k) (h1 : ∀ k j, k ≠ 9 → mi b k j = mi (B f) k j) : ∀ g, g < gp_c P → bs P g (go_u B f b g) ∧ ba P g (go_u B f b g) := by
  intro g hg
  by_cases e : g = f
  · subst e
    rw [go_u_s]
    obtain ⟨⟨a1, a2, a3, a4, a5⟩, a6⟩ := h g hg
    refine ⟨⟨(h0 0 (by omega)).trans a1, (h0 6 (by omega)).trans a2, (h0 7 (by omega)).trans a3, fun i hi => ⟨(h1 1 i (by omega)).trans (a4 i hi).1, (h1 2 i (by omega)).trans (a4 i hi).2⟩, fun i hi => ⟨(h1 3 i (by omega)).trans (a5 i hi).1, (h1 4 i (by omega)).trans (a5 i hi).2.1, (h1 5 i (by omega)).trans (a5 i hi).2.2⟩⟩, fun i hi => (h1 10 i (by omega)).trans (a6 i hi)⟩
  · rw [go_u_n e]
    exact h g hg
