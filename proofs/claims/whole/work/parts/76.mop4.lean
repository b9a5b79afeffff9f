/-! the model: which, and what it answers of a program -/
noncomputable def nz (p : Prop) : Nat := @ite Nat p (Classical.propDecidable p) 1 0
theorem nz_t {p : Prop} (h : p) : nz p = 1 := by simp [nz, h]
theorem nz_f {p : Prop} (h : ¬ p) : nz p = 0 := by simp [nz, h]
theorem nz_le (p : Prop) : nz p ≤ 1 := by
  by_cases h : p
  · rw [nz_t h]
    exact Nat.le_refl _
  · rw [nz_f h]
    exact Nat.zero_le _
theorem nz_c {p q : Prop} (h : p ↔ q) : nz p = nz q := by
  by_cases c : p
  · rw [nz_t c, nz_t (h.mp c)]
  · rw [nz_f c, nz_f (fun x => c (h.mpr x))]
/-- which program is asked -/
def sl (P : sP) (fg : Prop) (P1 : sP) (v : Bool) (q : Nat) (R : sP) : Prop := (v = false ∧ q = 0 ∧ R = P) ∨ (v = true ∧ fg ∧ q = 1 ∧ R = P1)
/-- where in it -/
def wh (R : sP) (x y : Int32) (f i : Nat) : Prop := x = nI f ∧ f < gp_c R ∧ y = nI i ∧ i < gp_l R f
section MR
variable {fu z : Nat} {T : sT} {P P1 : sP} {fg : Prop} {M : go_O} {X : gx_H} {v : Bool} {q : Nat} {R : sP}
theorem sl_un {q' : Nat} {R' : sP} (h : sl P fg P1 v q R) (h' : sl P fg P1 v q' R') : q = q' ∧ R = R' := by
  rcases h with ⟨h1, h2, h3⟩ | ⟨h1, _, h2, h3⟩ <;> rcases h' with ⟨h1', h2', h3'⟩ | ⟨h1', _, h2', h3'⟩
  · exact ⟨h2.trans h2'.symm, h3.trans h3'.symm⟩
  · rw [h1] at h1'
    cases h1'
  · rw [h1] at h1'
    cases h1'
  · exact ⟨h2.trans h2'.symm, h3.trans h3'.symm⟩
theorem wh_un {x y : Int32} {f i f' i' : Nat} (hw : gp_wf R) (h : wh R x y f i) (h' : wh R x y f' i') : f = f' ∧ i = i' := by
  obtain ⟨rfl, h2, rfl, h4⟩ := h
  obtain ⟨e1, h2', e3, h4'⟩ := h'
  have hc := hw.1
  have e1 := nI_inj (by omega) (by omega) e1
  subst e1
  have hl := (hw.2 f h2).1.2
  exact ⟨rfl, nI_inj (by omega) (by omega) e3⟩
theorem MI.sq (hI : MI T P fg P1 M) (hS : SI T P fg P1) (h : sl P fg P1 v q R) : q < 2 ∧ rm_P q R M ∧ mf q T R M ∧ gp_wf R := by
  rcases h with ⟨-, rfl, rfl⟩ | ⟨-, hf, rfl, rfl⟩
  · exact ⟨by omega, hI.2.1, hI.2.2.1, hS.2.1⟩
  · exact ⟨by omega, (hI.2.2.2.2 hf).1, (hI.2.2.2.2 hf).2, (hS.2.2 hf).1⟩
theorem MI.fd {M' : go_O} (hI : MI T P fg P1 M) (hS : SI T P fg P1) (h : sl P fg P1 v q R) (hr : rf q M M') (hm : mf q T R M') : MI T P fg P1 M' := by
  obtain ⟨a1, a2, a3, a4, a5⟩ := hI
  rcases h with ⟨-, rfl, rfl⟩ | ⟨-, hf, rfl, rfl⟩
  · refine ⟨hr.rT a1, hr.rP a2, hm, (hr.2.1 12 (by omega)).trans a4, fun hf => ⟨hr.rP (a5 hf).1, ?_⟩⟩
    rcases (a5 hf).2 with h | ⟨h, h'⟩
    · exact Or.inl ((hr.1 13 1 (by omega)).trans h)
    · exact Or.inr ⟨(hr.1 13 1 (by omega)).trans h, hr.rL (by omega) (by omega) (by omega) (hS.2.2 hf).1 h'⟩
  · refine ⟨hr.rT a1, hr.rP a2, ?_, (hr.2.1 12 (by omega)).trans a4, fun hf => ⟨hr.rP (a5 hf).1, hm⟩⟩
    rcases a3 with h | ⟨h, h'⟩
    · exact Or.inl ((hr.1 13 0 (by omega)).trans h)
    · exact Or.inr ⟨(hr.1 13 0 (by omega)).trans h, hr.rL (by omega) (by omega) (by omega) hS.2.1 h'⟩
theorem m_which (hI : MI T P fg P1 M) (hS : SI T P fg P1) (x y : Int32) : (∃ q R f i, sl P fg P1 v q R ∧ wh R x y f i ∧ gm_X6_which fu z (b32 v) x y (go_k 6 z M X) = some (nI q, go_k 6 z M X)) ∨
    ((∀ q R f i, sl P fg P1 v q R → ¬ wh R x y f i) ∧ gm_X6_which fu z (b32 v) x y (go_k 6 z M X) = some (-1, go_k 6 z M X)) := by
  have go : ∀ {q R}, sl P fg P1 v q R → gm_X6_which_22 fu z x y (nI q) (go_k 6 z M X) = some (nI q, go_k 6 z M X) ∧ (∃ f i, wh R x y f i) ∨ gm_X6_which_22 fu z x y (nI q) (go_k 6 z M X) = some (-1, go_k 6 z M X) ∧ ∀ f i, ¬ wh R x y f i := by
    intro q R h
    obtain ⟨q2, rP, -, hw⟩ := hI.sq hS h
    unfold gm_X6_which_22 gm_X6_which_33
    rw [gx_ob6, m_isThere q2 rP hw, gx_b2s]
    by_cases c : ∃ a b, x = nI a ∧ y = nI b ∧ a < gp_c R ∧ b < gp_l R a
    · rw [gz_t c, if_neg (by decide)]
      obtain ⟨a, b, h1, h2, h3, h4⟩ := c
      exact Or.inl ⟨rfl, a, b, h1, h3, h2, h4⟩
    · rw [gz_f c, if_pos rfl]
      exact Or.inr ⟨rfl, fun f i ⟨h1, h2, h3, h4⟩ => c ⟨f, i, h1, h3, h2, h4⟩⟩
  unfold gm_X6_which gm_X6_which_9
  cases v
  · rw [show b32 false = 0 from rfl, if_pos rfl, if_pos rfl]
    have s : sl P fg P1 false 0 P := Or.inl ⟨rfl, rfl, rfl⟩
    rcases go s with ⟨h1, f, i, h2⟩ | ⟨h1, h2⟩
    · exact Or.inl ⟨0, P, f, i, s, h2, h1⟩
    · exact Or.inr ⟨fun q R f i h => by rw [(sl_un h s).2]; exact h2 f i, h1⟩
  · rw [show b32 true = 1 from rfl, if_neg (by decide), if_neg (by decide)]
    simp only [gq_6, Option.bind_some, hI.2.2.2.1]
    by_cases hf : fg
    · rw [gz_t hf, if_neg (by decide)]
      have s : sl P fg P1 true 1 P1 := Or.inr ⟨rfl, hf, rfl, rfl⟩
      rcases go s with ⟨h1, f, i, h2⟩ | ⟨h1, h2⟩
      · exact Or.inl ⟨1, P1, f, i, s, h2, h1⟩
      · exact Or.inr ⟨fun q R f i h => by rw [(sl_un h s).2]; exact h2 f i, h1⟩
    · rw [gz_f hf, if_pos rfl]
      refine Or.inr ⟨fun q R f i h => ?_, rfl⟩
      rcases h with ⟨h, -⟩ | ⟨-, h, -⟩
      · cases h
      · exact absurd h hf
/-- all STATES of the least sets are there -/
theorem gl_lt (hTw : gs_wf T) {f i s : Nat} (h : gl_m T R f i s) : s < gs_S T := by
  refine h (fun _ _ s => s < gs_S T) (fun _ s => s < gs_S T) (fun _ s => s < gs_S T) (fun _ s => s < gs_S T) ⟨fun _ => hTw.1, fun _ _ s h => h, fun f _ i _ => ⟨fun s h => ?_, fun s h => ⟨h, fun _ => h, fun _ _ => h, fun _ _ _ _ _ => h⟩, fun s u _ _ _ h => ⟨h, fun _ _ _ _ => h⟩⟩⟩
  have : s < gs_S T := by
    rcases h with ⟨-, -, -, h⟩ | ⟨-, h⟩ | ⟨-, -, -, h⟩
    · exact h
    · exact h.1
    · exact h
  exact ⟨fun _ => this, fun _ _ => this, this⟩
/-- how many STATES may be there -/
noncomputable def cm (T : sT) (R : sP) (f i : Nat) : Nat := gn_s (fun s => nz (gl_m T R f i s)) 64
theorem gn_tail {g : Nat → Nat} {n : Nat} : ∀ d, (∀ i, n ≤ i → i < n + d → g i = 0) → gn_s g (n + d) = gn_s g n
  | 0, _ => rfl
  | d + 1, h => by
    rw [show n + (d + 1) = (n + d) + 1 by omega, gn_ss, gn_tail d fun i h1 h2 => h i h1 (by omega), h (n + d) (by omega) (by omega)]
    rfl
theorem cm_S (hTw : gs_wf T) (f i : Nat) : cm T R f i = gn_s (fun s => nz (gl_m T R f i s)) (gs_S T) := by
  have h60 := hTw.2.1
  unfold cm
  rw [show 64 = gs_S T + (64 - gs_S T) by omega]
  exact gn_tail _ fun s h1 _ => nz_f fun h => absurd (gl_lt hTw h) (by omega)
theorem m_bits5 (hT : rm_T T M) (hTw : gs_wf T) {y : Int64} {p : Nat → Prop} (hy : gl_is y p) : ∀ (d n s : Nat), s + d = gs_S T → d < n → gm_X6_bits_5 fu n z y (nI (gn_s (fun s => nz (p s)) s)) (nI s) (go_k 6 z M X) = some (nI (gn_s (fun s => nz (p s)) (gs_S T)), go_k 6 z M X)
  | d, 0, s, _, hn => absurd hn (Nat.not_lt_zero _)
  | d, n + 1, s, hd, hn => by
    have h60 := hTw.2.1
    rw [gm_X6_bits_5]
    simp only [gq_6, Option.bind_some, hT.1]
    by_cases e0 : d = 0
    · rw [if_pos ((nI_leI (by omega) (by omega)).mpr (by omega)), show s = gs_S T by omega]
    · rw [if_neg (fun q => absurd ((nI_leI (by omega) (by omega)).mp q) (by omega))]
      have ih := m_bits5 hT hTw hy (d - 1) n (s + 1) (by omega) (by omega)
      rw [gb_i32 y (by omega), nI_add, nI_1]
      rw [gn_ss] at ih
      rw [show (if gb y s = true then 1 else 0) = nz (p s) by
        by_cases c : gb y s = true
        · rw [if_pos c, nz_t ((hy s).mp c)]
        · rw [if_neg c, nz_f (fun k => c ((hy s).mpr k))]]
      exact ih
/-- how many INSTRUCTIONS have some KIND, are come to -/
noncomputable def ck (R : sP) (f k : Nat) : Nat := gn_s (fun i => nz (gp_k R f i = k)) (gp_l R f)
noncomputable def cr (T : sT) (R : sP) (f : Nat) : Nat := gn_s (fun i => nz (∃ s, gl_m T R f i s)) (gp_l R f)
theorem m_cOf6 (hq : q < 2) (hP : rm_P q R M) (hw : gp_wf R) {f k : Nat} (hf : f < gp_c R) (hk : k ≤ 8) : ∀ (d n i : Nat), i + d = gp_l R f → d < n → gm_X6_countOf_6 fu n z (nI q) (nI f) (nI k) (nI (gn_s (fun i => nz (gp_k R f i = k)) i)) (nI i) (go_k 6 z M X) = some (nI (ck R f k), go_k 6 z M X)
  | d, 0, i, _, hn => absurd hn (Nat.not_lt_zero _)
  | d, n + 1, i, hd, hn => by
    have hc := hw.1
    obtain ⟨⟨-, l2⟩, -, hI, -⟩ := hw.2 f hf
    obtain ⟨b1, -, b3, -⟩ := hP.2 f hf
    have r1 : 8 * q + f < 16 := by omega
    rw [gm_X6_countOf_6, show (8 : Int32) * nI q + nI f = nI (8 * q + f) by rw [li8, pk_mul, nI_add]]
    simp only [gq_6, r1, Option.bind_some, b1]
    by_cases e0 : d = 0
    · rw [if_pos ((nI_leI (by omega) (by omega)).mpr (by omega)), show i = gp_l R f by omega]
      rfl
    · rw [if_neg (fun q => absurd ((nI_leI (by omega) (by omega)).mp q) (by omega))]
      have r2 : 1600 * q + 200 * f + i < 3200 := by omega
      rw [show (1600 : Int32) * nI q + 200 * nI f + nI i = nI (1600 * q + 200 * f + i) by rw [li1600, li200, pk_mul, pk_mul, nI_add, nI_add]]
      have e1 := (b3 i (by omega)).1
      have k8 := (hI i (by omega)).1
      simp only [gq_6, r2, Option.bind_some, e1]
      unfold gm_X6_countOf_52
      rw [show nI i + 1 = nI (i + 1) from (nI_succ i).symm]
      have ih := m_cOf6 hq hP hw hf hk (d - 1) n (i + 1) (by omega) (by omega)
      rw [gn_ss] at ih
      by_cases c : gp_k R f i = k
      · rw [if_pos (by rw [c]), li1, nI_add]
        rw [nz_t c] at ih
        exact ih
      · rw [if_neg (nI_ne (by omega) (by omega) c), li0, nI_add]
        rw [nz_f c] at ih
        exact ih
theorem m_come10 (hq : q < 2) (hP : rm_P q R M) (hL : rm_L q T R M) (hw : gp_wf R) {f : Nat} (hf : f < gp_c R) : ∀ (d n i : Nat), i + d = gp_l R f → d < n → gm_X6_comeTo_10 fu n z (nI q) (nI f) (nI (gn_s (fun i => nz (∃ s, gl_m T R f i s)) i)) (nI i) (go_k 6 z M X) = some (nI (cr T R f), go_k 6 z M X)
  | d, 0, i, _, hn => absurd hn (Nat.not_lt_zero _)
  | d, n + 1, i, hd, hn => by
    have hc := hw.1
    obtain ⟨⟨-, l2⟩, -, hI, -⟩ := hw.2 f hf
    obtain ⟨b1, -, b3, -⟩ := hP.2 f hf
    have r1 : 8 * q + f < 16 := by omega
    rw [gm_X6_comeTo_10, show (8 : Int32) * nI q + nI f = nI (8 * q + f) by rw [li8, pk_mul, nI_add]]
    simp only [gq_6, r1, Option.bind_some, b1]
    by_cases e0 : d = 0
    · rw [if_pos ((nI_leI (by omega) (by omega)).mpr (by omega)), show i = gp_l R f by omega]
      rfl
    · rw [if_neg (fun q => absurd ((nI_leI (by omega) (by omega)).mp q) (by omega))]
      have r2 : 1600 * q + 200 * f + i < 3200 := by omega
      rw [show (1600 : Int32) * nI q + 200 * nI f + nI i = nI (1600 * q + 200 * f + i) by rw [li1600, li200, pk_mul, pk_mul, nI_add, nI_add]]
      have y : gl_is (ml M 14 (1600 * q + 200 * f + i)) (gl_m T R f i) := hL.1 f hf i (by omega)
      simp only [gq_6, r2, Option.bind_some]
      unfold gm_X6_comeTo_56
      rw [show nI i + 1 = nI (i + 1) from (nI_succ i).symm]
      have ih := m_come10 hq hP hL hw hf (d - 1) n (i + 1) (by omega) (by omega)
      rw [gn_ss] at ih
      by_cases c : ∃ s, gl_m T R f i s
      · obtain ⟨s, hs⟩ := id c
        rw [if_neg (fun qq => by
          have := (y s).mpr hs
          rw [show ml M 14 (1600 * q + 200 * f + i) = 0 from gb_cmp.mp qq, gb_0] at this
          cases this), show (1 : Int32) = nI 1 from rfl, nI_add]
        rw [nz_t c] at ih
        exact ih
      · rw [if_pos (gb_cmp.mpr (gb_z.mpr fun s => by
          cases h : gb (ml M 14 (1600 * q + 200 * f + i)) s
          · rfl
          · exact absurd ⟨s, (y s).mp h⟩ c)), show (0 : Int32) = nI 0 from rfl, nI_add]
        rw [nz_f c] at ih
        exact ih
/-- the answers -/
noncomputable def ofv (T : sT) (R : sP) (f i : Nat) (w : Int32) : Int32 := if w = 0 then nI (gp_k R f i) else if w = 1 then nI (gp_n R f i) else if w = 2 then gz (gp_gd R f i) else if w = 3 then gz (gp_need T R f i) else if w = 4 then nI (cm T R f i) else -1
noncomputable def szv (T : sT) (R : sP) (f : Nat) (w : Int32) : Int32 := if w = 0 then nI (gp_l R f) else if w = 1 then nI (gp_h R f) else if w = 2 then nI (ck R f 4) else if w = 3 then nI (ck R f 5) else if w = 4 then nI (cr T R f) else -1
def rgv (R : sP) (f h : Nat) (w : Int32) : Int32 := if w = 0 then nI (gp_a R f h) else if w = 1 then nI (gp_b R f h) else if w = 2 then nI (gp_g R f h) else -1
/-- a long's answer: the set, or nothing -/
def stv (T : sT) (R : sP) (f : Nat) (w : Int32) (y : Int64) : Prop := if w = 0 then gl_is y (gl_e T R f) else if w = 1 then gl_is y (gl_x T R f) else if w = 2 then gl_is y (gl_a T R f) else y = 0
set_option maxHeartbeats 1000000 in
theorem m_of (hI : MI T P fg P1 M) (hS : SI T P fg P1) (hfu : 300000 ≤ fu) (x y w : Int32) : ∃ M' a, gm_X6_of fu z (b32 v) x y w (go_k 6 z M X) = some (a, go_k 6 z M' X) ∧ MI T P fg P1 M' ∧ ((∃ q R f i, sl P fg P1 v q R ∧ wh R x y f i ∧ a = ofv T R f i w) ∨ ((∀ q R f i, sl P fg P1 v q R → ¬ wh R x y f i) ∧ a = -1)) := by
  unfold gm_X6_of
  simp only [gq_6, Option.bind_some]
  have hI := hI.s0 0
  rw [gx_ob6]
  rcases m_which (fu := fu) (z := z) (X := X) (v := v) hI hS x y with ⟨q, R, f, i, s, h, e⟩ | ⟨no, e⟩
  · rw [e, gx_b2s]
    obtain ⟨q2, hP, hm, hw⟩ := hI.sq hS s
    rw [if_neg (nI_m1 (by omega))]
    obtain ⟨rfl, hf, rfl, hi⟩ := id h
    have hc := hw.1
    obtain ⟨⟨-, l2⟩, -⟩ := hw.2 f hf
    have r2 : 1600 * q + 200 * f + i < 3200 := by omega
    rw [show (1600 : Int32) * nI q + 200 * nI f + nI i = nI (1600 * q + 200 * f + i) by rw [li1600, li200, pk_mul, pk_mul, nI_add, nI_add]]
    obtain ⟨e1, e2⟩ := (hP.2 f hf).2.2.1 i hi
    simp only [gq_6, r2, Option.bind_some, e1, e2]
    have fin : ∀ {M' a}, MI T P fg P1 M' → a = ofv T R f i w → ∃ M'' a', some (a, go_k 6 z M' X) = some (a', go_k 6 z M'' X) ∧ MI T P fg P1 M'' ∧ ((∃ q R f' i', sl P fg P1 v q R ∧ wh R (nI f) (nI i) f' i' ∧ a' = ofv T R f' i' w) ∨ ((∀ q R f' i', sl P fg P1 v q R → ¬ wh R (nI f) (nI i) f' i') ∧ a' = -1)) := fun {M' a} hm ha => ⟨M', a, rfl, hm, Or.inl ⟨q, R, f, i, s, h, ha⟩⟩
    unfold ofv at fin
    by_cases w0 : w = 0
    · rw [if_pos w0]
      exact fin hI (by rw [if_pos w0])
    · rw [if_neg w0]
      by_cases w1 : w = 1
      · rw [if_pos w1]
        exact fin hI (by rw [if_neg w0, if_pos w1])
      · rw [if_neg w1]
        by_cases w2 : w = 2
        · rw [if_pos w2, gx_ob6, m_isGuarded q2 hP hw hf hi (by omega), gx_b2s]
          by_cases g : gp_gd R f i
          · rw [gz_t g, if_neg (by decide)]
            exact fin hI (by rw [if_neg w0, if_neg w1, if_pos w2, gz_t g])
          · rw [gz_f g, if_pos rfl]
            exact fin hI (by rw [if_neg w0, if_neg w1, if_pos w2, gz_f g])
        · rw [if_neg w2]
          by_cases w3 : w = 3
          · rw [if_pos w3, gx_ob6]
            obtain ⟨M', g1, g2, g3⟩ := m_needs (fu := fu) (z := z) (X := X) q2 hw hS.1 hfu hI.1 hP hm hf hi
            rw [g1, gx_b2s]
            by_cases g : gp_need T R f i
            · rw [gz_t g, if_neg (by decide)]
              exact fin (hI.fd hS s g2 g3) (by rw [if_neg w0, if_neg w1, if_neg w2, if_pos w3, gz_t g])
            · rw [gz_f g, if_pos rfl]
              exact fin (hI.fd hS s g2 g3) (by rw [if_neg w0, if_neg w1, if_neg w2, if_pos w3, gz_f g])
          · rw [if_neg w3]
            by_cases w4 : w = 4
            · rw [if_pos w4, gx_ob6]
              obtain ⟨M', g1, g2, g3, g4⟩ := m_find (fu := fu) (z := z) (X := X) q2 hw hS.1 hfu hI.1 hP hm
              rw [g1, Option.bind_some]
              simp only [gq_6, r2, Option.bind_some]
              rw [gx_ob6]
              unfold gm_X6_bits
              have hT' := g2.rT hI.1
              rw [show (0 : Int32) = nI (gn_s (fun s => nz (gl_m T R f i s)) 0) from rfl, show (nI (gn_s (fun s => nz (gl_m T R f i s)) 0)) = nI 0 from rfl]
              rw [show gm_X6_bits_5 fu fu z (M'.2.2.2.2.1 14 (1600 * q + 200 * f + i)) (nI 0) (nI 0) (go_k 6 z M' X) = _ from m_bits5 hT' hS.1 (g4.1 f hf i hi) (gs_S T) fu 0 (by omega) (by have := hS.1.2.1; omega), gx_b2s]
              exact fin (hI.fd hS s g2 (Or.inr ⟨g3, g4⟩)) (by rw [if_neg w0, if_neg w1, if_neg w2, if_neg w3, if_pos w4, cm_S hS.1])
            · rw [if_neg w4]
              exact fin hI (by rw [if_neg w0, if_neg w1, if_neg w2, if_neg w3, if_neg w4])
  · rw [e, gx_b2s, if_pos rfl]
    exact ⟨_, _, rfl, hI, Or.inr ⟨no, rfl⟩⟩
theorem m_may (hI : MI T P fg P1 M) (hS : SI T P fg P1) (hfu : 300000 ≤ fu) (x y : Int32) : ∃ M' a, gm_X6_may fu z (b32 v) x y (go_k 6 z M X) = some (a, go_k 6 z M' X) ∧ MI T P fg P1 M' ∧ ((∃ q R f i, sl P fg P1 v q R ∧ wh R x y f i ∧ gl_is a (gl_m T R f i)) ∨ ((∀ q R f i, sl P fg P1 v q R → ¬ wh R x y f i) ∧ a = 0)) := by
  unfold gm_X6_may
  simp only [gq_6, Option.bind_some]
  have hI := hI.s0 0
  rw [gx_ob6]
  rcases m_which (fu := fu) (z := z) (X := X) (v := v) hI hS x y with ⟨q, R, f, i, s, h, e⟩ | ⟨no, e⟩
  · rw [e, gx_b2s]
    obtain ⟨q2, hP, hm, hw⟩ := hI.sq hS s
    rw [if_neg (nI_m1 (by omega))]
    obtain ⟨rfl, hf, rfl, hi⟩ := id h
    have hc := hw.1
    obtain ⟨⟨-, l2⟩, -⟩ := hw.2 f hf
    have r2 : 1600 * q + 200 * f + i < 3200 := by omega
    rw [show (1600 : Int32) * nI q + 200 * nI f + nI i = nI (1600 * q + 200 * f + i) by rw [li1600, li200, pk_mul, pk_mul, nI_add, nI_add]]
    obtain ⟨M', g1, g2, g3, g4⟩ := m_find (fu := fu) (z := z) (X := X) q2 hw hS.1 hfu hI.1 hP hm
    rw [gx_ob6, g1, Option.bind_some]
    simp only [gq_6, r2, Option.bind_some]
    exact ⟨M', _, rfl, hI.fd hS s g2 (Or.inr ⟨g3, g4⟩), Or.inl ⟨q, R, f, i, s, h, g4.1 f hf i hi⟩⟩
  · rw [e, gx_b2s, if_pos rfl]
    exact ⟨_, _, rfl, hI, Or.inr ⟨no, rfl⟩⟩
/-- a FUNCTION that is there -/
def wf1 (R : sP) (x : Int32) (f : Nat) : Prop := x = nI f ∧ f < gp_c R
theorem wf1_un {x : Int32} {f f' : Nat} (hw : gp_wf R) (h : wf1 R x f) (h' : wf1 R x f') : f = f' := by
  obtain ⟨rfl, h2⟩ := h
  have hc := hw.1
  exact nI_inj (by omega) (by have := h'.2; omega) h'.1
theorem m_which0 (hI : MI T P fg P1 M) (hS : SI T P fg P1) (x : Int32) : (∃ q R f, sl P fg P1 v q R ∧ wf1 R x f ∧ gm_X6_which fu z (b32 v) x 0 (go_k 6 z M X) = some (nI q, go_k 6 z M X)) ∨
    ((∀ q R f, sl P fg P1 v q R → ¬ wf1 R x f) ∧ gm_X6_which fu z (b32 v) x 0 (go_k 6 z M X) = some (-1, go_k 6 z M X)) := by
  rcases m_which (fu := fu) (z := z) (X := X) (v := v) hI hS x 0 with ⟨q, R, f, i, s, h, e⟩ | ⟨no, e⟩
  · exact Or.inl ⟨q, R, f, s, ⟨h.1, h.2.1⟩, e⟩
  · refine Or.inr ⟨fun q R f s h => no q R f 0 s ⟨h.1, h.2, rfl, ?_⟩, e⟩
    exact ((hI.sq hS s).2.2.2.2 f h.2).1.1
set_option maxHeartbeats 1000000 in
theorem m_set (hI : MI T P fg P1 M) (hS : SI T P fg P1) (hfu : 300000 ≤ fu) (x w : Int32) : ∃ M' a, gm_X6_set fu z (b32 v) x w (go_k 6 z M X) = some (a, go_k 6 z M' X) ∧ MI T P fg P1 M' ∧ ((∃ q R f, sl P fg P1 v q R ∧ wf1 R x f ∧ stv T R f w a) ∨ ((∀ q R f, sl P fg P1 v q R → ¬ wf1 R x f) ∧ a = 0)) := by
  unfold gm_X6_set
  simp only [gq_6, Option.bind_some]
  have hI := hI.s0 0
  rw [gx_ob6]
  rcases m_which0 (fu := fu) (z := z) (X := X) (v := v) hI hS x with ⟨q, R, f, s, h, e⟩ | ⟨no, e⟩
  · rw [e, gx_b2s]
    obtain ⟨q2, hP, hm, hw⟩ := hI.sq hS s
    rw [if_neg (nI_m1 (by omega))]
    obtain ⟨rfl, hf⟩ := id h
    have hc := hw.1
    have r1 : 8 * q + f < 16 := by omega
    rw [show (8 : Int32) * nI q + nI f = nI (8 * q + f) by rw [li8, pk_mul, nI_add]]
    obtain ⟨M', g1, g2, g3, g4⟩ := m_find (fu := fu) (z := z) (X := X) q2 hw hS.1 hfu hI.1 hP hm
    rw [gx_ob6, g1, Option.bind_some]
    simp only [gq_6, r1, Option.bind_some]
    have I' := hI.fd hS s g2 (Or.inr ⟨g3, g4⟩)
    have fin : ∀ {a}, stv T R f w a → ∃ M'' a', some (a, go_k 6 z M' X) = some (a', go_k 6 z M'' X) ∧ MI T P fg P1 M'' ∧ ((∃ q R f', sl P fg P1 v q R ∧ wf1 R (nI f) f' ∧ stv T R f' w a') ∨ ((∀ q R f', sl P fg P1 v q R → ¬ wf1 R (nI f) f') ∧ a' = 0)) := fun {a} ha => ⟨M', a, rfl, I', Or.inl ⟨q, R, f, s, h, ha⟩⟩
    unfold stv at fin
    obtain ⟨l1, l2, l3⟩ := g4.2 f hf
    by_cases w0 : w = 0
    · rw [if_pos w0]
      exact fin (by rw [if_pos w0]; exact l1)
    · rw [if_neg w0]
      by_cases w1 : w = 1
      · rw [if_pos w1]
        exact fin (by rw [if_neg w0, if_pos w1]; exact l2)
      · rw [if_neg w1]
        by_cases w2 : w = 2
        · rw [if_pos w2]
          exact fin (by rw [if_neg w0, if_neg w1, if_pos w2]; exact l3)
        · rw [if_neg w2]
          exact fin (by rw [if_neg w0, if_neg w1, if_neg w2])
  · rw [e, gx_b2s, if_pos rfl]
    exact ⟨_, _, rfl, hI, Or.inr ⟨no, rfl⟩⟩
set_option maxHeartbeats 1000000 in
theorem m_size (hI : MI T P fg P1 M) (hS : SI T P fg P1) (hfu : 300000 ≤ fu) (x w : Int32) : ∃ M' a, gm_X6_size fu z (b32 v) x w (go_k 6 z M X) = some (a, go_k 6 z M' X) ∧ MI T P fg P1 M' ∧ ((∃ q R f, sl P fg P1 v q R ∧ wf1 R x f ∧ a = szv T R f w) ∨ ((∀ q R f, sl P fg P1 v q R → ¬ wf1 R x f) ∧ a = -1)) := by
  unfold gm_X6_size
  simp only [gq_6, Option.bind_some]
  have hI := hI.s0 0
  rw [gx_ob6]
  rcases m_which0 (fu := fu) (z := z) (X := X) (v := v) hI hS x with ⟨q, R, f, s, h, e⟩ | ⟨no, e⟩
  · rw [e, gx_b2s]
    obtain ⟨q2, hP, hm, hw⟩ := hI.sq hS s
    rw [if_neg (nI_m1 (by omega))]
    obtain ⟨rfl, hf⟩ := id h
    have hc := hw.1
    obtain ⟨⟨-, l2⟩, -⟩ := hw.2 f hf
    have r1 : 8 * q + f < 16 := by omega
    rw [show (8 : Int32) * nI q + nI f = nI (8 * q + f) by rw [li8, pk_mul, nI_add]]
    obtain ⟨b1, b2, -⟩ := hP.2 f hf
    simp only [gq_6, r1, Option.bind_some, b1, b2]
    have fin : ∀ {M' a}, MI T P fg P1 M' → a = szv T R f w → ∃ M'' a', some (a, go_k 6 z M' X) = some (a', go_k 6 z M'' X) ∧ MI T P fg P1 M'' ∧ ((∃ q R f', sl P fg P1 v q R ∧ wf1 R (nI f) f' ∧ a' = szv T R f' w) ∨ ((∀ q R f', sl P fg P1 v q R → ¬ wf1 R (nI f) f') ∧ a' = -1)) := fun {M' a} hm ha => ⟨M', a, rfl, hm, Or.inl ⟨q, R, f, s, h, ha⟩⟩
    unfold szv at fin
    have cnt : ∀ k, k ≤ 8 → gm_X6_countOf fu z (nI q) (nI f) (nI k) (go_k 6 z (go_si M 0 0) X) = some (nI (ck R f k), go_k 6 z (go_si M 0 0) X) := fun k hk => m_cOf6 q2 hP hw hf hk (gp_l R f) fu 0 (by omega) (by omega)
    by_cases w0 : w = 0
    · rw [if_pos w0]
      exact fin hI (by rw [if_pos w0])
    · rw [if_neg w0]
      by_cases w1 : w = 1
      · rw [if_pos w1]
        exact fin hI (by rw [if_neg w0, if_pos w1])
      · rw [if_neg w1]
        by_cases w2 : w = 2
        · rw [if_pos w2, gx_ob6, show (4 : Int32) = nI 4 from rfl, cnt 4 (by omega), gx_b2s]
          exact fin hI (by rw [if_neg w0, if_neg w1, if_pos w2])
        · rw [if_neg w2]
          by_cases w3 : w = 3
          · rw [if_pos w3, gx_ob6, show (5 : Int32) = nI 5 from rfl, cnt 5 (by omega), gx_b2s]
            exact fin hI (by rw [if_neg w0, if_neg w1, if_neg w2, if_pos w3])
          · rw [if_neg w3]
            by_cases w4 : w = 4
            · rw [if_pos w4, gx_ob6]
              obtain ⟨M', g1, g2, g3, g4⟩ := m_find (fu := fu) (z := z) (X := X) q2 hw hS.1 hfu hI.1 hP hm
              unfold gm_X6_comeTo
              rw [gx_ob6, g1, Option.bind_some, show gm_X6_comeTo_10 fu fu z (nI q) (nI f) 0 0 (go_k 6 z M' X) = _ from m_come10 q2 (g2.rP hP) g4 hw hf (gp_l R f) fu 0 (by omega) (by omega), gx_b2s]
              exact fin (hI.fd hS s g2 (Or.inr ⟨g3, g4⟩)) (by rw [if_neg w0, if_neg w1, if_neg w2, if_neg w3, if_pos w4])
            · rw [if_neg w4]
              exact fin hI (by rw [if_neg w0, if_neg w1, if_neg w2, if_neg w3, if_neg w4])
  · rw [e, gx_b2s, if_pos rfl]
    exact ⟨_, _, rfl, hI, Or.inr ⟨no, rfl⟩⟩
/-- a HANDLER that is there -/
def wh1 (R : sP) (x y : Int32) (f h : Nat) : Prop := x = nI f ∧ f < gp_c R ∧ y = nI h ∧ h < gp_h R f
set_option maxHeartbeats 1000000 in
theorem m_range (hI : MI T P fg P1 M) (hS : SI T P fg P1) (x y w : Int32) : ∃ a, gm_X6_range fu z (b32 v) x y w (go_k 6 z M X) = some (a, go_k 6 z (go_si M 0 0) X) ∧ ((∃ q R f h, sl P fg P1 v q R ∧ wh1 R x y f h ∧ a = rgv R f h w) ∨ ((∀ q R f h, sl P fg P1 v q R → ¬ wh1 R x y f h) ∧ a = -1)) := by
  unfold gm_X6_range gm_X6_range_46
  simp only [gq_6, Option.bind_some]
  have hI := hI.s0 0
  rw [gx_ob6]
  rcases m_which0 (fu := fu) (z := z) (X := X) (v := v) hI hS x with ⟨q, R, f, s, h, e⟩ | ⟨no, e⟩
  · rw [e, gx_b2s]
    obtain ⟨q2, hP, hm, hw⟩ := hI.sq hS s
    rw [if_neg (nI_m1 (by omega))]
    obtain ⟨rfl, hf⟩ := id h
    have hc := hw.1
    have h6 := (hw.2 f hf).2.1
    obtain ⟨b1, b2, -, b4⟩ := hP.2 f hf
    have bad : (∀ k, y = nI k → ¬ k < gp_h R f) → ∃ a, some ((-1 : Int32), go_k 6 z (go_si M 0 0) X) = some (a, go_k 6 z (go_si M 0 0) X) ∧ ((∃ q R f' h, sl P fg P1 v q R ∧ wh1 R (nI f) y f' h ∧ a = rgv R f' h w) ∨ ((∀ q R f' h, sl P fg P1 v q R → ¬ wh1 R (nI f) y f' h) ∧ a = -1)) := fun hb => ⟨_, rfl, Or.inr ⟨fun q' R' f' k s' hk => by
      obtain ⟨rfl, rfl⟩ := sl_un s s'
      have := nI_inj (by omega) (by have := hk.2.1; omega) hk.1
      subst this
      exact hb k hk.2.2.1 hk.2.2.2, rfl⟩⟩
    by_cases y0 : y < 0
    · rw [if_pos y0]
      exact bad fun k e hk => absurd (e ▸ y0) (nI_pos (by omega))
    · rw [if_neg y0]
      obtain ⟨k, hk, rfl⟩ := nI_of y0
      have r1 : 8 * q + f < 16 := by omega
      rw [show (8 : Int32) * nI q + nI f = nI (8 * q + f) by rw [li8, pk_mul, nI_add]]
      simp only [gq_6, Option.bind_some]
      rw [if_neg (nI_m1 (by omega))]
      simp only [gq_6, r1, Option.bind_some, b2]
      by_cases kh : k < gp_h R f
      · rw [if_pos ((nI_ltI hk (by omega)).mpr kh)]
        have r6 : 6 * (8 * q + f) + k < 96 := by omega
        rw [show (6 : Int32) * nI (8 * q + f) + nI k = nI (6 * (8 * q + f) + k) by rw [li6, pk_mul, nI_add]]
        obtain ⟨c1, c2, c3⟩ := b4 k kh
        simp only [gq_6, r6, Option.bind_some, c1, c2, c3]
        have fin : ∀ {a}, a = rgv R f k w → ∃ a', some (a, go_k 6 z (go_si M 0 0) X) = some (a', go_k 6 z (go_si M 0 0) X) ∧ ((∃ q R f' h, sl P fg P1 v q R ∧ wh1 R (nI f) (nI k) f' h ∧ a' = rgv R f' h w) ∨ ((∀ q R f' h, sl P fg P1 v q R → ¬ wh1 R (nI f) (nI k) f' h) ∧ a' = -1)) := fun {a} ha => ⟨a, rfl, Or.inl ⟨q, R, f, k, s, ⟨rfl, hf, rfl, kh⟩, ha⟩⟩
        unfold rgv at fin
        by_cases w0 : w = 0
        · rw [if_pos w0]
          exact fin (by rw [if_pos w0])
        · rw [if_neg w0]
          by_cases w1 : w = 1
          · rw [if_pos w1]
            exact fin (by rw [if_neg w0, if_pos w1])
          · rw [if_neg w1]
            by_cases w2 : w = 2
            · rw [if_pos w2]
              exact fin (by rw [if_neg w0, if_neg w1, if_pos w2])
            · rw [if_neg w2]
              exact fin (by rw [if_neg w0, if_neg w1, if_neg w2])
      · rw [if_neg (fun q => kh ((nI_ltI hk (by omega)).mp q))]
        refine bad fun k' e hk' => ?_
        have := nI_inj hk (by omega) e
        omega
  · rw [e, gx_b2s, if_pos rfl]
    exact ⟨_, rfl, Or.inr ⟨fun q R f h s hh => no q R f s ⟨hh.1, hh.2.1⟩, rfl⟩⟩
end MR
