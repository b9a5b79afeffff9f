/-! THE REFERENCE'S METHODS, one object -/
noncomputable def gz (p : Prop) : Int32 := @ite Int32 p (Classical.propDecidable p) 1 0
theorem gz_t {p : Prop} (h : p) : gz p = 1 := by simp [gz, h]
theorem gz_f {p : Prop} (h : ¬ p) : gz p = 0 := by simp [gz, h]
theorem gz_c {p q : Prop} (h : p ↔ q) : gz p = gz q := by
  by_cases hp : p
  · rw [gz_t hp, gz_t (h.mp hp)]
  · rw [gz_f hp, gz_f fun hq => hp (h.mpr hq)]
theorem gz_0 {p : Prop} : gz p = 0 ↔ ¬ p := by
  by_cases hp : p
  · rw [gz_t hp]; exact ⟨fun h => absurd h (by decide), fun h => absurd hp h⟩
  · rw [gz_f hp]; exact ⟨fun _ => hp, fun _ => rfl⟩
theorem gz_bz (p : Prop) : gx_bz (gz p) = some (gz p) := by
  by_cases hp : p
  · rw [gz_t hp]; rfl
  · rw [gz_f hp]; rfl
theorem gz_nar (p : Prop) : vp_nar .boolean (gz p) = gz p := by
  by_cases hp : p
  · rw [gz_t hp]; rfl
  · rw [gz_f hp]; rfl
theorem nar0 : vp_nar .boolean (0 : Int32) = 0 := rfl
theorem nar1 : vp_nar .boolean (1 : Int32) = 1 := rfl
theorem li0 : (0 : Int32) = nI 0 := rfl
theorem li1 : (1 : Int32) = nI 1 := rfl
theorem li2 : (2 : Int32) = nI 2 := rfl
theorem li6 : (6 : Int32) = nI 6 := rfl
theorem li8 : (8 : Int32) = nI 8 := rfl
theorem li15 : (15 : Int32) = nI 15 := rfl
theorem li16 : (16 : Int32) = nI 16 := rfl
theorem li48 : (48 : Int32) = nI 48 := rfl
theorem li60 : (60 : Int32) = nI 60 := rfl
theorem li61 : (61 : Int32) = nI 61 := rfl
theorem li200 : (200 : Int32) = nI 200 := rfl
theorem li256 : (256 : Int32) = nI 256 := rfl
theorem li1600 : (1600 : Int32) = nI 1600 := rfl
theorem li58560 : (58560 : Int32) = nI 58560 := rfl
abbrev mi (M : go_O) : Nat → Nat → Int32 := M.2.2.2.1
abbrev ml (M : go_O) : Nat → Nat → Int64 := M.2.2.2.2.1
def rm_T (T : sT) (M : go_O) : Prop := M.1 1 = nI (gs_S T) ∧ (∀ c s t, c < 16 → s < 60 → t < 61 → mi M 2 (61 * (60 * c + s) + t) = if gs_w T c s t = true then 1 else 0) ∧ ∀ c, c < 16 → mi M 3 c = if gs_n T c = true then 1 else 0
def rm_P (q : Nat) (P : sP) (M : go_O) : Prop := mi M 4 q = nI (gp_c P) ∧ ∀ f, f < gp_c P → mi M 5 (8 * q + f) = nI (gp_l P f) ∧ mi M 6 (8 * q + f) = nI (gp_h P f) ∧ (∀ i, i < gp_l P f → mi M 7 (1600 * q + 200 * f + i) = nI (gp_k P f i) ∧ mi M 8 (1600 * q + 200 * f + i) = nI (gp_n P f i)) ∧
  ∀ h, h < gp_h P f → mi M 9 (6 * (8 * q + f) + h) = nI (gp_a P f h) ∧ mi M 10 (6 * (8 * q + f) + h) = nI (gp_b P f h) ∧ mi M 11 (6 * (8 * q + f) + h) = nI (gp_g P f h)
def rm_L (q : Nat) (T : sT) (P : sP) (M : go_O) : Prop := gl_ok T P (fun f i => ml M 14 (1600 * q + 200 * f + i)) (fun f => ml M 15 (8 * q + f)) (fun f => ml M 16 (8 * q + f)) (fun f => ml M 17 (8 * q + f))
theorem nI_in0 {x : Int32} (h0 : ¬ x < 0) {n : Nat} (hn : n < 2 ^ 31) (h : ¬ nI n ≤ x) : ∃ j, j < n ∧ x = nI j := by
  obtain ⟨j, hj, rfl⟩ := nI_of h0
  exact ⟨j, Nat.not_le.mp fun q => h ((nI_leI hn hj).mpr q), rfl⟩
set_option maxHeartbeats 1000000 in
/-- isThere: whether INSTRUCTION i of FUNCTION f is there -/
theorem m_isThere {fu z q : Nat} {P : sP} {M : go_O} {X : gx_H} (hq : q < 2) (hP : rm_P q P M) (hw : gp_wf P) (f i : Int32) : gm_X6_isThere fu z (nI q) f i (go_k 6 z M X) = some (gz (∃ a b, f = nI a ∧ i = nI b ∧ a < gp_c P ∧ b < gp_l P a), go_k 6 z M X) := by
  have no : ∀ {p : Prop}, (¬ p) → some ((0 : Int32), go_k 6 z M X) = some (gz p, go_k 6 z M X) := fun h => by rw [gz_f h]
  unfold gm_X6_isThere gm_X6_isThere_37
  by_cases f0 : f < 0
  · rw [if_pos f0]
    refine no fun ⟨a, b, e, _, ha, _⟩ => ?_
    rw [e] at f0
    exact absurd f0 (nI_pos (by have := hw.1; omega))
  · rw [if_neg f0]
    simp only [gq_6, hq, Option.bind_some, hP.1]
    have hc := hw.1
    by_cases f1 : nI (gp_c P) ≤ f
    · rw [if_pos f1]
      refine no fun ⟨a, b, e, _, ha, _⟩ => ?_
      rw [e] at f1
      exact absurd ((nI_leI (by omega) (by omega)).mp f1) (by omega)
    · rw [if_neg f1]
      obtain ⟨a, ha, rfl⟩ := nI_in0 f0 (by omega) f1
      obtain ⟨hl, -⟩ := hP.2 a ha
      obtain ⟨⟨-, hl2⟩, -⟩ := hw.2 a ha
      have h16 : 8 * q + a < 16 := by omega
      by_cases i0 : i < 0
      · rw [if_pos i0]
        refine no fun ⟨a', b, _, e, ha', hb⟩ => ?_
        obtain ⟨⟨-, hl3⟩, -⟩ := hw.2 a' ha'
        rw [e] at i0
        exact absurd i0 (nI_pos (by omega))
      · rw [if_neg i0]
        simp only [gq_6, li8, pk_mul, nI_add, h16, Option.bind_some, hl]
        by_cases i1 : nI (gp_l P a) ≤ i
        · rw [if_pos i1]
          refine no fun ⟨a', b, e1, e, ha', hb⟩ => ?_
          have : a = a' := (nI_eq (by omega) (by omega)).mp e1
          subst this
          rw [e] at i1
          exact absurd ((nI_leI (by omega) (by omega)).mp i1) (by omega)
        · rw [if_neg i1]
          obtain ⟨b, hb, rfl⟩ := nI_in0 i0 (by omega) i1
          rw [gz_t ⟨a, b, rfl, rfl, ha, hb⟩]
