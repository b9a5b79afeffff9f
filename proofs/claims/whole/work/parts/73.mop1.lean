/-! the model's methods that change it (without forge and take) -/
/-- what both sides hold -/
def SI (T : sT) (P : sP) (fg : Prop) (P1 : sP) : Prop := gs_wf T ∧ gp_wf P ∧ (fg → gp_wf P1 ∧ fit T P)
def MI (T : sT) (P : sP) (fg : Prop) (P1 : sP) (M : go_O) : Prop := rm_T T M ∧ rm_P 0 P M ∧ mf 0 T P M ∧ M.1 12 = gz fg ∧ (fg → rm_P 1 P1 M ∧ mf 1 T P1 M)
section MO
variable {fu z : Nat} {T : sT} {P P1 : sP} {fg : Prop} {M : go_O} {X : gx_H}
theorem MI.s0 (h : MI T P fg P1 M) (v : Int32) : MI T P fg P1 (go_si M 0 v) := h
def chg (M : go_O) : go_O := go_ai (go_ai (go_si (go_si M 0 0) 12 0) 13 0 0) 13 1 0
theorem narI0 : vp_nar .boolean (nI 0) = nI 0 := rfl
theorem narI1 : vp_nar .boolean (nI 1) = nI 1 := rfl
theorem m_change : gm_X6_change fu z (go_k 6 z M X) = some (go_k 6 z (chg M) X) := by
  unfold gm_X6_change
  rw [li1, li0]
  have r0 : 0 < 2 := by omega
  have r1 : 1 < 2 := by omega
  simp only [gq_6, r0, r1, Option.bind_some, narI0]
  rfl
theorem chg_i (a j : Nat) : mi (chg M) a j = if a = 13 ∧ (j = 0 ∨ j = 1) then 0 else mi M a j := by
  unfold chg
  rw [mi_ai]
  by_cases c : a = 13 ∧ j = 1
  · rw [if_pos c, if_pos ⟨c.1, Or.inr c.2⟩]
  · rw [if_neg c, mi_ai]
    by_cases c2 : a = 13 ∧ j = 0
    · rw [if_pos c2, if_pos ⟨c2.1, Or.inl c2.2⟩]
    · rw [if_neg c2, if_neg (by omega)]
      rfl
theorem rmT_fr {M' : go_O} (h1 : M'.1 1 = M.1 1) (h2 : ∀ a j, a = 2 ∨ a = 3 → mi M' a j = mi M a j) (h : rm_T T M) : rm_T T M' :=
  ⟨h1.trans h.1, fun c s t a b d => (h2 _ _ (Or.inl rfl)).trans (h.2.1 c s t a b d), fun c hc => (h2 _ _ (Or.inr rfl)).trans (h.2.2 c hc)⟩
theorem rmP_fr {M' : go_O} {q : Nat} (h4 : mi M' 4 q = mi M 4 q) (h5 : ∀ a j, (a = 5 ∨ a = 6) → 8 * q ≤ j → j < 8 * q + 8 → mi M' a j = mi M a j) (h7 : ∀ a j, (a = 7 ∨ a = 8) → 1600 * q ≤ j → j < 1600 * q + 1600 → mi M' a j = mi M a j) (h9 : ∀ a j, (a = 9 ∨ a = 10 ∨ a = 11) → 48 * q ≤ j → j < 48 * q + 48 → mi M' a j = mi M a j) (hw : gp_wf P) (h : rm_P q P M) : rm_P q P M' := by
  have hc := hw.1
  refine ⟨h4.trans h.1, fun f hf => ?_⟩
  obtain ⟨a1, a2, a3, a4⟩ := h.2 f hf
  obtain ⟨⟨-, l2⟩, l3, -, -⟩ := hw.2 f hf
  exact ⟨(h5 5 _ (by omega) (by omega) (by omega)).trans a1, (h5 6 _ (by omega) (by omega) (by omega)).trans a2, fun i hi => ⟨(h7 7 _ (by omega) (by omega) (by omega)).trans (a3 i hi).1, (h7 8 _ (by omega) (by omega) (by omega)).trans (a3 i hi).2⟩,
    fun k hk => ⟨(h9 9 _ (by omega) (by omega) (by omega)).trans (a4 k hk).1, (h9 10 _ (by omega) (by omega) (by omega)).trans (a4 k hk).2.1, (h9 11 _ (by omega) (by omega) (by omega)).trans (a4 k hk).2.2⟩⟩
theorem m_isState (hT : rm_T T M) (hw : gs_wf T) (x : Int32) : gm_X6_isState fu z x (go_k 6 z M X) = some (gz (∃ c, x = nI c ∧ c < gs_S T), go_k 6 z M X) := by
  have h60 := hw.2.1
  unfold gm_X6_isState gm_X6_isState_16
  have r := in_rng (x := x) (n := gs_S T) (by omega)
  by_cases x0 : x < 0
  · rw [if_pos x0, gz_f (r.1 x0)]
  · rw [if_neg x0]
    simp only [gq_6, Option.bind_some, hT.1]
    by_cases x1 : nI (gs_S T) ≤ x
    · rw [if_pos x1, gz_f (r.2.1 x0 x1)]
    · rw [if_neg x1, gz_t (r.2.2 x0 x1)]
theorem m_canWay (hT : rm_T T M) (hw : gs_wf T) (x y v : Int32) : gm_X6_canWay fu z x y v (go_k 6 z M X) = some (gz (∃ c s t, cb T x y v c s t), go_k 6 z M X) := by
  unfold gm_X6_canWay gm_X6_canWay_31 gm_X6_canWay_35
  have r := in_rng (x := x) (n := 16) (by omega)
  rw [li16]
  have no : (¬ ∃ j, x = nI j ∧ j < 16) → gz (∃ c s t, cb T x y v c s t) = 0 := fun h => gz_f fun ⟨c, s, t, h1, h2, _⟩ => h ⟨c, h1, h2⟩
  by_cases x0 : x < 0
  · rw [if_pos x0, no (r.1 x0)]
  · rw [if_neg x0]
    by_cases x1 : nI 16 ≤ x
    · rw [if_pos x1, no (r.2.1 x0 x1)]
    · rw [if_neg x1, gx_ob6, m_isState hT hw, gx_b2s]
      obtain ⟨c, a1, a2⟩ := r.2.2 x0 x1
      by_cases h2 : ∃ c, y = nI c ∧ c < gs_S T
      · rw [gz_t h2, if_neg (by decide)]
        obtain ⟨s, b1, b2⟩ := h2
        by_cases h3 : v = -1
        · rw [if_pos h3, gz_t ⟨c, s, 60, a1, a2, b1, b2, Or.inl ⟨h3, rfl⟩⟩]
        · rw [if_neg h3, gx_ob6, m_isState hT hw, gx_b2s]
          by_cases h4 : ∃ c, v = nI c ∧ c < gs_S T
          · rw [gz_t h4, if_neg (by decide)]
            obtain ⟨t, d1, d2⟩ := h4
            rw [gz_t ⟨c, s, t, a1, a2, b1, b2, Or.inr ⟨d1, d2⟩⟩]
          · rw [gz_f h4, if_pos rfl, gz_f]
            rintro ⟨c, s, t, -, -, -, -, ⟨h, -⟩ | ⟨h, h'⟩⟩
            · exact h3 h
            · exact h4 ⟨t, h, h'⟩
      · rw [gz_f h2, if_pos rfl, gz_f]
        rintro ⟨c, s, t, -, -, h, h', -⟩
        exact h2 ⟨s, h, h'⟩
theorem m_wayC (hw : gs_wf T) {x y v : Int32} {c s t : Nat} (h : cb T x y v c s t) (Y : gx_H) : gm_X6_wayAt fu x y v Y = some (nI (61 * (60 * c + s) + t), Y) ∧ 61 * (60 * c + s) + t < 58560 := by
  obtain ⟨b1, b2, b3⟩ := cb_t hw h
  obtain ⟨rfl, h2, rfl, h4, ⟨rfl, rfl⟩ | ⟨rfl, h6⟩⟩ := h
  · exact ⟨m_wayAtN, by omega⟩
  · exact ⟨m_wayAt (by omega), by omega⟩
theorem m_wayV (hT : rm_T T M) (hw : gs_wf T) {x y v : Int32} {c s t : Nat} (h : cb T x y v c s t) : M.2.2.2.1 2 (61 * (60 * c + s) + t) = gz (gs_w T c s t = true) := by
  obtain ⟨b1, b2, b3⟩ := cb_t hw h
  rw [show M.2.2.2.1 2 (61 * (60 * c + s) + t) = _ from hT.2.1 c s t h.2.1 b1 b2]
  by_cases w : gs_w T c s t = true
  · rw [if_pos w, gz_t w]
  · rw [if_neg w, gz_f w]
theorem m_goes (hI : MI T P fg P1 M) (hw : gs_wf T) (x y v : Int32) : gm_X6_goes fu z x y v (go_k 6 z M X) = some (gz (∃ c s t, cb T x y v c s t ∧ gs_w T c s t = true), go_k 6 z (go_si M 0 0) X) := by
  have hT : rm_T T (go_si M 0 0) := (hI.s0 0).1
  unfold gm_X6_goes gm_X6_goes_33
  simp only [gq_6, Option.bind_some]
  rw [gx_ob6, m_canWay hT hw, gx_b2s]
  by_cases h : ∃ c s t, cb T x y v c s t
  · rw [gz_t h, if_neg (by decide)]
    obtain ⟨c, s, t, h⟩ := h
    rw [(m_wayC hw h _).1]
    have r := (m_wayC (fu := fu) hw h X).2
    simp only [gq_6, r, Option.bind_some, gx_b2s]
    rw [m_wayV hT hw h]
    by_cases w : gs_w T c s t = true
    · rw [gz_t w, if_neg (by decide), gz_t ⟨c, s, t, h, w⟩]
    · rw [gz_f w, if_pos rfl, gz_f]
      rintro ⟨c', s', t', h', w'⟩
      have h60 := hw.2.1
      obtain ⟨b1, b2, b3⟩ := cb_t hw h
      obtain ⟨b1', b2', b3'⟩ := cb_t hw h'
      obtain ⟨rfl, h2, rfl, h4, h5⟩ := h
      obtain ⟨e1, h2', e3, h4', h5'⟩ := h'
      have e1 := nI_inj (by omega) (by omega) e1
      have e3 := nI_inj (by omega) (by omega) e3
      subst e1 e3
      have : t = t' := by
        rcases h5 with ⟨rfl, rfl⟩ | ⟨rfl, h6⟩
        · rcases h5' with ⟨-, rfl⟩ | ⟨e, h6⟩
          · rfl
          · exact absurd e.symm (nI_m1 (by omega))
        · rcases h5' with ⟨e, rfl⟩ | ⟨e, h6'⟩
          · exact absurd e (nI_m1 (by omega))
          · exact nI_inj (by omega) (by omega) e
      subst this
      exact w w'
  · rw [gz_f h, if_pos rfl, gz_f]
    rintro ⟨c, s, t, h', -⟩
    exact h ⟨c, s, t, h'⟩
/-- changed: nothing is found, nothing is forged -/
theorem MI_chg {M' : go_O} {T' : sT} {P' : sP} (hT : rm_T T' M') (hP : rm_P 0 P' M') (h13 : mi M' 13 0 = 0) (h12 : M'.1 12 = 0) : MI T' P' False P1 M' := ⟨hT, hP, Or.inl h13, by rw [h12, gz_f (fun h => h)], False.elim⟩
theorem rmT_tw (hT : rm_T T M) (hw : gs_wf T) {x y v : Int32} {c s t : Nat} (h : cb T x y v c s t) : rm_T (tw T c s t) (go_ai M 2 (61 * (60 * c + s) + t) 1) := by
  obtain ⟨b1, b2, b3⟩ := cb_t hw h
  refine ⟨hT.1, fun c' s' t' q1 q2 q3 => ?_, fun c' hc' => ?_⟩
  · rw [mi_ai]
    show _ = if (if c' = c ∧ s' = s ∧ t' = t then true else T.2.1 c' s' t') = true then 1 else 0
    by_cases cc : c' = c ∧ s' = s ∧ t' = t
    · rw [if_pos ⟨rfl, by rw [cc.1, cc.2.1, cc.2.2]⟩, if_pos cc, if_pos rfl]
    · rw [if_neg (by omega), if_neg cc]
      exact hT.2.1 c' s' t' q1 q2 q3
  · rw [mi_ai, if_neg (by omega)]
    exact hT.2.2 c' hc'
set_option maxHeartbeats 1000000 in
theorem m_way (hI : MI T P fg P1 M) (hw : gs_wf T) (hp : gp_wf P) (x y v : Int32) : ∃ M', gm_X6_way fu z x y v (go_k 6 z M X) = some (gz (∃ c s t, cb T x y v c s t ∧ ¬ gs_w T c s t = true), go_k 6 z M' X) ∧
    ((¬ ∃ c s t, cb T x y v c s t ∧ ¬ gs_w T c s t = true) → MI T P fg P1 M') ∧ ∀ c s t, cb T x y v c s t → ¬ gs_w T c s t = true → MI (tw T c s t) P False P1 M' := by
  have hT : rm_T T (go_si M 0 0) := (hI.s0 0).1
  have uni : ∀ c s t c' s' t', cb T x y v c s t → cb T x y v c' s' t' → c = c' ∧ s = s' ∧ t = t' := by
    intro c s t c' s' t' h h'
    have h60 := hw.2.1
    obtain ⟨b1, b2, b3⟩ := cb_t hw h
    obtain ⟨b1', b2', b3'⟩ := cb_t hw h'
    obtain ⟨rfl, h2, rfl, h4, h5⟩ := h
    obtain ⟨e1, h2', e3, h4', h5'⟩ := h'
    refine ⟨nI_inj (by omega) (by omega) e1, nI_inj (by omega) (by omega) e3, ?_⟩
    rcases h5 with ⟨rfl, rfl⟩ | ⟨rfl, h6⟩
    · rcases h5' with ⟨-, rfl⟩ | ⟨e, h6⟩
      · rfl
      · exact absurd e.symm (nI_m1 (by omega))
    · rcases h5' with ⟨e, rfl⟩ | ⟨e, h6'⟩
      · exact absurd e (nI_m1 (by omega))
      · exact nI_inj (by omega) (by omega) e
  unfold gm_X6_way
  simp only [gq_6, Option.bind_some]
  rw [gx_ob6, m_canWay hT hw, gx_b2s]
  by_cases h : ∃ c s t, cb T x y v c s t
  · rw [gz_t h, if_neg (by decide)]
    obtain ⟨c, s, t, h⟩ := h
    rw [(m_wayC hw h _).1]
    have r := (m_wayC (fu := fu) hw h X).2
    simp only [gq_6, r, Option.bind_some, gx_b2s]
    rw [m_wayV hT hw h]
    by_cases w : gs_w T c s t = true
    · rw [gz_t w, if_neg (by decide)]
      refine ⟨go_si M 0 0, ?_, fun _ => hI.s0 0, fun c' s' t' h' w' => ?_⟩
      · rw [gz_f]
        rintro ⟨c', s', t', h', w'⟩
        obtain ⟨rfl, rfl, rfl⟩ := uni _ _ _ _ _ _ h h'
        exact w' w
      · obtain ⟨rfl, rfl, rfl⟩ := uni _ _ _ _ _ _ h h'
        exact absurd w w'
    · rw [gz_f w, if_pos rfl, gx_ob6, m_change, Option.bind_some]
      simp only [gq_6, Option.bind_some]
      rw [(m_wayC hw h _).1, gx_b2s]
      simp only [gq_6, r, nar1, Option.bind_some]
      refine ⟨_, by rw [gz_t ⟨c, s, t, h, w⟩], fun no => absurd ⟨c, s, t, h, w⟩ no, fun c' s' t' h' w' => ?_⟩
      obtain ⟨rfl, rfl, rfl⟩ := uni _ _ _ _ _ _ h h'
      have T1 : rm_T T (chg (go_si M 0 0)) := rmT_fr rfl (fun a j ha => by rw [chg_i, if_neg (by omega)]) hI.1
      refine MI_chg (rmT_tw T1 hw h) ?_ ?_ rfl
      · refine rmP_fr ?_ ?_ ?_ ?_ hp hI.2.1
        · rw [mi_ai, if_neg (by omega), chg_i, if_neg (by omega)]; rfl
        · intro a j ha _ _
          rw [mi_ai, if_neg (by omega), chg_i, if_neg (by omega)]; rfl
        · intro a j ha _ _
          rw [mi_ai, if_neg (by omega), chg_i, if_neg (by omega)]; rfl
        · intro a j ha _ _
          rw [mi_ai, if_neg (by omega), chg_i, if_neg (by omega)]; rfl
      · rw [mi_ai, if_neg (by omega), chg_i, if_pos (by omega)]
  · rw [gz_f h, if_pos rfl]
    refine ⟨go_si M 0 0, ?_, fun _ => hI.s0 0, fun c s t h' _ => absurd ⟨c, s, t, h'⟩ h⟩
    rw [gz_f]
    rintro ⟨c, s, t, h', -⟩
    exact h ⟨c, s, t, h'⟩
end MO
