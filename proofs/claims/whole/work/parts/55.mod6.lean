/-! the reference: find -/
section MF
variable {fu z q : Nat} {T : sT} {P : sP} {X : gx_H}
theorem ml_al (M : go_O) (k i : Nat) (v : Int64) (a j : Nat) : ml (go_al M k i v) a j = if a = k ∧ j = i then v else ml M a j := by
  show go_w (ml M) k i v a j = _
  by_cases h1 : a = k
  · subst h1
    rw [go_w_s]
    by_cases h2 : j = i
    · rw [h2, go_u_s, if_pos ⟨rfl, rfl⟩]
    · rw [go_u_n h2, if_neg fun h => h2 h.2]
  · rw [go_w_n h1, if_neg fun h => h1 h.1]
theorem mi_ai (M : go_O) (k i : Nat) (v : Int32) (a j : Nat) : mi (go_ai M k i v) a j = if a = k ∧ j = i then v else mi M a j := by
  show go_w (mi M) k i v a j = _
  by_cases h1 : a = k
  · subst h1
    rw [go_w_s]
    by_cases h2 : j = i
    · rw [h2, go_u_s, if_pos ⟨rfl, rfl⟩]
    · rw [go_u_n h2, if_neg fun h => h2 h.2]
  · rw [go_w_n h1, if_neg fun h => h1 h.1]
theorem si_at (M : go_O) (k : Nat) (v : Int32) (j : Nat) : (go_si M k v).1 j = if j = k then v else M.1 j := rfl
set_option maxHeartbeats 1000000 in
theorem m_find23 (hq : q < 2) : ∀ (d n k : Nat) (M : go_O), 1600 * q ≤ k → k + d = 1600 * (q + 1) → d < n →
    ∃ M', gm_X6_find_23 fu n z (nI q) (nI k) (go_k 6 z M X) = gm_X6_find_52 fu fu z (nI q) (nI (8 * q)) (go_k 6 z M' X) ∧ (∀ a i, mi M' a i = mi M a i) ∧ (∀ j, M'.1 j = M.1 j) ∧ ∀ a i, ml M' a i = if a = 14 ∧ k ≤ i ∧ i < 1600 * (q + 1) then 0 else ml M a i
  | d, 0, k, M, _, _, hn => absurd hn (Nat.not_lt_zero _)
  | d, n + 1, k, M, hk, hd, hn => by
    rw [gm_X6_find_23]
    simp only [li1600, li8, li1, pk_mul, nI_add]
    by_cases e : d = 0
    · rw [if_pos ((nI_leI (by omega) (by omega)).mpr (by omega))]
      exact ⟨M, rfl, fun _ _ => rfl, fun _ => rfl, fun a i => by rw [if_neg (by omega)]⟩
    · rw [if_neg (fun c => absurd ((nI_leI (by omega) (by omega)).mp c) (by omega))]
      have r1 : k < 3200 := by omega
      simp only [gq_6, r1, Option.bind_some]
      obtain ⟨M', g1, g2, g3, g4⟩ := m_find23 hq (d - 1) n (k + 1) (go_al M 14 k 0) (by omega) (by omega) (by omega)
      refine ⟨M', g1, g2, g3, fun a i => ?_⟩
      rw [g4, ml_al]
      by_cases h1 : a = 14 ∧ i = k
      · rw [if_neg (by omega), if_pos h1, if_pos (by omega)]
      · rw [if_neg h1]
        by_cases h2 : a = 14 ∧ k + 1 ≤ i ∧ i < 1600 * (q + 1)
        · rw [if_pos h2, if_pos (by omega)]
        · rw [if_neg h2, if_neg (by omega)]
set_option maxHeartbeats 1000000 in
theorem m_find52 (hq : q < 2) (hc : gp_c P ≤ 8) : ∀ (d n k : Nat) (M : go_O), rm_P q P M → 8 * q ≤ k → k + d = 8 * q + 8 → d < n →
    ∃ M', gm_X6_find_52 fu n z (nI q) (nI k) (go_k 6 z M X) = gm_X6_find_118 fu fu z (nI q) (go_k 6 z M' X) ∧ (∀ a i, mi M' a i = mi M a i) ∧ M'.1 18 = 1 ∧ (∀ j, j ≠ 18 → M'.1 j = M.1 j) ∧ ∀ a i, ml M' a i = if a = 15 ∧ i = 8 * q then (if 0 < gp_c P then 1 else 0) else if (a = 15 ∨ a = 16 ∨ a = 17) ∧ k ≤ i ∧ i < 8 * q + 8 then 0 else ml M a i
  | d, 0, k, M, _, _, _, hn => absurd hn (Nat.not_lt_zero _)
  | d, n + 1, k, M, hP, hk, hd, hn => by
    rw [gm_X6_find_52]
    simp only [li8, pk_mul, nI_add]
    by_cases e : d = 0
    · rw [if_pos ((nI_leI (by omega) (by omega)).mpr (by omega))]
      have r1 : 8 * q < 16 := by omega
      simp only [gq_6, hq, Option.bind_some, hP.1]
      unfold gm_X6_find_112
      simp only [gq_6, r1, Option.bind_some]
      have fin : ∀ v : Int64, ∃ M', gm_X6_find_118 fu fu z (nI q) (go_k 6 z (go_si (go_al M 15 (8 * q) v) 18 1) X) = gm_X6_find_118 fu fu z (nI q) (go_k 6 z M' X) ∧ (∀ a i, mi M' a i = mi M a i) ∧ M'.1 18 = 1 ∧ (∀ j, j ≠ 18 → M'.1 j = M.1 j) ∧ ∀ a i, ml M' a i = if a = 15 ∧ i = 8 * q then v else if (a = 15 ∨ a = 16 ∨ a = 17) ∧ k ≤ i ∧ i < 8 * q + 8 then 0 else ml M a i := fun v => by
        refine ⟨_, rfl, fun _ _ => rfl, ?_, fun j hj => ?_, fun a i => ?_⟩
        · rw [si_at, if_pos rfl]
        · rw [si_at, if_neg hj]
          rfl
        · show ml (go_al M 15 (8 * q) v) a i = _
          rw [ml_al]
          by_cases h : a = 15 ∧ i = 8 * q
          · rw [if_pos h, if_pos h]
          · rw [if_neg h, if_neg h, if_neg (by omega)]
      by_cases h0 : 0 < gp_c P
      · rw [if_neg (nI_nle h0 (by omega))]
        simp only [if_pos h0]
        exact fin 1
      · rw [if_pos (by rw [show gp_c P = 0 by omega]; decide)]
        simp only [if_neg h0]
        exact fin 0
    · rw [if_neg (fun c => absurd ((nI_leI (by omega) (by omega)).mp c) (by omega))]
      have r1 : k < 16 := by omega
      simp only [gq_6, r1, Option.bind_some]
      obtain ⟨M', g1, g2, g3, g4, g5⟩ := m_find52 hq hc (d - 1) n (k + 1) (go_al (go_al (go_al M 15 k 0) 16 k 0) 17 k 0) hP (by omega) (by omega) (by omega)
      refine ⟨M', by rw [nI_1]; exact g1, g2, g3, g4, fun a i => ?_⟩
      rw [g5, ml_al, ml_al, ml_al]
      by_cases h : a = 15 ∧ i = 8 * q
      · rw [if_pos h, if_pos h]
      · rw [if_neg h, if_neg h]
        by_cases h1 : (a = 15 ∨ a = 16 ∨ a = 17) ∧ k + 1 ≤ i ∧ i < 8 * q + 8
        · rw [if_pos h1, if_pos (by omega)]
        · rw [if_neg h1]
          by_cases h2 : (a = 15 ∨ a = 16 ∨ a = 17) ∧ k ≤ i ∧ i < 8 * q + 8
          · rw [if_pos h2]
            by_cases e1 : a = 17 ∧ i = k
            · rw [if_pos e1]
            · rw [if_neg e1]
              by_cases e2 : a = 16 ∧ i = k
              · rw [if_pos e2]
              · rw [if_neg e2, if_pos (by omega)]
          · rw [if_neg h2, if_neg (by omega), if_neg (by omega), if_neg (by omega)]
/-- what find leaves as it was -/
def rf (q : Nat) (M M' : go_O) : Prop := (∀ a i, (a ≠ 13 ∨ i ≠ q) → mi M' a i = mi M a i) ∧ (∀ j, j ≠ 18 → M'.1 j = M.1 j) ∧ ∀ k i, (k = 14 → i < 1600 * q ∨ 1600 * q + 1600 ≤ i) → (k ≠ 14 → i < 8 * q ∨ 8 * q + 8 ≤ i) → ml M' k i = ml M k i
theorem rf.rP {M M' : go_O} (h : rf q M M') {p : Nat} {R : sP} (hR : rm_P p R M) : rm_P p R M' := by
  unfold rm_P at hR ⊢
  refine ⟨(h.1 _ _ (by omega)).trans hR.1, fun f hf => ?_⟩
  obtain ⟨a1, a2, a3, a4⟩ := hR.2 f hf
  refine ⟨(h.1 _ _ (by omega)).trans a1, (h.1 _ _ (by omega)).trans a2, fun i hi => ⟨(h.1 _ _ (by omega)).trans (a3 i hi).1, (h.1 _ _ (by omega)).trans (a3 i hi).2⟩, fun i hi => ⟨(h.1 _ _ (by omega)).trans (a4 i hi).1, (h.1 _ _ (by omega)).trans (a4 i hi).2.1, (h.1 _ _ (by omega)).trans (a4 i hi).2.2⟩⟩
theorem rf.rT {M M' : go_O} (h : rf q M M') {R : sT} (hR : rm_T R M) : rm_T R M' :=
  ⟨(h.2.1 1 (by omega)).trans hR.1, fun c s t a b d => (h.1 _ _ (by omega)).trans (hR.2.1 c s t a b d), fun c hc => (h.1 _ _ (by omega)).trans (hR.2.2 c hc)⟩
theorem rf.rL {M M' : go_O} (h : rf q M M') (hq : q < 2) {p : Nat} (hp : p < 2) (hne : p ≠ q) {R : sT} {S : sP} (hS : gp_wf S) (hR : rm_L p R S M) : rm_L p R S M' := by
  have hc := hS.1
  refine ⟨fun f hf i hi => ?_, fun f hf => ?_⟩
  · have hl := (hS.2 f hf).1.2
    have := hR.1 f hf i hi
    dsimp only at this ⊢
    rw [h.2.2 14 _ (fun _ => by omega) (fun e => absurd rfl e)]
    exact this
  · have := hR.2 f hf
    dsimp only at this ⊢
    rw [h.2.2 15 _ (fun e => by omega) (fun _ => by omega), h.2.2 16 _ (fun e => by omega) (fun _ => by omega), h.2.2 17 _ (fun e => by omega) (fun _ => by omega)]
    exact this
theorem jm_bd (M : go_O) : ∃ j, jm M = j ∧ j ≤ 210000 := by
  refine ⟨_, rfl, ?_⟩
  have a := gn_bd (f := fun k => gb_u (ml M 14 k)) (c := 64) 3200 (fun i _ => gb_u64 _)
  have b := gn_bd (f := fun k => gb_u (ml M 15 k)) (c := 64) 16 (fun i _ => gb_u64 _)
  have c := gn_bd (f := fun k => gb_u (ml M 16 k)) (c := 64) 16 (fun i _ => gb_u64 _)
  have d := gn_bd (f := fun k => gb_u (ml M 17 k)) (c := 64) 16 (fun i _ => gb_u64 _)
  unfold jm
  omega
set_option maxHeartbeats 1000000 in
theorem m_find {M : go_O} (hq : q < 2) (hw : gp_wf P) (hTw : gs_wf T) (hfu : 300000 ≤ fu) (hT : rm_T T M) (hP : rm_P q P M) (hd : mi M 13 q = 0 ∨ (mi M 13 q = 1 ∧ rm_L q T P M)) :
    ∃ M', gm_X6_find fu z (nI q) (go_k 6 z M X) = some (go_k 6 z M' X) ∧ rf q M M' ∧ mi M' 13 q = 1 ∧ rm_L q T P M' := by
  have hc := hw.1
  unfold gm_X6_find
  simp only [gq_6, hq, Option.bind_some]
  rcases hd with h0 | ⟨h1, hL⟩
  · rw [if_pos h0]
    simp only [nar1, li1600, pk_mul]
    obtain ⟨M1, g1, g2, g3, g4⟩ := m_find23 (fu := fu) (z := z) (X := X) hq 1600 fu (1600 * q) (go_ai M 13 q 1) (by omega) (by omega) (by omega)
    have P1 : rm_P q P (go_ai M 13 q 1) := rf.rP (q := q) (M := M) (M' := go_ai M 13 q 1) ⟨fun a i h => by rw [mi_ai, if_neg (by omega)], fun _ _ => rfl, fun _ _ _ _ => rfl⟩ hP
    have P1' : rm_P q P M1 := by
      unfold rm_P at P1 ⊢
      simp only [g2]
      exact P1
    obtain ⟨M2, k1, k2, k3, k4, k5⟩ := m_find52 (fu := fu) (z := z) (X := X) (P := P) hq hc 8 fu (8 * q) M1 P1' (by omega) (by omega) (by omega)
    have f12 : rf q M M2 := by
      refine ⟨fun a i h => ?_, fun j hj => ?_, fun k i a b => ?_⟩
      · rw [k2, g2, mi_ai, if_neg (by omega)]
      · rw [k4 j hj, g3]
        rfl
      · rw [k5, if_neg (by intro h; have := b (by omega); omega), if_neg (by intro h; have := b (by omega); omega), g4, if_neg (by intro h; have := a h.1; omega)]
        rfl
    have T2 := f12.rT hT
    have P2 := f12.rP hP
    have z14 : ∀ f i, f < gp_c P → i < gp_l P f → ml M2 14 (1600 * q + 200 * f + i) = 0 := fun f i hf hi => by
      have := (hw.2 f hf).1.2
      rw [k5, if_neg (by omega), if_neg (by omega), g4, if_pos (by omega)]
    have z15 : ∀ f, f < gp_c P → ml M2 15 (8 * q + f) = if f = 0 then 1 else 0 := fun f hf => by
      rw [k5]
      by_cases e : f = 0
      · rw [if_pos (by omega), if_pos (by omega), if_pos e]
      · rw [if_neg (by omega), if_pos (by omega), if_neg e]
    have z67 : ∀ a f, (a = 16 ∨ a = 17) → f < gp_c P → ml M2 a (8 * q + f) = 0 := fun a f ha hf => by rw [k5, if_neg (by omega), if_pos (by omega)]
    have W2 : jw q T P M2 := by
      refine ⟨fun f i s hf hi h => ?_, fun f s hf h => ?_, fun f s hf h => ?_, fun f s hf h => ?_⟩
      · rw [z14 f i hf hi, gb_0] at h
        cases h
      · rw [z15 f hf] at h
        by_cases e : f = 0
        · subst e
          rw [if_pos rfl, gb_1] at h
          have e2 : s = 0 := of_decide_eq_true h
          subst e2
          exact (gl_cl T P).1 hf
        · rw [if_neg e, gb_0] at h
          cases h
      · rw [z67 16 f (Or.inl rfl) hf, gb_0] at h
        cases h
      · rw [z67 17 f (Or.inr rfl) hf, gb_0] at h
        cases h
    obtain ⟨j, hj, hj2⟩ := jm_bd M2
    obtain ⟨M', n1, ⟨n2, n3, n4⟩, n5, n6⟩ := m_find118 (fu := fu) (z := z) (X := X) hq hw hTw (by omega) fu j M2 T2 P2 W2 k3 hj (by omega) (fun h => by
      have := z15 0 h
      rw [Nat.add_zero] at this
      rw [this]
      decide)
    refine ⟨M', ?_, ⟨fun a i h => (n2 a i).trans (f12.1 a i h), fun j hj => (n3 j hj).trans (f12.2.1 j hj), fun k i a b => (n4 k i a b).trans (f12.2.2 k i a b)⟩, ?_, ?_⟩
    · rw [g1, k1, n1]
    · rw [n2, k2, g2, mi_ai, if_pos ⟨rfl, rfl⟩]
    · obtain ⟨u1, u2, u3, u4⟩ := gl_uniq n6 (fun f i s h => jw_m n5 h) (fun f s h => jw_e n5 h) (fun f s h => jw_x n5 h) (fun f s h => jw_a n5 h)
      exact ⟨fun f hf i hi s => ⟨fun h => (u1 f i s).mp ⟨hf, hi, h⟩, fun h => ((u1 f i s).mpr h).2.2⟩, fun f hf => ⟨fun s => ⟨fun h => (u2 f s).mp ⟨hf, h⟩, fun h => ((u2 f s).mpr h).2⟩, fun s => ⟨fun h => (u3 f s).mp ⟨hf, h⟩, fun h => ((u3 f s).mpr h).2⟩, fun s => ⟨fun h => (u4 f s).mp ⟨hf, h⟩, fun h => ((u4 f s).mpr h).2⟩⟩⟩
  · rw [if_neg (show ¬ mi M 13 q = 0 by rw [h1]; decide)]
    exact ⟨M, rfl, ⟨fun _ _ _ => rfl, fun _ _ => rfl, fun _ _ _ _ => rfl⟩, h1, hL⟩
end MF
