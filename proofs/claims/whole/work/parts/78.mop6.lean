/-! the model: take -/
section MT
variable {fu z : Nat} {T : sT} {P P1 : sP} {fg : Prop} {M : go_O} {X : gx_H}
theorem m_t119 : ∀ (d n k : Nat) (M : go_O), k + d = 48 → d < n → ∃ M', gm_X6_take_119 fu n z (nI k) (go_k 6 z M X) = some (1, go_k 6 z (chg M') X) ∧ M'.1 = M.1 ∧ (∀ a j, (a = 9 ∨ a = 10 ∨ a = 11) → k ≤ j → j < 48 → mi M' a j = mi M a (48 + j)) ∧ ∀ a j, ((a ≠ 9 ∧ a ≠ 10 ∧ a ≠ 11) ∨ j < k ∨ 48 ≤ j) → mi M' a j = mi M a j
  | d, 0, k, M, _, hn => absurd hn (Nat.not_lt_zero _)
  | d, n + 1, k, M, hd, hn => by
    rw [gm_X6_take_119, li48]
    by_cases e0 : d = 0
    · rw [if_pos ((nI_leI (by omega) (by omega)).mpr (by omega)), gx_ob6, m_change]
      exact ⟨M, rfl, rfl, fun a j _ h1 h2 => by omega, fun _ _ _ => rfl⟩
    · rw [if_neg (fun q => absurd ((nI_leI (by omega) (by omega)).mp q) (by omega))]
      have r1 : 48 + k < 96 := by omega
      have r2 : k < 96 := by omega
      rw [nI_add, show nI k + 1 = nI (k + 1) from (nI_succ k).symm]
      simp only [gq_6, r1, r2, Option.bind_some]
      obtain ⟨M', a1, a2, a3, a4⟩ := m_t119 (d - 1) n (k + 1) (go_ai (go_ai (go_ai M 9 k (mi M 9 (48 + k))) 10 k (mi M 10 (48 + k))) 11 k (mi M 11 (48 + k))) (by omega) (by omega)
      refine ⟨M', a1, a2, fun a j ha h1 h2 => ?_, fun a j h => ?_⟩
      · by_cases e : j = k
        · rw [a4 a j (by omega), mi_ai, mi_ai, mi_ai]
          rcases ha with rfl | rfl | rfl
          · rw [if_neg (by omega), if_neg (by omega), if_pos ⟨rfl, e⟩, e]
          · rw [if_neg (by omega), if_pos ⟨rfl, e⟩, e]
          · rw [if_pos ⟨rfl, e⟩, e]
        · rw [a3 a j ha (by omega) h2, mi_ai, if_neg (by omega), mi_ai, if_neg (by omega), mi_ai, if_neg (by omega)]
      · rw [a4 a j (by omega), mi_ai, if_neg (by omega), mi_ai, if_neg (by omega), mi_ai, if_neg (by omega)]
theorem m_t75 (hfu : 100 ≤ fu) : ∀ (d n k : Nat) (M : go_O), k + d = 8 → d < n → ∃ M', gm_X6_take_75 fu n z (nI k) (go_k 6 z M X) = some (1, go_k 6 z (chg M') X) ∧ M'.1 = M.1 ∧ (∀ a j, (a = 5 ∨ a = 6) → k ≤ j → j < 8 → mi M' a j = mi M a (8 + j)) ∧ (∀ a j, (a = 9 ∨ a = 10 ∨ a = 11) → j < 48 → mi M' a j = mi M a (48 + j)) ∧ ∀ a j, ((a ≠ 5 ∧ a ≠ 6) ∨ j < k ∨ 8 ≤ j) → ((a ≠ 9 ∧ a ≠ 10 ∧ a ≠ 11) ∨ 48 ≤ j) → mi M' a j = mi M a j
  | d, 0, k, M, _, hn => absurd hn (Nat.not_lt_zero _)
  | d, n + 1, k, M, hd, hn => by
    rw [gm_X6_take_75, li8]
    by_cases e0 : d = 0
    · rw [if_pos ((nI_leI (by omega) (by omega)).mpr (by omega)), li0]
      obtain ⟨M', a1, a2, a3, a4⟩ := m_t119 (fu := fu) (z := z) (X := X) 48 fu 0 M (by omega) (by omega)
      exact ⟨M', a1, a2, fun a j _ h1 h2 => by omega, fun a j ha h => a3 a j ha (by omega) h, fun a j h1 h2 => a4 a j (by omega)⟩
    · rw [if_neg (fun q => absurd ((nI_leI (by omega) (by omega)).mp q) (by omega))]
      have r1 : 8 + k < 16 := by omega
      have r2 : k < 16 := by omega
      rw [nI_add, show nI k + 1 = nI (k + 1) from (nI_succ k).symm]
      simp only [gq_6, r1, r2, Option.bind_some]
      obtain ⟨M', a1, a2, a3, a5, a4⟩ := m_t75 hfu (d - 1) n (k + 1) (go_ai (go_ai M 5 k (mi M 5 (8 + k))) 6 k (mi M 6 (8 + k))) (by omega) (by omega)
      refine ⟨M', a1, a2, fun a j ha h1 h2 => ?_, fun a j ha h => ?_, fun a j h h' => ?_⟩
      · by_cases e : j = k
        · rw [a4 a j (by omega) (by omega), mi_ai, mi_ai]
          rcases ha with rfl | rfl
          · rw [if_neg (by omega), if_pos ⟨rfl, e⟩, e]
          · rw [if_pos ⟨rfl, e⟩, e]
        · rw [a3 a j ha (by omega) h2, mi_ai, if_neg (by omega), mi_ai, if_neg (by omega)]
      · rw [a5 a j ha h, mi_ai, if_neg (by omega), mi_ai, if_neg (by omega)]
      · rw [a4 a j (by omega) (by omega), mi_ai, if_neg (by omega), mi_ai, if_neg (by omega)]
theorem m_t28 (hfu : 100 ≤ fu) : ∀ (d n k : Nat) (M : go_O), k + d = 1600 → d < n → ∃ M', gm_X6_take_28 fu n z (nI k) (go_k 6 z M X) = some (1, go_k 6 z (chg M') X) ∧ M'.1 = M.1 ∧ (∀ a j, (a = 7 ∨ a = 8) → k ≤ j → j < 1600 → mi M' a j = mi M a (1600 + j)) ∧ (∀ a j, (a = 5 ∨ a = 6) → j < 8 → mi M' a j = mi M a (8 + j)) ∧ (∀ a j, (a = 9 ∨ a = 10 ∨ a = 11) → j < 48 → mi M' a j = mi M a (48 + j)) ∧ ∀ a j, ((a ≠ 7 ∧ a ≠ 8) ∨ j < k ∨ 1600 ≤ j) → ((a ≠ 5 ∧ a ≠ 6) ∨ 8 ≤ j) → ((a ≠ 9 ∧ a ≠ 10 ∧ a ≠ 11) ∨ 48 ≤ j) → mi M' a j = mi M a j
  | d, 0, k, M, _, hn => absurd hn (Nat.not_lt_zero _)
  | d, n + 1, k, M, hd, hn => by
    rw [gm_X6_take_28, li1600]
    by_cases e0 : d = 0
    · rw [if_pos ((nI_leI (by omega) (by omega)).mpr (by omega)), li0]
      obtain ⟨M', a1, a2, a3, a5, a4⟩ := m_t75 (fu := fu) (z := z) (X := X) hfu 8 fu 0 M (by omega) (by omega)
      exact ⟨M', a1, a2, fun a j _ h1 h2 => by omega, fun a j ha h => a3 a j ha (by omega) h, a5, fun a j h1 h2 h3 => a4 a j (by omega) h3⟩
    · rw [if_neg (fun q => absurd ((nI_leI (by omega) (by omega)).mp q) (by omega))]
      have r1 : 1600 + k < 3200 := by omega
      have r2 : k < 3200 := by omega
      rw [nI_add, show nI k + 1 = nI (k + 1) from (nI_succ k).symm]
      simp only [gq_6, r1, r2, Option.bind_some]
      obtain ⟨M', a1, a2, a3, a5, a6, a4⟩ := m_t28 hfu (d - 1) n (k + 1) (go_ai (go_ai M 7 k (mi M 7 (1600 + k))) 8 k (mi M 8 (1600 + k))) (by omega) (by omega)
      refine ⟨M', a1, a2, fun a j ha h1 h2 => ?_, fun a j ha h => ?_, fun a j ha h => ?_, fun a j h h' h'' => ?_⟩
      · by_cases e : j = k
        · rw [a4 a j (by omega) (by omega) (by omega), mi_ai, mi_ai]
          rcases ha with rfl | rfl
          · rw [if_neg (by omega), if_pos ⟨rfl, e⟩, e]
          · rw [if_pos ⟨rfl, e⟩, e]
        · rw [a3 a j ha (by omega) h2, mi_ai, if_neg (by omega), mi_ai, if_neg (by omega)]
      · rw [a5 a j ha h, mi_ai, if_neg (by omega), mi_ai, if_neg (by omega)]
      · rw [a6 a j ha h, mi_ai, if_neg (by omega), mi_ai, if_neg (by omega)]
      · rw [a4 a j (by omega) (by omega) (by omega), mi_ai, if_neg (by omega), mi_ai, if_neg (by omega)]
set_option maxHeartbeats 1000000 in
theorem m_take (hI : MI T P fg P1 M) (hS : SI T P fg P1) (hfu : 2000 ≤ fu) : ∃ M', gm_X6_take fu z (go_k 6 z M X) = some (gz fg, go_k 6 z M' X) ∧ (¬ fg → MI T P fg P1 M') ∧ (fg → MI T P1 False P1 M') := by
  unfold gm_X6_take
  simp only [gq_6, Option.bind_some]
  have hI := hI.s0 0
  rw [show (go_si M 0 0).1 12 = _ from hI.2.2.2.1]
  by_cases g : fg
  · rw [gz_t g, if_neg (by decide)]
    have r0 : 0 < 2 := by omega
    have r1 : 1 < 2 := by omega
    have e1 : (go_si M 0 0).2.2.2.1 4 1 = nI (gp_c P1) := (hI.2.2.2.2 g).1.1
    rw [show gx_gai (go_k 6 z (go_si M 0 0) X) (z + 3) 0 1 = gx_gai (go_k 6 z (go_si M 0 0) X) (z + 3) 0 (nI 1) from rfl]
    simp only [gq_6, r1, Option.bind_some, e1]
    rw [show gx_pai (go_k 6 z (go_si M 0 0) X) (z + 3) 0 0 (nI (gp_c P1)) = gx_pai (go_k 6 z (go_si M 0 0) X) (z + 3) 0 (nI 0) (nI (gp_c P1)) from rfl]
    simp only [gq_6, r0, Option.bind_some]
    obtain ⟨M', a1, a2, a3, a4, a5, a6⟩ := m_t28 (fu := fu) (z := z) (X := X) (by omega) 1600 fu 0 (go_ai (go_si M 0 0) 4 0 (nI (gp_c P1))) (by omega) (by omega)
    refine ⟨chg M', a1, fun h => absurd g h, fun _ => ?_⟩
    obtain ⟨w1, -⟩ := hS.2.2 g
    have hc := w1.1
    refine MI_chg (rmT_fr (M := M) ?_ (fun a j ha => ?_) hI.1) ⟨?_, fun f hf => ?_⟩ ?_ rfl
    · show M'.1 1 = M.1 1
      rw [a2]
      rfl
    · rw [chg_i, if_neg (by omega), a6 a j (by omega) (by omega) (by omega), mi_ai, if_neg (by omega)]
      rfl
    · rw [chg_i, if_neg (by omega), a6 4 0 (by omega) (by omega) (by omega), mi_ai, if_pos ⟨rfl, rfl⟩]
    · obtain ⟨b1, b2, b3, b4⟩ := (hI.2.2.2.2 g).1.2 f hf
      obtain ⟨⟨-, l2⟩, l3, -, -⟩ := w1.2 f hf
      refine ⟨?_, ?_, fun i hi => ⟨?_, ?_⟩, fun h hh => ⟨?_, ?_, ?_⟩⟩
      · rw [chg_i, if_neg (by omega), a4 5 _ (by omega) (by omega), mi_ai, if_neg (by omega), show 8 + (8 * 0 + f) = 8 * 1 + f by omega]
        exact b1
      · rw [chg_i, if_neg (by omega), a4 6 _ (by omega) (by omega), mi_ai, if_neg (by omega), show 8 + (8 * 0 + f) = 8 * 1 + f by omega]
        exact b2
      · rw [chg_i, if_neg (by omega), a3 7 _ (by omega) (by omega) (by omega), mi_ai, if_neg (by omega), show 1600 + (1600 * 0 + 200 * f + i) = 1600 * 1 + 200 * f + i by omega]
        exact (b3 i hi).1
      · rw [chg_i, if_neg (by omega), a3 8 _ (by omega) (by omega) (by omega), mi_ai, if_neg (by omega), show 1600 + (1600 * 0 + 200 * f + i) = 1600 * 1 + 200 * f + i by omega]
        exact (b3 i hi).2
      · rw [chg_i, if_neg (by omega), a5 9 _ (by omega) (by omega), mi_ai, if_neg (by omega), show 48 + (6 * (8 * 0 + f) + h) = 6 * (8 * 1 + f) + h by omega]
        exact (b4 h hh).1
      · rw [chg_i, if_neg (by omega), a5 10 _ (by omega) (by omega), mi_ai, if_neg (by omega), show 48 + (6 * (8 * 0 + f) + h) = 6 * (8 * 1 + f) + h by omega]
        exact (b4 h hh).2.1
      · rw [chg_i, if_neg (by omega), a5 11 _ (by omega) (by omega), mi_ai, if_neg (by omega), show 48 + (6 * (8 * 0 + f) + h) = 6 * (8 * 1 + f) + h by omega]
        exact (b4 h hh).2.2
    · rw [chg_i, if_pos (by omega)]
  · rw [gz_f g, if_pos rfl]
    exact ⟨_, rfl, fun _ => hI, fun h => absurd h g⟩
end MT
