/-! the law: class and model side by side -/
section LW
variable {fu aG aM L : Nat} {xs : Nat → Int32}
theorem law_c {p : Nat} (hL : L ≤ 2560) (hp : p ≤ 2565) : (Int32.ofNat L - 5) < nI p ↔ L < p + 5 := by
  by_cases c : 5 ≤ L
  · have e : Int32.ofNat L - 5 = nI (L - 5) := by
      have h : Int32.ofNat L = nI (L - 5) + 5 := by
        rw [show (5 : Int32) = nI 5 from rfl, nI_add, show L - 5 + 5 = L by omega]
        rfl
      rw [h, Int32.add_sub_cancel]
    rw [e, nI_ltI (by omega) (by omega)]
    omega
  · have : L = 0 ∨ L = 1 ∨ L = 2 ∨ L = 3 ∨ L = 4 := by omega
    rw [Int32.lt_iff_toInt_lt, nI_toInt (by omega)]
    rcases this with rfl | rfl | rfl | rfl | rfl
    · rw [show (Int32.ofNat 0 - 5).toInt = -5 from by decide]
      omega
    · rw [show (Int32.ofNat 1 - 5).toInt = -4 from by decide]
      omega
    · rw [show (Int32.ofNat 2 - 5).toInt = -3 from by decide]
      omega
    · rw [show (Int32.ofNat 3 - 5).toInt = -2 from by decide]
      omega
    · rw [show (Int32.ofNat 4 - 5).toInt = -1 from by decide]
      omega
theorem law_s {p : Nat} (hL : L ≤ 2560) (hp : p < L) : gx_scr xs L (nI p) = some (xs p) := by
  unfold gx_scr
  rw [if_neg (nI_in hp (by omega)), nI_clamp (by omega)]
theorem IV_obG {W : gw_T} {X : gx_H} (h : IV aG aM W X) (k : Option (Int32 × gx_H × Nat × Nat)) : gx_ob X aG 5 k = k := by
  obtain ⟨hD, rfl, T, P, fg, P1, cur, M, hS, hI, -⟩ := h
  exact gx_obT (hD.k hI.1.1) k
set_option maxHeartbeats 4000000 in
theorem law_loop (hfu : 1000000 ≤ fu) (hL : L ≤ 2560) : ∀ (m n p : Nat) (W : gw_T) (X : gx_H), IV aG aM W X → L < p + 5 * m + 5 → p ≤ 2565 → m < n →
    ∃ X' nc ns, gm_L_law_18 fu xs L n aG aM (nI p) X = some (1, X', nc, ns) ∧ nc ≤ 72 * m ∧ ns ≤ 8264 * m
  | m, 0, p, W, X, _, _, _, hn => absurd hn (Nat.not_lt_zero _)
  | m, n + 1, p, W, X, hI, h1, h2, hn => by
    rw [gm_L_law_18]
    by_cases c : L < p + 5
    · rw [if_pos ((law_c hL h2).mpr c)]
      exact ⟨X, 0, 0, rfl, by omega, by omega⟩
    · rw [if_neg (fun q => c ((law_c hL h2).mp q))]
      have s0 : gx_scr xs L (nI p) = some (xs p) := law_s hL (by omega)
      have s1 : gx_scr xs L (nI p + 1) = some (xs (p + 1)) := by rw [show nI p + 1 = nI (p + 1) from (nI_succ p).symm]; exact law_s hL (by omega)
      have s2 : gx_scr xs L (nI p + 2) = some (xs (p + 2)) := by rw [show nI p + 2 = nI (p + 2) from nI_add p 2]; exact law_s hL (by omega)
      have s3 : gx_scr xs L (nI p + 3) = some (xs (p + 3)) := by rw [show nI p + 3 = nI (p + 3) from nI_add p 3]; exact law_s hL (by omega)
      have s4 : gx_scr xs L (nI p + 4) = some (xs (p + 4)) := by rw [show nI p + 4 = nI (p + 4) from nI_add p 4]; exact law_s hL (by omega)
      have hk : ∀ (W : gw_T) (X : gx_H) (c s : Nat), IV aG aM W X → c ≤ 72 → s ≤ 8264 → ∃ X' nc ns, gx_ad c s (gm_L_law_804 fu xs L (gm_L_law_18 fu xs L n) aG aM (nI p) X) = some (1, X', nc, ns) ∧ nc ≤ 72 * m ∧ ns ≤ 8264 * m := fun W X c s hI hc hs => by
        unfold gm_L_law_804
        rw [show nI p + 5 = nI (p + 5) from nI_add p 5]
        obtain ⟨X', nc, ns, g1, g2, g3⟩ := law_loop hfu hL (m - 1) n (p + 5) W X hI (by omega) (by omega) (by omega)
        rw [g1, gx_ads]
        exact ⟨X', _, _, rfl, by omega, by omega⟩
      have hk0 : ∀ (W : gw_T) (X : gx_H), IV aG aM W X → ∃ X' nc ns, gm_L_law_804 fu xs L (gm_L_law_18 fu xs L n) aG aM (nI p) X = some (1, X', nc, ns) ∧ nc ≤ 72 * m ∧ ns ≤ 8264 * m := fun W X hI => by
        unfold gm_L_law_804
        rw [show nI p + 5 = nI (p + 5) from nI_add p 5]
        obtain ⟨X', nc, ns, g1, g2, g3⟩ := law_loop hfu hL (m - 1) n (p + 5) W X hI (by omega) (by omega) (by omega)
        exact ⟨X', nc, ns, g1, by omega, by omega⟩
      simp only [s0, s1, s2, s3, s4, Option.bind_some]
      by_cases c0 : (xs p &&& 15) = 0
      · rw [if_pos c0]
        obtain ⟨a, X1, X2, W2, e1, e2, e3, e4⟩ := p_begin (fu := fu) hfu hI (xs (p + 1))
        rw [IV_obG hI, e1, gx_b2s, e2, e3, gx_b2s, if_pos rfl]
        exact hk0 W2 X2 e4
      rw [if_neg c0]
      by_cases c1 : (xs p &&& 15) = 1
      · rw [if_pos c1]
        obtain ⟨a, X1, X2, W2, e1, e2, e3, e4⟩ := p_way (fu := fu) hI (xs (p + 1)) (xs (p + 2)) (xs (p + 3))
        rw [IV_obG hI, e1, gx_b2s, e2, e3, gx_b2s, if_pos rfl]
        exact hk0 W2 X2 e4
      rw [if_neg c1]
      by_cases c2 : (xs p &&& 15) = 2
      · rw [if_pos c2]
        unfold gm_L_law_197 gm_L_law_219
        simp only [s1, s2, s3, s4, Option.bind_some]
        by_cases z : xs (p + 2) = 0
        · obtain ⟨a, X1, X2, W2, e1, e2, e3, e4⟩ := p_always (fu := fu) (v := false) hI (xs (p + 1))
          rw [show b32 false = 0 from rfl] at e1 e3
          rw [if_pos z, IV_obG hI, e1, gx_b2s, if_pos z, e2, e3, gx_b2s, if_pos rfl]
          exact hk0 W2 X2 e4
        · obtain ⟨a, X1, X2, W2, e1, e2, e3, e4⟩ := p_always (fu := fu) (v := true) hI (xs (p + 1))
          rw [show b32 true = 1 from rfl] at e1 e3
          rw [if_neg z, IV_obG hI, e1, gx_b2s, if_neg z, e2, e3, gx_b2s, if_pos rfl]
          exact hk0 W2 X2 e4
      rw [if_neg c2]
      by_cases c3 : (xs p &&& 15) = 3
      · rw [if_pos c3]
        obtain ⟨a, X1, X2, W2, nc, ns, e1, e5, e6, e2, e3, e4⟩ := p_function (fu := fu) hfu hI (xs (p + 1))
        rw [IV_obG hI, e1, gx_b4s, e2, e3, gx_b2s, if_pos rfl]
        exact hk W2 X2 nc ns e4 e5 e6
      rw [if_neg c3]
      by_cases c4 : (xs p &&& 15) = 4
      · rw [if_pos c4]
        obtain ⟨a, X1, X2, W2, e1, e2, e3, e4⟩ := p_code (fu := fu) hI (xs (p + 1)) (xs (p + 2)) (xs (p + 3)) (xs (p + 4))
        rw [IV_obG hI, e1, gx_b2s, e2, e3, gx_b2s, if_pos rfl]
        exact hk0 W2 X2 e4
      rw [if_neg c4]
      by_cases c5 : (xs p &&& 15) = 5
      · rw [if_pos c5]
        obtain ⟨a, X1, X2, W2, e1, e2, e3, e4⟩ := p_handler (fu := fu) hI (xs (p + 1)) (xs (p + 2)) (xs (p + 3)) (xs (p + 4))
        rw [IV_obG hI, e1, gx_b2s, e2, e3, gx_b2s, if_pos rfl]
        exact hk0 W2 X2 e4
      rw [if_neg c5]
      by_cases c6 : (xs p &&& 15) = 6
      · rw [if_pos c6]
        obtain ⟨a, X1, X2, W2, nc, ns, e1, e5, e6, e2, e3, e4⟩ := p_forge (fu := fu) hfu hI
        rw [IV_obG hI, e1, gx_b4s, e2, e3, gx_b2s, if_pos rfl]
        exact hk W2 X2 nc ns e4 e5 e6
      rw [if_neg c6]
      by_cases c7 : (xs p &&& 15) = 7
      · rw [if_pos c7]
        obtain ⟨a, X1, X2, W2, e1, e2, e3, e4⟩ := p_take (fu := fu) hfu hI
        rw [IV_obG hI, e1, gx_b2s, e2, e3, gx_b2s, if_pos rfl]
        exact hk0 W2 X2 e4
      rw [if_neg c7]
      by_cases c8 : (xs p &&& 15) = 8
      · rw [if_pos c8]
        unfold gm_L_law_396 gm_L_law_413
        simp only [s1, s2, s3, s4, Option.bind_some]
        by_cases z : xs (p + 1) = 0
        · obtain ⟨a, X1, X2, W2, e1, e2, e3, e4⟩ := p_certify (fu := fu) (v := false) hfu hI
          rw [show b32 false = 0 from rfl] at e1 e3
          rw [if_pos z, IV_obG hI, e1, gx_b2s, if_pos z, e2, e3, gx_b2s, if_pos rfl]
          exact hk0 W2 X2 e4
        · obtain ⟨a, X1, X2, W2, e1, e2, e3, e4⟩ := p_certify (fu := fu) (v := true) hfu hI
          rw [show b32 true = 1 from rfl] at e1 e3
          rw [if_neg z, IV_obG hI, e1, gx_b2s, if_neg z, e2, e3, gx_b2s, if_pos rfl]
          exact hk0 W2 X2 e4
      rw [if_neg c8]
      by_cases c9 : (xs p &&& 15) = 9
      · rw [if_pos c9]
        unfold gm_L_law_435 gm_L_law_467
        simp only [s1, s2, s3, s4, Option.bind_some]
        by_cases z : xs (p + 1) = 0
        · obtain ⟨a, X1, X2, W2, e1, e2, e3, e4⟩ := p_of (fu := fu) (v := false) hfu hI (xs (p + 2)) (xs (p + 3)) (xs (p + 4))
          rw [show b32 false = 0 from rfl] at e1 e3
          rw [if_pos z, IV_obG hI, e1, gx_b2s, if_pos z, e2, e3, gx_b2s, if_pos rfl]
          exact hk0 W2 X2 e4
        · obtain ⟨a, X1, X2, W2, e1, e2, e3, e4⟩ := p_of (fu := fu) (v := true) hfu hI (xs (p + 2)) (xs (p + 3)) (xs (p + 4))
          rw [show b32 true = 1 from rfl] at e1 e3
          rw [if_neg z, IV_obG hI, e1, gx_b2s, if_neg z, e2, e3, gx_b2s, if_pos rfl]
          exact hk0 W2 X2 e4
      rw [if_neg c9]
      by_cases c10 : (xs p &&& 15) = 10
      · rw [if_pos c10]
        unfold gm_L_law_504 gm_L_law_531
        simp only [s1, s2, s3, s4, Option.bind_some]
        by_cases z : xs (p + 1) = 0
        · obtain ⟨a, X1, X2, W2, e1, e2, e3, e4⟩ := p_may (fu := fu) (v := false) hfu hI (xs (p + 2)) (xs (p + 3))
          rw [show b32 false = 0 from rfl] at e1 e3
          rw [if_pos z, IV_obG hI, e1, gx_b2s, if_pos z, e2, e3, gx_b2s, if_pos (gb_cmp.mpr rfl)]
          exact hk0 W2 X2 e4
        · obtain ⟨a, X1, X2, W2, e1, e2, e3, e4⟩ := p_may (fu := fu) (v := true) hfu hI (xs (p + 2)) (xs (p + 3))
          rw [show b32 true = 1 from rfl] at e1 e3
          rw [if_neg z, IV_obG hI, e1, gx_b2s, if_neg z, e2, e3, gx_b2s, if_pos (gb_cmp.mpr rfl)]
          exact hk0 W2 X2 e4
      rw [if_neg c10]
      by_cases c11 : (xs p &&& 15) = 11
      · rw [if_pos c11]
        unfold gm_L_law_564 gm_L_law_591
        simp only [s1, s2, s3, s4, Option.bind_some]
        by_cases z : xs (p + 1) = 0
        · obtain ⟨a, X1, X2, W2, e1, e2, e3, e4⟩ := p_set (fu := fu) (v := false) hfu hI (xs (p + 2)) (xs (p + 3))
          rw [show b32 false = 0 from rfl] at e1 e3
          rw [if_pos z, IV_obG hI, e1, gx_b2s, if_pos z, e2, e3, gx_b2s, if_pos (gb_cmp.mpr rfl)]
          exact hk0 W2 X2 e4
        · obtain ⟨a, X1, X2, W2, e1, e2, e3, e4⟩ := p_set (fu := fu) (v := true) hfu hI (xs (p + 2)) (xs (p + 3))
          rw [show b32 true = 1 from rfl] at e1 e3
          rw [if_neg z, IV_obG hI, e1, gx_b2s, if_neg z, e2, e3, gx_b2s, if_pos (gb_cmp.mpr rfl)]
          exact hk0 W2 X2 e4
      rw [if_neg c11]
      by_cases c12 : (xs p &&& 15) = 12
      · rw [if_pos c12]
        unfold gm_L_law_624 gm_L_law_651
        simp only [s1, s2, s3, s4, Option.bind_some]
        by_cases z : xs (p + 1) = 0
        · obtain ⟨a, X1, X2, W2, e1, e2, e3, e4⟩ := p_size (fu := fu) (v := false) hfu hI (xs (p + 2)) (xs (p + 3))
          rw [show b32 false = 0 from rfl] at e1 e3
          rw [if_pos z, IV_obG hI, e1, gx_b2s, if_pos z, e2, e3, gx_b2s, if_pos rfl]
          exact hk0 W2 X2 e4
        · obtain ⟨a, X1, X2, W2, e1, e2, e3, e4⟩ := p_size (fu := fu) (v := true) hfu hI (xs (p + 2)) (xs (p + 3))
          rw [show b32 true = 1 from rfl] at e1 e3
          rw [if_neg z, IV_obG hI, e1, gx_b2s, if_neg z, e2, e3, gx_b2s, if_pos rfl]
          exact hk0 W2 X2 e4
      rw [if_neg c12]
      by_cases c13 : (xs p &&& 15) = 13
      · rw [if_pos c13]
        unfold gm_L_law_683 gm_L_law_715
        simp only [s1, s2, s3, s4, Option.bind_some]
        by_cases z : xs (p + 1) = 0
        · obtain ⟨a, X1, X2, W2, e1, e2, e3, e4⟩ := p_range (fu := fu) (v := false) hI (xs (p + 2)) (xs (p + 3)) (xs (p + 4))
          rw [show b32 false = 0 from rfl] at e1 e3
          rw [if_pos z, IV_obG hI, e1, gx_b2s, if_pos z, e2, e3, gx_b2s, if_pos rfl]
          exact hk0 W2 X2 e4
        · obtain ⟨a, X1, X2, W2, e1, e2, e3, e4⟩ := p_range (fu := fu) (v := true) hI (xs (p + 2)) (xs (p + 3)) (xs (p + 4))
          rw [show b32 true = 1 from rfl] at e1 e3
          rw [if_neg z, IV_obG hI, e1, gx_b2s, if_neg z, e2, e3, gx_b2s, if_pos rfl]
          exact hk0 W2 X2 e4
      rw [if_neg c13]
      by_cases c14 : (xs p &&& 15) = 14
      · rw [if_pos c14]
        obtain ⟨a, X1, X2, W2, e1, e2, e3, e4⟩ := p_goes (fu := fu) hI (xs (p + 1)) (xs (p + 2)) (xs (p + 3))
        rw [IV_obG hI, e1, gx_b2s, e2, e3, gx_b2s, if_pos rfl]
        exact hk0 W2 X2 e4
      rw [if_neg c14]
      by_cases c15 : (xs p &&& 15) = 15
      · rw [if_pos c15]
        obtain ⟨a, X1, X2, W2, e1, e2, e3, e4⟩ := p_look (fu := fu) hfu hI (xs (p + 1))
        rw [IV_obG hI, e1, gx_b2s, e2, e3, gx_b2s, if_pos rfl]
        exact hk0 W2 X2 e4
      rw [if_neg c15]
      exact hk0 W X hI
end LW
