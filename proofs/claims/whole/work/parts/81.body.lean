/-! the class's Body: its simple methods -/
section CB
variable {fu a f : Nat} {T : sT} {P : sP} {b : go_O} {X : gx_H}
theorem c_canHold (hw : gp_wf P) (hf : f < gp_c P) (hs : bs P f b) (e : go_k 0 a b X = X) (x y : Int32) : gm_X0_canHold fu a x y X = some (gz (∃ k n, x = nI k ∧ y = nI n ∧ gp_ok P f k n), X) := by
  have l2 := (hw.2 f hf).1.2
  have key : ∀ k, k ≤ 8 → gz (∃ k' n, nI k = nI k' ∧ y = nI n ∧ gp_ok P f k' n) = gz (∃ n, y = nI n ∧ n < bel P f k) := fun k hk => gz_c ⟨fun ⟨k', n, h1, h2, h3⟩ => by
      have := nI_inj (by omega) (by have := h3.1; omega) h1
      subst this
      exact ⟨n, h2, (ok_iff hk).mp h3⟩, fun ⟨n, h1, h2⟩ => ⟨k, n, rfl, h1, (ok_iff hk).mpr h2⟩⟩
  have h90 : gm_X0_canHold_90 fu y X = some (gz (∃ n, y = nI n ∧ n < 1), X) := by
    unfold gm_X0_canHold_90
    by_cases c : y = 0
    · rw [if_pos c, gz_t ⟨0, c, by omega⟩]
    · rw [if_neg c, gz_f]
      rintro ⟨n, rfl, hn⟩
      rw [show n = 0 by omega] at c
      exact c rfl
  have rgn : ∀ N, N < 2 ^ 31 → (if y < 0 then some ((0 : Int32), X) else if nI N ≤ y then some ((0 : Int32), X) else some ((1 : Int32), X)) = some (gz (∃ n, y = nI n ∧ n < N), X) := fun N hN => by
    have r := in_rng (x := y) hN
    by_cases y0 : y < 0
    · rw [if_pos y0, gz_f (r.1 y0)]
    · rw [if_neg y0]
      by_cases y1 : nI N ≤ y
      · rw [if_pos y1, gz_f (r.2.1 y0 y1)]
      · rw [if_neg y1, gz_t (r.2.2 y0 y1)]
  have h74 : gm_X0_canHold_74 fu y X = some (gz (∃ n, y = nI n ∧ n < 16), X) := rgn 16 (by omega)
  have h52 : gm_X0_canHold_52 fu a y X = some (gz (∃ n, y = nI n ∧ n < gp_l P f), X) := by
    unfold gm_X0_canHold_52
    rw [gx_obT e, c_hasI hs.2.1 l2 e, gx_b2s, gz_bz]
    rfl
  unfold gm_X0_canHold
  by_cases x0 : x = 0
  · rw [if_pos x0, h90, show x = nI 0 from x0, key 0 (by omega)]
    rfl
  · rw [if_neg x0]
    by_cases x1 : x = 1
    · rw [if_pos x1, h52, show x = nI 1 from x1, key 1 (by omega)]
      rfl
    · rw [if_neg x1]
      by_cases x2 : x = 2
      · rw [if_pos x2, h52, show x = nI 2 from x2, key 2 (by omega)]
        rfl
      · rw [if_neg x2]
        by_cases x3 : x = 3
        · rw [if_pos x3, show x = nI 3 from x3, key 3 (by omega)]
          exact rgn 8 (by omega)
        · rw [if_neg x3]
          by_cases x4 : x = 4
          · rw [if_pos x4, h74, show x = nI 4 from x4, key 4 (by omega)]
            rfl
          · rw [if_neg x4]
            by_cases x5 : x = 5
            · rw [if_pos x5, h74, show x = nI 5 from x5, key 5 (by omega)]
              rfl
            · rw [if_neg x5]
              by_cases x6 : x = 6
              · rw [if_pos x6, h90, show x = nI 6 from x6, key 6 (by omega)]
                rfl
              · rw [if_neg x6]
                by_cases x7 : x = 7
                · rw [if_pos x7, h90, show x = nI 7 from x7, key 7 (by omega)]
                  rfl
                · rw [if_neg x7]
                  by_cases x8 : x = 8
                  · rw [if_pos x8, h90, show x = nI 8 from x8, key 8 (by omega)]
                    rfl
                  · rw [if_neg x8, gz_f]
                    rintro ⟨k, n, rfl, -, h⟩
                    have hk := h.1
                    have : k = 0 ∨ k = 1 ∨ k = 2 ∨ k = 3 ∨ k = 4 ∨ k = 5 ∨ k = 6 ∨ k = 7 ∨ k = 8 := by omega
                    rcases this with rfl | rfl | rfl | rfl | rfl | rfl | rfl | rfl | rfl
                    · exact x0 rfl
                    · exact x1 rfl
                    · exact x2 rfl
                    · exact x3 rfl
                    · exact x4 rfl
                    · exact x5 rfl
                    · exact x6 rfl
                    · exact x7 rfl
                    · exact x8 rfl
theorem c_put {i : Nat} (hi : i < 200) (x y : Int32) : gm_X0_put fu a (nI i) x y (go_k 0 a b X) = some (go_k 0 a (go_ai (go_ai b 1 i x) 2 i y) X) := by
  unfold gm_X0_put
  simp only [gq_0, hi, Option.bind_some]
theorem c_ren0 {l : Nat} (hl : l ≤ 200) : ∀ (d n i : Nat) (b : go_O), b.1 6 = nI l → i + d = l → d < n → ∃ b', gm_X0_renew_12 fu n a (nI i) (go_k 0 a b X) = some (go_k 0 a b' X) ∧ b'.1 = b.1 ∧ ∀ j, i ≤ j → j < l → mi b' 1 j = 0 ∧ mi b' 2 j = 0
  | d, 0, i, b, _, _, hn => absurd hn (Nat.not_lt_zero _)
  | d, n + 1, i, b, h6, hd, hn => by
    rw [gm_X0_renew_12]
    simp only [gq_0, Option.bind_some, h6]
    by_cases e0 : d = 0
    · rw [if_pos ((nI_leI (by omega) (by omega)).mpr (by omega))]
      exact ⟨b, rfl, rfl, fun j h1 h2 => by omega⟩
    · rw [if_neg (fun q => absurd ((nI_leI (by omega) (by omega)).mp q) (by omega)), gx_ob6, c_put (by omega), Option.bind_some, show nI i + 1 = nI (i + 1) from (nI_succ i).symm]
      -- from the back: what is written later stays
      have key : ∀ (d n i : Nat) (b : go_O), b.1 6 = nI l → i + d = l → d < n → ∃ b', gm_X0_renew_12 fu n a (nI i) (go_k 0 a b X) = some (go_k 0 a b' X) ∧ b'.1 = b.1 ∧ (∀ j, i ≤ j → j < l → mi b' 1 j = 0 ∧ mi b' 2 j = 0) ∧ ∀ c j, j < i → mi b' c j = mi b c j := by
        intro d
        induction d with
        | zero =>
          intro n i b h6 hd hn
          cases n with
          | zero => omega
          | succ n =>
            rw [gm_X0_renew_12]
            simp only [gq_0, Option.bind_some, h6]
            rw [if_pos ((nI_leI (by omega) (by omega)).mpr (by omega))]
            exact ⟨b, rfl, rfl, fun j h1 h2 => by omega, fun _ _ _ => rfl⟩
        | succ d ih =>
          intro n i b h6 hd hn
          cases n with
          | zero => omega
          | succ n =>
            rw [gm_X0_renew_12]
            simp only [gq_0, Option.bind_some, h6]
            rw [if_neg (fun q => absurd ((nI_leI (by omega) (by omega)).mp q) (by omega)), gx_ob6, c_put (by omega), Option.bind_some, show nI i + 1 = nI (i + 1) from (nI_succ i).symm]
            obtain ⟨b', k1, k2, k3, k4⟩ := ih n (i + 1) (go_ai (go_ai b 1 i 0) 2 i 0) h6 (by omega) (by omega)
            refine ⟨b', k1, k2, fun j h1 h2 => ?_, fun c j h => ?_⟩
            · by_cases e : j = i
              · rw [k4 1 j (by omega), k4 2 j (by omega), mi_ai, if_neg (by omega), mi_ai, if_pos ⟨rfl, e⟩, mi_ai, if_pos ⟨rfl, e⟩]
                exact ⟨rfl, rfl⟩
              · exact k3 j (by omega) h2
            · rw [k4 c j (by omega), mi_ai, if_neg (by omega), mi_ai, if_neg (by omega)]
      obtain ⟨b', k1, k2, k3, k4⟩ := key (d - 1) n (i + 1) (go_ai (go_ai b 1 i 0) 2 i 0) h6 (by omega) (by omega)
      refine ⟨b', k1, k2, fun j h1 h2 => ?_⟩
      by_cases e : j = i
      · rw [k4 1 j (by omega), k4 2 j (by omega), mi_ai, if_neg (by omega), mi_ai, if_pos ⟨rfl, e⟩, mi_ai, if_pos ⟨rfl, e⟩]
        exact ⟨rfl, rfl⟩
      · exact k3 j (by omega) h2
theorem c_renew0 {l : Nat} (hl : l ≤ 200) (hfu : 300 ≤ fu) : ∃ b', gm_X0_renew fu a (nI l) (go_k 0 a b X) = some (go_k 0 a b' X) ∧ b'.1 0 = b.1 0 ∧ b'.1 6 = nI l ∧ b'.1 7 = 0 ∧ ∀ j, j < l → mi b' 1 j = 0 ∧ mi b' 2 j = 0 := by
  unfold gm_X0_renew
  simp only [gq_0, Option.bind_some]
  obtain ⟨b', k1, k2, k3⟩ := c_ren0 (fu := fu) (a := a) (X := X) hl l fu 0 (go_si (go_si b 6 (nI l)) 7 0) rfl (by omega) (by omega)
  exact ⟨b', k1, by rw [k2]; rfl, by rw [k2]; rfl, by rw [k2]; rfl, fun j hj => k3 j (by omega) hj⟩
theorem c_canHandle (hw : gp_wf P) (hf : f < gp_c P) (hs : bs P f b) (e : go_k 0 a b X = X) (y v w : Int32) : gm_X0_canHandle fu a y v w X = some (gz (∃ i j g, gp_h P f < 6 ∧ y = nI i ∧ v = nI j ∧ i < j ∧ j ≤ gp_l P f ∧ w = nI g ∧ g < gp_l P f), X) := by
  obtain ⟨⟨l1, l2⟩, l3, -, -⟩ := hw.2 f hf
  have q := gq_0 a b X
  rw [e] at q
  unfold gm_X0_canHandle gm_X0_canHandle_38
  simp only [q, Option.bind_some, hs.2.2.1, hs.2.1]
  rw [li6]
  by_cases h6 : gp_h P f = 6
  · rw [if_pos ((nI_leI (by omega) (by omega)).mpr (by omega)), gz_f]
    rintro ⟨i, j, g, h, -⟩
    omega
  · rw [if_neg (fun q => absurd ((nI_leI (by omega) (by omega)).mp q) (by omega))]
    by_cases y0 : y < 0
    · rw [if_pos y0, gz_f]
      rintro ⟨i, j, g, -, rfl, -, h1, h2, -⟩
      exact absurd y0 (nI_pos (by omega))
    · rw [if_neg y0]
      obtain ⟨i, hi, rfl⟩ := nI_of y0
      by_cases va : v ≤ nI i
      · rw [if_pos va, gz_f]
        rintro ⟨i', j, g, -, h, rfl, h1, h2, -⟩
        have := nI_inj hi (by omega) h
        subst this
        exact absurd ((nI_leI (by omega) hi).mp va) (by omega)
      · rw [if_neg va]
        have v0 : ¬ v < 0 := fun q => va (by
          rw [Int32.le_iff_toInt_le]
          rw [Int32.lt_iff_toInt_lt, show ((0 : Int32)).toInt = 0 from rfl] at q
          rw [nI_toInt hi]
          omega)
        obtain ⟨j, hj, rfl⟩ := nI_of v0
        have ij : i < j := by
          apply Classical.byContradiction
          intro q
          exact va ((nI_leI hj hi).mpr (by omega))
        by_cases bl : nI (gp_l P f) < nI j
        · rw [if_pos bl, gz_f]
          rintro ⟨i', j', g, -, -, h, h1, h2, -⟩
          have := nI_inj hj (by omega) h
          have := (nI_ltI (by omega) hj).mp bl
          omega
        · rw [if_neg bl, gx_obT e, c_hasI hs.2.1 l2 e, gx_b2s]
          have jl : j ≤ gp_l P f := by
            apply Classical.byContradiction
            intro q
            exact bl ((nI_ltI (by omega) hj).mpr (by omega))
          by_cases c : ∃ g, w = nI g ∧ g < gp_l P f
          · rw [gz_t c, if_neg (by decide)]
            obtain ⟨g, c1, c2⟩ := c
            rw [gz_t ⟨i, j, g, by omega, rfl, rfl, ij, jl, c1, c2⟩]
          · rw [gz_f c, if_pos rfl, gz_f]
            rintro ⟨i', j', g, -, -, -, -, -, h1, h2⟩
            exact c ⟨g, h1, h2⟩
theorem c_addHandler {h : Nat} (hh : h < 6) (h7 : b.1 7 = nI h) (x y v : Int32) : gm_X0_addHandler fu a x y v (go_k 0 a b X) = some (go_k 0 a (go_si (go_ai (go_ai (go_ai b 3 h x) 4 h y) 5 h v) 7 (nI (h + 1))) X) := by
  unfold gm_X0_addHandler
  have e1 : (go_ai b 3 h x).1 7 = nI h := h7
  have e2 : (go_ai (go_ai b 3 h x) 4 h y).1 7 = nI h := h7
  have e3 : (go_ai (go_ai (go_ai b 3 h x) 4 h y) 5 h v).1 7 = nI h := h7
  simp only [gq_0, hh, Option.bind_some, h7, e1, e2, e3]
  rw [show nI h + 1 = nI (h + 1) from (nI_succ h).symm]
theorem c_cOK (hw : gp_wf P) (hf : f < gp_c P) (hs : bs P f b) (e : go_k 0 a b X = X) {k : Nat} (hk : k ≤ 8) : ∀ (d n i : Nat), i + d = gp_l P f → d < n → gm_X0_countOfKind_4 fu n a (nI k) (nI (gn_s (fun i => nz (gp_k P f i = k)) i)) (nI i) X = some (nI (ck P f k), X)
  | d, 0, i, _, hn => absurd hn (Nat.not_lt_zero _)
  | d, n + 1, i, hd, hn => by
    obtain ⟨⟨-, l2⟩, -, hI, -⟩ := hw.2 f hf
    have q := gq_0 a b X
    rw [e] at q
    rw [gm_X0_countOfKind_4]
    simp only [q, Option.bind_some, hs.2.1]
    by_cases e0 : d = 0
    · rw [if_pos ((nI_leI (by omega) (by omega)).mpr (by omega)), show i = gp_l P f by omega]
      rfl
    · rw [if_neg (fun q => absurd ((nI_leI (by omega) (by omega)).mp q) (by omega))]
      have r : i < 200 := by omega
      have e1 := (hs.2.2.2.1 i (by omega)).1
      have k8 := (hI i (by omega)).1
      simp only [q, r, Option.bind_some, e1]
      unfold gm_X0_countOfKind_28
      rw [show nI i + 1 = nI (i + 1) from (nI_succ i).symm]
      have ih := c_cOK hw hf hs e hk (d - 1) n (i + 1) (by omega) (by omega)
      rw [gn_ss] at ih
      by_cases c : gp_k P f i = k
      · rw [if_pos (by rw [c]), li1, nI_add]
        rw [nz_t c] at ih
        exact ih
      · rw [if_neg (nI_ne (by omega) (by omega) c), li0, nI_add]
        rw [nz_f c] at ih
        exact ih
theorem c_cR (hw : gp_wf P) (hf : f < gp_c P) (hs : bs P f b) (e : go_k 0 a b X = X) (hy : ∀ i, i < gp_l P f → gl_is (ml b 8 i) (gl_m T P f i)) : ∀ (d n i : Nat), i + d = gp_l P f → d < n → gm_X0_countReached_4 fu n a (nI (gn_s (fun i => nz (∃ s, gl_m T P f i s)) i)) (nI i) X = some (nI (cr T P f), X)
  | d, 0, i, _, hn => absurd hn (Nat.not_lt_zero _)
  | d, n + 1, i, hd, hn => by
    obtain ⟨⟨-, l2⟩, -, hI, -⟩ := hw.2 f hf
    have q := gq_0 a b X
    rw [e] at q
    rw [gm_X0_countReached_4]
    simp only [q, Option.bind_some, hs.2.1]
    by_cases e0 : d = 0
    · rw [if_pos ((nI_leI (by omega) (by omega)).mpr (by omega)), show i = gp_l P f by omega]
      rfl
    · rw [if_neg (fun q => absurd ((nI_leI (by omega) (by omega)).mp q) (by omega))]
      have r : i < 200 := by omega
      have y := hy i (by omega)
      simp only [q, r, Option.bind_some]
      unfold gm_X0_countReached_29
      rw [show nI i + 1 = nI (i + 1) from (nI_succ i).symm]
      have ih := c_cR hw hf hs e hy (d - 1) n (i + 1) (by omega) (by omega)
      rw [gn_ss] at ih
      by_cases c : ∃ s, gl_m T P f i s
      · obtain ⟨s, hs⟩ := id c
        rw [if_neg (fun qq => by
          have := (y s).mpr hs
          rw [show ml b 8 i = 0 from gb_cmp.mp qq, gb_0] at this
          cases this), show (1 : Int32) = nI 1 from rfl, nI_add]
        rw [nz_t c] at ih
        exact ih
      · rw [if_pos (gb_cmp.mpr (gb_z.mpr fun s => by
          cases h : gb (ml b 8 i) s
          · rfl
          · exact absurd ⟨s, (y s).mp h⟩ c)), show (0 : Int32) = nI 0 from rfl, nI_add]
        rw [nz_f c] at ih
        exact ih
end CB
