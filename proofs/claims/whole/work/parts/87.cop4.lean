/-! the class: of, certify -/
section CS
variable {fu : Nat} {T : sT} {P P1 R : sP} {fg : Prop} {cur ip : Nat} {W W' : gw_T} {X : gx_H} {v : Bool}
theorem cm_is {y : Int64} {f i : Nat} (h : gl_is y (gl_m T R f i)) : gn_s (fun s => if gb y s = true then 1 else 0) 64 = cm T R f i := by
  unfold cm
  refine gn_eq 64 fun s _ => ?_
  by_cases c : gb y s = true
  · rw [if_pos c, nz_t ((h s).mp c)]
  · rw [if_neg c, nz_f (fun k => c ((h s).mpr k))]
set_option maxHeartbeats 1000000 in
theorem c_of (hS : SI T P fg P1) (hI : CI T P fg P1 cur W) (hD : gw_D W X) (hfu : 1000000 ≤ fu) (x y w : Int32) : ∃ X' W' a, gm_X5_of fu (wA W 0) (b32 v) x y w X = some (a, X') ∧ gw_D W' X' ∧ CI T P fg P1 cur W' ∧ W' 6 = W 6 ∧ wA W' 0 = wA W 0 ∧ ((∃ q R f i, sl P fg P1 v q R ∧ wh R x y f i ∧ a = ofv T R f i w) ∨ ((∀ q R f i, sl P fg P1 v q R → ¬ wh R x y f i) ∧ a = -1)) := by
  unfold gm_X5_of
  rw [gx_obT (hD.k hI.1.1)]
  rcases c_settledBody (fu := fu) (v := v) hS hI hD hfu x with ⟨q, R, f, X', W', s, hf, e, hD', hI', h6, h0, hb, hs, ha, hst⟩ | ⟨no, e⟩
  · rw [e, gx_b2s, gx_nls]
    have hw := (hI.sl hS s).2.2
    have l2 := (hw.2 f hf.2).1.2
    have eb := hD'.k hb
    rw [gx_obT eb, c_hasI hs.2.1 l2 eb, gx_b2s]
    by_cases h : ∃ i, y = nI i ∧ i < gp_l R f
    · rw [gz_t h, if_neg (by decide)]
      obtain ⟨i, rfl, hi⟩ := h
      have qb := gq_0 (wA W' (8 * sip cur v + f)) (wO W' (8 * sip cur v + f)) X'
      rw [eb] at qb
      have q0 := gq_5 (wA W' 0) (wO W' 0) X'
      rw [hD'.k hI'.1.1, h0] at q0
      have r : i < 200 := by omega
      obtain ⟨e1, e2⟩ := hs.2.2.2.1 i hi
      have gy := hst.2.1 f hf.2 i hi
      simp only [qb, q0, r, Option.bind_some, e1, e2, hI'.2.2.1.1]
      have fin : ∀ {a}, a = ofv T R f i w → ∃ X'' W'' a', some (a, X') = some (a', X'') ∧ gw_D W'' X'' ∧ CI T P fg P1 cur W'' ∧ W'' 6 = W 6 ∧ wA W'' 0 = wA W 0 ∧ ((∃ q R f i', sl P fg P1 v q R ∧ wh R x (nI i) f i' ∧ a' = ofv T R f i' w) ∨ ((∀ q R f i', sl P fg P1 v q R → ¬ wh R x (nI i) f i') ∧ a' = -1)) := fun {a} h => ⟨X', W', a, rfl, hD', hI', h6, h0, Or.inl ⟨q, R, f, i, s, ⟨hf.1, hf.2, rfl, hi⟩, h⟩⟩
      unfold ofv at fin
      by_cases w0 : w = 0
      · rw [if_pos w0]
        exact fin (by rw [if_pos w0])
      · rw [if_neg w0]
        by_cases w1 : w = 1
        · rw [if_pos w1]
          exact fin (by rw [if_neg w0, if_pos w1])
        · rw [if_neg w1]
          by_cases w2 : w = 2
          · rw [if_pos w2, gx_obT eb, c_isGuarded hw hf.2 hs ha (by omega) eb, gx_b2s]
            by_cases g : gp_gd R f i
            · rw [gz_t ⟨hi, g⟩, if_neg (by decide)]
              exact fin (by rw [if_neg w0, if_neg w1, if_pos w2, gz_t g])
            · rw [gz_f (fun h => g h.2), if_pos rfl]
              exact fin (by rw [if_neg w0, if_neg w1, if_pos w2, gz_f g])
          · rw [if_neg w2]
            by_cases w3 : w = 3
            · have eT := hD'.k hI'.1.2.1
              rw [if_pos w3, gx_obT eT, c_needs eT hI'.2.2.2.2.1.1 hS.1 hw (by omega) eb hf.2 hs hi gy, gx_b2s]
              by_cases g : gp_need T R f i
              · rw [gz_t g, if_neg (by decide)]
                exact fin (by rw [if_neg w0, if_neg w1, if_neg w2, if_pos w3, gz_t g])
              · rw [gz_f g, if_pos rfl]
                exact fin (by rw [if_neg w0, if_neg w1, if_neg w2, if_pos w3, gz_f g])
            · rw [if_neg w3]
              by_cases w4 : w = 4
              · rw [if_pos w4, c_bitCount, gx_b2s]
                exact fin (by rw [if_neg w0, if_neg w1, if_neg w2, if_neg w3, if_pos w4, ← cm_is gy])
              · rw [if_neg w4]
                exact fin (by rw [if_neg w0, if_neg w1, if_neg w2, if_neg w3, if_neg w4])
    · rw [gz_f h, if_pos rfl]
      refine ⟨X', W', _, rfl, hD', hI', h6, h0, Or.inr ⟨fun q' R' f' i s' hh => ?_, rfl⟩⟩
      obtain ⟨-, rfl⟩ := sl_un s s'
      have := wf1_un hw hf ⟨hh.1, hh.2.1⟩
      subst this
      exact h ⟨i, hh.2.2.1, hh.2.2.2⟩
  · rw [e, gx_b2s, gx_nln]
    exact ⟨X, W, _, rfl, hD, hI, rfl, rfl, Or.inr ⟨fun q R f i s h => no q R f s ⟨h.1, h.2.1⟩, rfl⟩⟩
set_option maxHeartbeats 1000000 in
theorem c_fU (hS : SI T P fg P1) (hI : CI T P fg P1 cur W) (hD : gw_D W X) (hfu : 100 ≤ fu) (hw : gp_wf R) {f : Nat} (hf : f < gp_c R) (hb : wi W (8 * ip + f) 0) (hs : bs R f (wO W (8 * ip + f))) (ha : ba R f (wO W (8 * ip + f))) (hy : ∀ i, i < gp_l R f → gl_is (ml (wO W (8 * ip + f)) 8 i) (gl_m T R f i)) : ∀ (d n i : Nat), i + d = gp_l R f → d < n → (∀ i', i' < i → ¬ badI T R f i') →
    (gm_X5_firstUncertified_2 fu n (wA W 0) (wA W (8 * ip + f)) (nI i) X = some (-1, X) ∧ ∀ i', i' < gp_l R f → ¬ badI T R f i') ∨ ∃ i', i' < gp_l R f ∧ badI T R f i' ∧ (∀ j, j < i' → ¬ badI T R f j) ∧ gm_X5_firstUncertified_2 fu n (wA W 0) (wA W (8 * ip + f)) (nI i) X = some (nI i', X)
  | d, 0, i, _, hn, _ => absurd hn (Nat.not_lt_zero _)
  | d, n + 1, i, hd, hn, hbd => by
    obtain ⟨⟨-, l2⟩, -, hIw, -⟩ := hw.2 f hf
    have eb := hD.k hb
    have qb := gq_0 (wA W (8 * ip + f)) (wO W (8 * ip + f)) X
    rw [eb] at qb
    have q0 := gq_5 (wA W 0) (wO W 0) X
    rw [hD.k hI.1.1] at q0
    have eT := hD.k hI.1.2.1
    rw [gm_X5_firstUncertified_2]
    simp only [qb, Option.bind_some, hs.2.1]
    by_cases e0 : d = 0
    · rw [if_pos ((nI_leI (by omega) (by omega)).mpr (by omega))]
      exact Or.inl ⟨rfl, fun i' h => hbd i' (by omega)⟩
    · rw [if_neg (fun q => absurd ((nI_leI (by omega) (by omega)).mp q) (by omega))]
      have hi : i < gp_l R f := by omega
      have r : i < 200 := by omega
      obtain ⟨e1, e2⟩ := hs.2.2.2.1 i hi
      have k8 := (hIw i hi).1
      simp only [qb, r, Option.bind_some, e1]
      have e34 : gm_X5_firstUncertified_34 fu (gm_X5_firstUncertified_2 fu n) (wA W 0) (wA W (8 * ip + f)) (nI i) X = if gz (gp_lack T R f i) = 0 then gm_X5_firstUncertified_2 fu n (wA W 0) (wA W (8 * ip + f)) (nI (i + 1)) X else some (nI i, X) := by
        unfold gm_X5_firstUncertified_34 gm_X5_firstUncertified_35
        rw [if_pos rfl, show nI i + 1 = nI (i + 1) from (nI_succ i).symm]
        simp only [q0, Option.bind_some, hI.2.2.1.1]
        rw [gx_obT eT, c_lacks eT hI.2.2.2.2.1.1 hS.1 hw hfu eb hf hs ha hi (hy i hi), gx_b2s]
      have e35 : gm_X5_firstUncertified_35 fu (gm_X5_firstUncertified_2 fu n) (wA W 0) (wA W (8 * ip + f)) (nI i) 1 X = some (nI i, X) := by
        unfold gm_X5_firstUncertified_35
        rw [if_neg (by decide)]
      have cont : (gp_k R f i = 5 → i + 1 < gp_l R f ∧ gp_gd R f (i + 1)) → ((if gz (gp_lack T R f i) = 0 then gm_X5_firstUncertified_2 fu n (wA W 0) (wA W (8 * ip + f)) (nI (i + 1)) X else some (nI i, X)) = some (-1, X) ∧ ∀ i', i' < gp_l R f → ¬ badI T R f i') ∨ ∃ i', i' < gp_l R f ∧ badI T R f i' ∧ (∀ j, j < i' → ¬ badI T R f j) ∧ (if gz (gp_lack T R f i) = 0 then gm_X5_firstUncertified_2 fu n (wA W 0) (wA W (8 * ip + f)) (nI (i + 1)) X else some (nI i, X)) = some (nI i', X) := by
        intro h5
        by_cases g : gp_lack T R f i
        · rw [gz_t g, if_neg (by decide)]
          exact Or.inr ⟨i, hi, Or.inr g, hbd, rfl⟩
        · rw [gz_f g, if_pos rfl]
          exact c_fU hS hI hD hfu hw hf hb hs ha hy (d - 1) n (i + 1) (by omega) (by omega) (fun i' h => by
            by_cases e : i' = i
            · subst e
              rintro (⟨h1, h2⟩ | h)
              · exact h2 (h5 h1)
              · exact g h
            · exact hbd i' (by omega))
      by_cases k5 : gp_k R f i = 5
      · rw [if_pos (by rw [k5]; rfl), gx_obT eb, show nI i + 1 = nI (i + 1) from (nI_succ i).symm, c_isGuarded hw hf hs ha (by omega) eb, gx_b2s]
        by_cases g : i + 1 < gp_l R f ∧ gp_gd R f (i + 1)
        · rw [gz_t g, if_neg (by decide), e34]
          exact cont fun _ => g
        · rw [gz_f g, if_pos rfl, e35]
          exact Or.inr ⟨i, hi, Or.inl ⟨k5, g⟩, hbd, rfl⟩
      · rw [if_neg (nI_nl 5 (x := 5) rfl (by omega) (by omega) k5), e34]
        exact cont fun h => absurd h k5
theorem c_c22 (hS : SI T P fg P1) (hI : CI T P fg P1 cur W) (hD : gw_D W X) (hfu : 300 ≤ fu) (hw : gp_wf R) (hp : pv W ip) (hh : ph T R W ip) (hst : pst T R W ip) : ∀ (d n f : Nat), f + d = 8 → d < n → (∀ f' i', f' < f → f' < gp_c R → i' < gp_l R f' → ¬ badI T R f' i') →
    ∃ a, gm_X5_certify_22 fu n (wA W 0) (some (wA W ip)) (nI f) X = some (a, X) ∧ cv T R a
  | d, 0, f, _, hn, _ => absurd hn (Nat.not_lt_zero _)
  | d, n + 1, f, hd, hn, hb => by
    have hc := hw.1
    rw [gm_X5_certify_22, li8]
    by_cases e0 : d = 0
    · rw [if_pos ((nI_leI (by omega) (by omega)).mpr (by omega))]
      exact ⟨0, rfl, Or.inl ⟨rfl, fun f' i' h1 h2 => hb f' i' (by omega) h1 h2⟩⟩
    · rw [if_neg (fun q => absurd ((nI_leI (by omega) (by omega)).mp q) (by omega)), Option.bind_some, gx_obT (hD.k hp.1)]
      unfold gm_X5_certify_50
      rw [show nI f + 1 = nI (f + 1) from (nI_succ f).symm]
      have next : (∀ i', f < gp_c R → i' < gp_l R f → ¬ badI T R f i') → ∃ a, gm_X5_certify_22 fu n (wA W 0) (some (wA W ip)) (nI (f + 1)) X = some (a, X) ∧ cv T R a := fun h => c_c22 hS hI hD hfu hw hp hh hst (d - 1) n (f + 1) (by omega) (by omega) (fun f' i' h1 h2 h3 => by
        by_cases e : f' = f
        · subst e
          exact h i' h2 h3
        · exact hb f' i' (by omega) h2 h3)
      rcases c_body (fu := fu) (hD.k hp.1) hh.1 (fun f hf => (ph_bd hp hh hw hf).1) hw (nI f) with ⟨h1, h2⟩ | ⟨g, h1, h2, h3⟩
      · rw [h1, gx_b2s, gx_nln, if_pos rfl]
        exact next fun i' hf _ => absurd ⟨f, rfl, hf⟩ h2
      · have := nI_inj (by omega) (by omega) h1
        subst this
        rw [h3, gx_b2s, gx_nls, gx_obT (hD.k hI.1.1)]
        obtain ⟨b1, b2, b3⟩ := ph_bd hp hh hw h2
        have l2 := (hw.2 f h2).1.2
        unfold gm_X5_firstUncertified
        rcases c_fU (fu := fu) hS hI hD (by omega) hw h2 b2 b3 (hst.1 f h2) (fun i hi => hst.2.1 f h2 i hi) (gp_l R f) fu 0 (by omega) (by omega) (fun _ h => absurd h (Nat.not_lt_zero _)) with ⟨k1, k2⟩ | ⟨i', k1, k2, k3, k4⟩
        · rw [show gm_X5_firstUncertified_2 fu fu (wA W 0) (wA W (8 * ip + f)) 0 X = _ from k1, gx_b2s, if_pos rfl]
          exact next fun i' _ h => k2 i' h
        · rw [show gm_X5_firstUncertified_2 fu fu (wA W 0) (wA W (8 * ip + f)) 0 X = _ from k4, gx_b2s, if_neg (nI_m1 (by omega))]
          refine ⟨_, rfl, Or.inr ⟨f, i', h2, k1, k2, fun f' j h4 h5 => hb f' j h4 (by omega) h5, k3, ?_⟩⟩
          rw [li256, li1, pk_mul, nI_add, nI_add]
theorem c_certify (hS : SI T P fg P1) (hI : CI T P fg P1 cur W) (hD : gw_D W X) (hfu : 1000000 ≤ fu) : ∃ X' W' a, gm_X5_certify fu (wA W 0) (b32 v) X = some (a, X') ∧ gw_D W' X' ∧ CI T P fg P1 cur W' ∧ W' 6 = W 6 ∧ wA W' 0 = wA W 0 ∧ ((∃ q R, sl P fg P1 v q R ∧ cv T R a) ∨ ((∀ q R, ¬ sl P fg P1 v q R) ∧ a = -1)) := by
  have q0 := gq_5 (wA W 0) (wO W 0) X
  rw [hD.k hI.1.1] at q0
  unfold gm_X5_certify
  rw [gx_obT (hD.k hI.1.1)]
  rcases c_progOf (fu := fu) (v := v) hI hD with ⟨q, R, s, e⟩ | ⟨no, e⟩
  · rw [e, gx_b2s, gx_nls]
    simp only [q0, Option.bind_some, hI.2.2.1.2.1]
    obtain ⟨X', W', g1, g2, g3, g4, g5, g6, -, -, g7, g8, -⟩ := c_settle (fu := fu) hS hI hD s hfu
    rw [gx_obT (hD.k hI.1.2.2.1), g1, Option.bind_some]
    obtain ⟨hip, -, hw⟩ := hI.sl hS s
    obtain ⟨a, k1, k2⟩ := c_c22 (fu := fu) hS g3 g2 (by omega) hw (g3.pv hip) g7 g8 8 fu 0 (by omega) (by omega) (fun _ _ h => absurd h (Nat.not_lt_zero _))
    rw [g5, g5] at k1
    exact ⟨X', W', a, k1, g2, g3, g4, g5 0, Or.inl ⟨q, R, s, k2⟩⟩
  · rw [e, gx_b2s, gx_nln]
    exact ⟨X, W, _, rfl, hD, hI, rfl, rfl, Or.inr ⟨no, rfl⟩⟩
end CS
