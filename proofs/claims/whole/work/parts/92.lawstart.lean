/-! the law's start: both objects made; and the whole -/
section LS
theorem gd_nw {X : gx_H} {a ci k : Nat} {e : gx_E} (h : a ≠ X.2) : gx_gd (gx_nw X e) a ci k = gx_gd X a ci k := by
  unfold gx_gd gx_gf gx_nw gx_up
  dsimp only
  rw [if_neg h]
theorem rt_0 : rt (t0 1) (go_si go_0 2 1) := ⟨rfl, fun c s t _ _ => by
  show gb 0 t = true ↔ false = true
  rw [gb_0], fun c _ => (if_neg (by intro q; cases q)).symm⟩
theorem pv_0 {W : gw_T} {ip a : Nat} (h : W ip = some (3, a, go_0)) (hb : ∀ f, f < 8 → W (8 * ip + f) = none) : pv W ip := by
  obtain ⟨h1, h2, h3⟩ := wi_mk h
  refine ⟨h1, fun f hf => Or.inl ⟨?_, hb f hf⟩⟩
  rw [h3]
  rfl
def p0 : sP := (0, fun _ => 0, fun _ _ => 0, fun _ _ => 0, fun _ => 0, fun _ _ => 0, fun _ _ => 0, fun _ _ => 0)
theorem p0_wf : gp_wf p0 := ⟨Nat.zero_le _, fun f hf => absurd hf (Nat.not_lt_zero _)⟩
theorem MI_0 : MI (t0 1) p0 False p0 (go_si go_0 1 1) := by
  refine MI_chg ⟨rfl, fun c s t _ _ _ => ?_, fun c _ => ?_⟩ ⟨rfl, fun f hf => absurd hf (Nat.not_lt_zero _)⟩ rfl rfl
  · exact (if_neg (by intro q; cases q)).symm
  · exact (if_neg (by intro q; cases q)).symm
/-- one new object, and the reference to it -/
theorem new_ref {W : gw_T} {X : gx_H} (hD : gw_D W X) {i ci k aG : Nat} {O G : go_O} (hi : W i = none) (hi0 : i ≠ 0) (h0 : W 0 = some (5, aG, G)) (hk : k < 5) : gw_D (go_u (go_u W i (some (ci, X.2, O))) 0 (some (5, aG, go_sr G k (some X.2)))) (go_k 5 aG (go_sr G k (some X.2)) (go_k ci X.2 O (X.1, X.2 + go_z ci))) ∧ gx_pf (go_k ci X.2 O (X.1, X.2 + go_z ci)) aG 5 k (.ref X.2) = some (go_k 5 aG (go_sr G k (some X.2)) (go_k ci X.2 O (X.1, X.2 + go_z ci))) := by
  have hD1 := hD.new hi (ci := ci) O
  have h0' : go_u W i (some (ci, X.2, O)) 0 = some (5, aG, G) := (go_u_n (Ne.symm hi0)).trans h0
  refine ⟨hD1.up h0' _, ?_⟩
  have q := gq_5 aG G (go_k ci X.2 O (X.1, X.2 + go_z ci))
  rw [hD1.k h0'] at q
  have : k = 0 ∨ k = 1 ∨ k = 2 ∨ k = 3 ∨ k = 4 := by omega
  rcases this with rfl | rfl | rfl | rfl | rfl <;> simp only [q]
set_option maxHeartbeats 2000000 in
theorem law_init (fu z0 : Nat) (xs : Nat → Int32) (L : Nat) : ∃ W X aM c s, gm_L_law fu xs L (fun _ => none, z0) = gx_ad c s (gm_L_law_18 fu xs L fu z0 aM 0 X) ∧ c ≤ 100 ∧ s ≤ 100000 ∧ IV z0 aM W X := by
  unfold gm_L_law
  have hD0 : gw_D (fun _ => none) ((fun _ => none, z0) : gx_H) := ⟨fun i ci a O h => (by cases h), fun i j ci a cj b O P h => (by cases h)⟩
  rw [n_5]
  have hDa := hD0.new (i := 0) rfl (ci := 5) go_0
  rw [show go_z 5 = 1 from rfl] at hDa
  generalize hXa : go_k 5 ((fun _ => none, z0) : gx_H).2 go_0 (((fun _ => none, z0) : gx_H).1, ((fun _ => none, z0) : gx_H).2 + 1) = Xa at hDa ⊢
  have za : ((fun _ => none, z0) : gx_H).2 = z0 := rfl
  rw [za] at hDa ⊢
  generalize hWa : go_u (fun _ => none) 0 (some (5, z0, go_0)) = Wa at hDa
  have a0 : Wa 0 = some (5, z0, go_0) := by rw [← hWa, go_u_s]
  have an : ∀ j, j ≠ 0 → Wa j = none := fun j h => by rw [← hWa, go_u_n h]
  have nz0 : ∀ {W : gw_T} {X : gx_H} {G : go_O}, gw_D W X → W 0 = some (5, z0, G) → z0 ≠ X.2 := fun {W X G} hD h => by
    have := (hD.1 0 _ _ _ h).2
    have := go_z0 5
    omega
  unfold gm_X5_init
  -- the table
  rw [n_4, gx_b4s]
  obtain ⟨hDb, pb⟩ := new_ref hDa (i := 1) (ci := 4) (k := 0) (O := go_si go_0 2 1) (an 1 (by omega)) (by omega) a0 (by omega)
  rw [show go_z 4 = 3 from rfl] at hDb pb
  rw [pb, Option.bind_some]
  generalize hXb : go_k 5 z0 (go_sr go_0 0 (some Xa.2)) (go_k 4 Xa.2 (go_si go_0 2 1) (Xa.1, Xa.2 + 3)) = Xb at hDb ⊢
  generalize hWb : go_u (go_u Wa 1 (some (4, Xa.2, go_si go_0 2 1))) 0 (some (5, z0, go_sr go_0 0 (some Xa.2))) = Wb at hDb
  have b0 : Wb 0 = some (5, z0, go_sr go_0 0 (some Xa.2)) := by rw [← hWb, go_u_s]
  have b1 : Wb 1 = some (4, Xa.2, go_si go_0 2 1) := by rw [← hWb, go_u_n (by omega), go_u_s]
  have bn : ∀ j, j ≠ 0 → j ≠ 1 → Wb j = none := fun j h h' => by rw [← hWb, go_u_n h, go_u_n h']; exact an j h
  -- Flow
  rw [gd_nw (nz0 hDb b0)]
  have qb := gq_5 z0 (go_sr go_0 0 (some Xa.2)) Xb
  rw [hDb.k b0] at qb
  simp only [qb]
  rw [show (go_sr go_0 0 (some Xa.2)).2.2.1 0 = some Xa.2 from rfl, Option.bind_some, n_1, gx_b4s]
  obtain ⟨hDc, pc⟩ := new_ref hDb (i := 2) (ci := 1) (k := 1) (O := go_sr go_0 0 (some Xa.2)) (bn 2 (by omega) (by omega)) (by omega) b0 (by omega)
  rw [show go_z 1 = 2 from rfl] at hDc pc
  rw [pc, Option.bind_some]
  generalize hXc : go_k 5 z0 (go_sr (go_sr go_0 0 (some Xa.2)) 1 (some Xb.2)) (go_k 1 Xb.2 (go_sr go_0 0 (some Xa.2)) (Xb.1, Xb.2 + 2)) = Xc at hDc ⊢
  generalize hWc : go_u (go_u Wb 2 (some (1, Xb.2, go_sr go_0 0 (some Xa.2)))) 0 (some (5, z0, go_sr (go_sr go_0 0 (some Xa.2)) 1 (some Xb.2))) = Wc at hDc
  have c0 : Wc 0 = some (5, z0, go_sr (go_sr go_0 0 (some Xa.2)) 1 (some Xb.2)) := by rw [← hWc, go_u_s]
  have c1 : Wc 1 = some (4, Xa.2, go_si go_0 2 1) := by rw [← hWc, go_u_n (by omega), go_u_n (by omega), b1]
  have c2 : Wc 2 = some (1, Xb.2, go_sr go_0 0 (some Xa.2)) := by rw [← hWc, go_u_n (by omega), go_u_s]
  have cn : ∀ j, j ≠ 0 → j ≠ 1 → j ≠ 2 → Wc j = none := fun j h h' h'' => by rw [← hWc, go_u_n h, go_u_n h'']; exact bn j h h'
  -- Forger
  rw [gd_nw (nz0 hDc c0)]
  have qc := gq_5 z0 (go_sr (go_sr go_0 0 (some Xa.2)) 1 (some Xb.2)) Xc
  rw [hDc.k c0] at qc
  simp only [qc]
  rw [show (go_sr (go_sr go_0 0 (some Xa.2)) 1 (some Xb.2)).2.2.1 0 = some Xa.2 from rfl, Option.bind_some, n_2, gx_b4s]
  obtain ⟨hDd, pd⟩ := new_ref hDc (i := 3) (ci := 2) (k := 2) (O := go_sr go_0 0 (some Xa.2)) (cn 3 (by omega) (by omega) (by omega)) (by omega) c0 (by omega)
  rw [show go_z 2 = 2 from rfl] at hDd pd
  rw [pd, Option.bind_some]
  generalize hGd : go_sr (go_sr (go_sr go_0 0 (some Xa.2)) 1 (some Xb.2)) 2 (some Xc.2) = Gd at hDd ⊢
  generalize hXd : go_k 5 z0 Gd (go_k 2 Xc.2 (go_sr go_0 0 (some Xa.2)) (Xc.1, Xc.2 + 2)) = Xd at hDd ⊢
  generalize hWd : go_u (go_u Wc 3 (some (2, Xc.2, go_sr go_0 0 (some Xa.2)))) 0 (some (5, z0, Gd)) = Wd at hDd
  have d0 : Wd 0 = some (5, z0, Gd) := by rw [← hWd, go_u_s]
  have d1 : Wd 1 = some (4, Xa.2, go_si go_0 2 1) := by rw [← hWd, go_u_n (by omega), go_u_n (by omega), c1]
  have d2 : Wd 2 = some (1, Xb.2, go_sr go_0 0 (some Xa.2)) := by rw [← hWd, go_u_n (by omega), go_u_n (by omega), c2]
  have d3 : Wd 3 = some (2, Xc.2, go_sr go_0 0 (some Xa.2)) := by rw [← hWd, go_u_n (by omega), go_u_s]
  have dn : ∀ j, 4 ≤ j → Wd j = none := fun j h => by rw [← hWd, go_u_n (by omega), go_u_n (by omega)]; exact cn j (by omega) (by omega) (by omega)
  -- the programs
  rw [n_3, gx_b4s]
  obtain ⟨hDe, pe⟩ := new_ref hDd (i := 4) (ci := 3) (k := 3) (O := go_0) (dn 4 (by omega)) (by omega) d0 (by omega)
  rw [show go_z 3 = 2 from rfl] at hDe pe
  rw [pe, Option.bind_some]
  generalize hXe : go_k 5 z0 (go_sr Gd 3 (some Xd.2)) (go_k 3 Xd.2 go_0 (Xd.1, Xd.2 + 2)) = Xe at hDe ⊢
  generalize hWe : go_u (go_u Wd 4 (some (3, Xd.2, go_0))) 0 (some (5, z0, go_sr Gd 3 (some Xd.2))) = We at hDe
  have e0 : We 0 = some (5, z0, go_sr Gd 3 (some Xd.2)) := by rw [← hWe, go_u_s]
  have e1 : We 1 = some (4, Xa.2, go_si go_0 2 1) := by rw [← hWe, go_u_n (by omega), go_u_n (by omega), d1]
  have e2 : We 2 = some (1, Xb.2, go_sr go_0 0 (some Xa.2)) := by rw [← hWe, go_u_n (by omega), go_u_n (by omega), d2]
  have e3 : We 3 = some (2, Xc.2, go_sr go_0 0 (some Xa.2)) := by rw [← hWe, go_u_n (by omega), go_u_n (by omega), d3]
  have e4 : We 4 = some (3, Xd.2, go_0) := by rw [← hWe, go_u_n (by omega), go_u_s]
  have en : ∀ j, 5 ≤ j → We j = none := fun j h => by rw [← hWe, go_u_n (by omega), go_u_n (by omega)]; exact dn j (by omega)
  rw [n_3, gx_b4s]
  obtain ⟨hDf, pf⟩ := new_ref hDe (i := 5) (ci := 3) (k := 4) (O := go_0) (en 5 (by omega)) (by omega) e0 (by omega)
  rw [show go_z 3 = 2 from rfl] at hDf pf
  rw [pf, Option.bind_some]
  generalize hXf : go_k 5 z0 (go_sr (go_sr Gd 3 (some Xd.2)) 4 (some Xe.2)) (go_k 3 Xe.2 go_0 (Xe.1, Xe.2 + 2)) = Xf at hDf ⊢
  generalize hWf : go_u (go_u We 5 (some (3, Xe.2, go_0))) 0 (some (5, z0, go_sr (go_sr Gd 3 (some Xd.2)) 4 (some Xe.2))) = Wf at hDf
  have f0 : Wf 0 = some (5, z0, go_sr (go_sr Gd 3 (some Xd.2)) 4 (some Xe.2)) := by rw [← hWf, go_u_s]
  have f1 : Wf 1 = some (4, Xa.2, go_si go_0 2 1) := by rw [← hWf, go_u_n (by omega), go_u_n (by omega), e1]
  have f2 : Wf 2 = some (1, Xb.2, go_sr go_0 0 (some Xa.2)) := by rw [← hWf, go_u_n (by omega), go_u_n (by omega), e2]
  have f3 : Wf 3 = some (2, Xc.2, go_sr go_0 0 (some Xa.2)) := by rw [← hWf, go_u_n (by omega), go_u_n (by omega), e3]
  have f4 : Wf 4 = some (3, Xd.2, go_0) := by rw [← hWf, go_u_n (by omega), go_u_n (by omega), e4]
  have f5 : Wf 5 = some (3, Xe.2, go_0) := by rw [← hWf, go_u_n (by omega), go_u_s]
  have fn : ∀ j, 6 ≤ j → Wf j = none := fun j h => by rw [← hWf, go_u_n (by omega), go_u_n (by omega)]; exact en j (by omega)
  simp only [gx_ads, gx_b4s]
  -- the model
  rw [n_6, gx_b4s]
  have hDg := hDf.new (i := 6) (fn 6 (by omega)) (ci := 6) (go_si go_0 1 1)
  rw [show go_z 6 = 17 from rfl] at hDg
  generalize hWg : go_u Wf 6 (some (6, Xf.2, go_si go_0 1 1)) = Wg at hDg
  have g6 : Wg 6 = some (6, Xf.2, go_si go_0 1 1) := by rw [← hWg, go_u_s]
  have go' : ∀ j, j ≠ 6 → Wg j = Wf j := fun j h => by rw [← hWg, go_u_n h]
  have hCI : CI (t0 1) p0 False p0 4 Wf := by
    obtain ⟨u0, v0, w0⟩ := wi_mk f0
    obtain ⟨u1, v1, w1⟩ := wi_mk f1
    obtain ⟨u2, v2, w2⟩ := wi_mk f2
    obtain ⟨u3, v3, w3'⟩ := wi_mk f3
    obtain ⟨u4, v4, w4⟩ := wi_mk f4
    obtain ⟨u5, v5, w5⟩ := wi_mk f5
    refine ⟨⟨u0, u1, u2, u3, pv_0 f4 (fun f _ => fn _ (by omega)), pv_0 f5 (fun f _ => fn _ (by omega))⟩, Or.inl rfl, ?_, ?_, ?_, ⟨?_, fun f hf => absurd hf (Nat.not_lt_zero _), Or.inl ?_⟩, False.elim⟩
    · rw [w0, v1, v2, v3, v4, show 9 - 4 = 5 from rfl, v5, ← hGd]
      exact ⟨rfl, rfl, rfl, rfl, rfl, by rw [gz_f (fun h => h)]; rfl⟩
    · rw [w2, w3', v1]
      exact ⟨rfl, rfl⟩
    · rw [w1, wc_t0]
      exact ⟨rt_0, rfl⟩
    · rw [w4]
      rfl
    · rw [w4]
      rfl
  have hS : SI (t0 1) p0 False p0 := ⟨t0_wf (by omega) (by omega), p0_wf, False.elim⟩
  rw [gx_ad_ad, gx_ad_ad, gx_ad_ad]
  refine ⟨Wg, _, Xf.2, _, _, rfl, ?_, ?_, hDg, ?_, t0 1, p0, False, p0, 4, go_si go_0 1 1, hS, CI_ag hS.2.1 False.elim go' hCI, g6, MI_0⟩
  · omega
  · omega
  · rw [wA_eq (go' 0 (by omega))]
    exact (wi_mk f0).2.1
end LS
