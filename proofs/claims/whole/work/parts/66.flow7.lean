/-! Flow: waking the callers, the loop to its end -/
section FM
variable {W0 : gw_T} {ip aF aT aP : Nat} {ad : Nat → Nat} {B : Nat → go_O} {F : go_O} {X : gx_H} {fu f i t : Nat} {T : sT} {P : sP}
def mn (a b : Nat) : Nat := if a ≤ b then a else b
set_option maxHeartbeats 1000000 in
theorem f_wake2 (hip : 4 ≤ ip) (hw : gp_wf P) (hfu : 300 ≤ fu) (hC : fc W0 T P ip aT aP ad) : ∀ (d n f : Nat) (X : gx_H) (B : Nat → go_O) (F : go_O) (t : Nat), gw_D (fw W0 ip (gp_c P) aF ad B F) X → fi T P aT B F t → f + d = 8 → d < n →
    ∃ X' B' F' t', gm_X1_wakeCallers_2 fu n aF aP (nI f) X = gm_X1_wakeCallers_32 fu fu aF aP (nI 0) X' ∧ gw_D (fw W0 ip (gp_c P) aF ad B' F') X' ∧ fi T P aT B' F' t' ∧ wk B B' F F' ∧ fGr B' = fGr B ∧ t' + gn_s (fun g => gn_s (cw P (fGr B) g) (gp_l P g)) (mn f (gp_c P)) ≤ t + gn_s (fun g => gn_s (cw P (fGr B) g) (gp_l P g)) (gp_c P) ∧
      ∀ g, f ≤ g → g < gp_c P → ∀ j, j < gp_l P g → gp_k P g j = 3 → gp_n P g j < gp_c P → ¬ fGr B (gp_n P g j) = 0 → ¬ fMy B g j = 0 → ¬ fWt B' g j = 0
  | d, 0, f, X, B, F, t, _, _, _, hn => absurd hn (Nat.not_lt_zero _)
  | d, n + 1, f, X, B, F, t, h, I, hd, hn => by
    have hc := hw.1
    rw [gm_X1_wakeCallers_2, li8]
    have rfw : wk B B F F := ⟨rfl, rfl, rfl, rfl, rfl, fun _ _ q => q⟩
    by_cases e : d = 0
    · rw [if_pos ((nI_leI (by omega) (by omega)).mpr (by omega))]
      refine ⟨X, B, F, t, rfl, h, I, rfw, rfl, ?_, fun g a b => by omega⟩
      have : mn f (gp_c P) = gp_c P := by
        unfold mn
        split <;> omega
      rw [this]
      exact Nat.le_refl _
    · rw [if_neg (fun c => absurd ((nI_leI (by omega) (by omega)).mp c) (by omega))]
      obtain ⟨OT, OP, c1, c2, c3, c4, c5⟩ := id hC
      rw [gx_obT (h.k ((fw_o (by omega) (by omega)).trans c3))]
      unfold gm_X1_wakeCallers_24
      rw [nI_1]
      by_cases hf : f < gp_c P
      · rw [f_body hip hw hC h hf, gx_b2s, gx_nls, gx_obT (kF h)]
        unfold gm_X1_wakeCallersIn
        have hl := (hw.2 f hf).1.2
        obtain ⟨X1, B1, F1, t1, b1, b2, b3, b4, b5, b6, b7⟩ := f_wakeIn (fu := fu) hip hw hC hf (gp_l P f) fu 0 X B F t h I (by omega) (by omega)
        rw [show (0 : Int32) = nI 0 from rfl, b1, Option.bind_some]
        obtain ⟨X', B', F', t', n1, n2, n3, n4, n5, n6, n7⟩ := f_wake2 hip hw hfu hC (d - 1) n (f + 1) X1 B1 F1 t1 b2 b3 (by omega) (by omega)
        rw [b5] at n6 n7
        have m1 : mn (f + 1) (gp_c P) = f + 1 := by unfold mn; rw [if_pos (by omega)]
        have m0 : mn f (gp_c P) = f := by unfold mn; rw [if_pos (by omega)]
        have gs0 : gn_s (cw P (fGr B) f) 0 = 0 := rfl
        have gs1 : gn_s (fun g => gn_s (cw P (fGr B) g) (gp_l P g)) (f + 1) = gn_s (fun g => gn_s (cw P (fGr B) g) (gp_l P g)) f + gn_s (cw P (fGr B) f) (gp_l P f) := rfl
        rw [m1] at n6
        refine ⟨X', B', F', t', n1, n2, n3, ⟨n4.1.trans b4.1, n4.2.1.trans b4.2.1, n4.2.2.1.trans b4.2.2.1, n4.2.2.2.1.trans b4.2.2.2.1, n4.2.2.2.2.1.trans b4.2.2.2.2.1, fun g j q => n4.2.2.2.2.2 g j (b4.2.2.2.2.2 g j q)⟩, n5.trans b5, by rw [m0]; omega, fun g a1 a2 j a3 a4 a5 a6 a7 => ?_⟩
        by_cases e2 : g = f
        · subst e2
          exact n4.2.2.2.2.2 g j (b7 j (by omega) a3 a4 a5 a6 a7)
        · exact n7 g (by omega) a2 j a3 a4 a5 a6 (by rw [b4.1]; exact a7)
      · rw [f_bodyN hip hw hC h (by omega) (by omega), gx_b2s, gx_nln]
        obtain ⟨X', B', F', t', n1, n2, n3, n4, n5, n6, n7⟩ := f_wake2 hip hw hfu hC (d - 1) n (f + 1) X B F t h I (by omega) (by omega)
        have m1 : mn (f + 1) (gp_c P) = gp_c P := by unfold mn; rw [if_neg (by omega)]
        have m0 : mn f (gp_c P) = gp_c P := by
          unfold mn
          split <;> omega
        rw [m1] at n6
        exact ⟨X', B', F', t', n1, n2, n3, n4, n5, by rw [m0]; exact n6, fun g a1 a2 => by omega⟩
set_option maxHeartbeats 1000000 in
theorem f_wake32 (hip : 4 ≤ ip) (hw : gp_wf P) (hC : fc W0 T P ip aT aP ad) : ∀ (d n f : Nat) (X : gx_H) (B : Nat → go_O), gw_D (fw W0 ip (gp_c P) aF ad B F) X → fi T P aT B F t → f + d = 8 → d < n →
    ∃ X' B', gm_X1_wakeCallers_32 fu n aF aP (nI f) X = some X' ∧ gw_D (fw W0 ip (gp_c P) aF ad B' (go_si F 3 0)) X' ∧ (∀ g, g < gp_c P → bs P g (B' g) ∧ ba P g (B' g)) ∧ fMy B' = fMy B ∧ fEn B' = fEn B ∧ fEx B' = fEx B ∧ fAl B' = fAl B ∧ fWt B' = fWt B ∧ ∀ g, fGr B' g = if f ≤ g ∧ g < gp_c P then 0 else fGr B g
  | d, 0, f, X, B, _, _, _, hn => absurd hn (Nat.not_lt_zero _)
  | d, n + 1, f, X, B, h, I, hd, hn => by
    have hc := hw.1
    rw [gm_X1_wakeCallers_32, li8]
    by_cases e : d = 0
    · rw [if_pos ((nI_leI (by omega) (by omega)).mpr (by omega))]
      have qF := gq_1 aF F X
      rw [kF h] at qF
      simp only [qF, Option.bind_some]
      exact ⟨_, B, rfl, fd_F h _, I.1, rfl, rfl, rfl, rfl, rfl, fun g => by rw [if_neg (by omega)]⟩
    · rw [if_neg (fun c => absurd ((nI_leI (by omega) (by omega)).mp c) (by omega))]
      obtain ⟨OT, OP, c1, c2, c3, c4, c5⟩ := id hC
      rw [gx_obT (h.k ((fw_o (by omega) (by omega)).trans c3))]
      unfold gm_X1_wakeCallers_53
      rw [nI_1]
      by_cases hf : f < gp_c P
      · rw [f_body hip hw hC h hf, gx_b2s, gx_nls]
        have q := gq_0 (ad f) (B f) X
        rw [kB hip h hf] at q
        simp only [q, Option.bind_some]
        have h1 := fd_B hip h hf (go_si (B f) 14 0)
        obtain ⟨I1, I2, I3, I4, I5, I6, I7, I9⟩ := id I
        have hm : fMy (go_u B f (go_si (B f) 14 0)) = fMy B := go_u_same (fun b => fun j => ml b 8 j) B f (go_si (B f) 14 0) rfl
        have hw1 : fWt (go_u B f (go_si (B f) 14 0)) = fWt B := go_u_same (fun b => fun j => mi b 9 j) B f (go_si (B f) 14 0) rfl
        have he : fEn (go_u B f (go_si (B f) 14 0)) = fEn B := go_u_same (fun b => b.2.1 11) B f (go_si (B f) 14 0) rfl
        have hx : fEx (go_u B f (go_si (B f) 14 0)) = fEx B := go_u_same (fun b => b.2.1 12) B f (go_si (B f) 14 0) rfl
        have ha : fAl (go_u B f (go_si (B f) 14 0)) = fAl B := go_u_same (fun b => b.2.1 13) B f (go_si (B f) 14 0) rfl
        have hg : ∀ g, fGr (go_u B f (go_si (B f) 14 0)) g = if g = f then 0 else fGr B g := fun g => by
          show (go_u B f (go_si (B f) 14 0) g).1 14 = _
          by_cases e2 : g = f
          · rw [e2, go_u_s, if_pos rfl]
            rfl
          · rw [go_u_n e2, if_neg e2]
        have J : fi T P aT (go_u B f (go_si (B f) 14 0)) F t := by
          refine ⟨bs_up I1 hf (fun k hk => by rw [si_at, if_neg hk]) (fun k j _ => rfl), I2, fun q g hgc => ?_, by rw [hw1]; exact I4, by rw [hw1]; exact I5, I6, ?_, by rw [hw1, hm]; exact I9⟩
          · rw [hg]
            by_cases e2 : g = f
            · rw [if_pos e2]
            · rw [if_neg e2]; exact I3 q g hgc
          · unfold fn
            rw [hm, he, hx, ha]
            exact I7
        obtain ⟨X', B', n1, n2, n3, n4, n5, n6, n7, n8, n9⟩ := f_wake32 hip hw hC (d - 1) n (f + 1) _ _ h1 J (by omega) (by omega)
        refine ⟨X', B', n1, n2, n3, n4.trans hm, n5.trans he, n6.trans hx, n7.trans ha, n8.trans hw1, fun g => ?_⟩
        rw [n9, hg]
        by_cases e2 : f + 1 ≤ g ∧ g < gp_c P
        · rw [if_pos e2, if_pos (by omega)]
        · rw [if_neg e2]
          by_cases e3 : g = f
          · rw [if_pos e3, if_pos (by omega)]
          · rw [if_neg e3, if_neg (by omega)]
      · rw [f_bodyN hip hw hC h (by omega) (by omega), gx_b2s, gx_nln]
        obtain ⟨X', B', n1, n2, n3, n4, n5, n6, n7, n8, n9⟩ := f_wake32 hip hw hC (d - 1) n (f + 1) X B h I (by omega) (by omega)
        refine ⟨X', B', n1, n2, n3, n4, n5, n6, n7, n8, fun g => ?_⟩
        rw [n9, if_neg (by omega), if_neg (by omega)]
theorem uCa_split (ex al : Nat → Int64) (gr : Nat → Int32) : uCa P ex al gr = ds P (fun f i => if gp_k P f i = 3 ∧ gp_n P f i < gp_c P then uG ex al (gp_n P f i) else 0) + ds P (cw P gr) := by
  unfold uCa ds
  rw [← gn_add]
  refine gn_eq _ fun f _ => ?_
  rw [← gn_add]
  refine gn_eq _ fun i _ => ?_
  show (if gp_k P f i = 3 ∧ gp_n P f i < gp_c P then uG ex al (gp_n P f i) + i01 (gr (gp_n P f i)) else 0) = (if gp_k P f i = 3 ∧ gp_n P f i < gp_c P then uG ex al (gp_n P f i) else 0) + (if gp_k P f i = 3 ∧ gp_n P f i < gp_c P then i01 (gr (gp_n P f i)) else 0)
  by_cases c : gp_k P f i = 3 ∧ gp_n P f i < gp_c P
  · rw [if_pos c, if_pos c, if_pos c]
  · rw [if_neg c, if_neg c, if_neg c]
set_option maxHeartbeats 1000000 in
theorem f_wake (hip : 4 ≤ ip) (hw : gp_wf P) (hfu : 300 ≤ fu) (hC : fc W0 T P ip aT aP ad) (h : gw_D (fw W0 ip (gp_c P) aF ad B F) X) (I : fi T P aT B F t) (hg3 : ¬ F.1 3 = 0) (hz : ∀ g j, g < gp_c P → j < gp_l P g → fend T P g j B) (he : fe P B) :
    ∃ X' B' F' t', gm_X1_wakeCallers fu aF aP X = some X' ∧ gw_D (fw W0 ip (gp_c P) aF ad B' F') X' ∧ fi T P aT B' F' t' ∧ fp P B' F' t' + 1 ≤ fp P B F t ∧ fe P B' ∧ (∀ g j, g < gp_c P → j < gp_l P g → fend T P g j B') ∧ ∀ g s, gb (fEn B g) s = true → gb (fEn B' g) s = true := by
  unfold gm_X1_wakeCallers
  obtain ⟨X1, B1, F1, t1, b1, b2, b3, b4, b5, b6, b7⟩ := f_wake2 (fu := fu) hip hw hfu hC 8 fu 0 X B F t h I (by omega) (by omega)
  rw [show (0 : Int32) = nI 0 from rfl, b1]
  obtain ⟨X2, B2, n1, n2, n3, n4, n5, n6, n7, n8, n9⟩ := f_wake32 (fu := fu) hip hw hC 8 fu 0 X1 B1 b2 b3 (by omega) (by omega)
  obtain ⟨J1, J2, J3, J4, J5, J6, J7, J9⟩ := id b3
  have hm := n4.trans b4.1
  have hen := n5.trans b4.2.1
  have hx := n6.trans b4.2.2.1
  have ha := n7.trans b4.2.2.2.1
  have hgr : ∀ g, g < gp_c P → fGr B2 g = 0 := fun g hg => by rw [n9, if_pos ⟨by omega, hg⟩]
  refine ⟨X2, B2, go_si F1 3 0, t1, n1, n2, ⟨n3, J2, fun _ => hgr, by rw [n8]; exact J4, by rw [n8]; exact J5, J6, ?_, by rw [n8, n4]; exact J9⟩, ?_, ?_, fun g j hgc hj => ?_, fun g s hs => by rw [hen]; exact hs⟩
  · unfold fn
    rw [n4, n5, n6, n7]
    exact J7
  · have mn0 : gn_s (fun g => gn_s (cw P (fGr B) g) (gp_l P g)) (mn 0 (gp_c P)) = 0 := by
      unfold mn
      rw [if_pos (by omega)]
      rfl
    have z0 : ds P (cw P (fGr B2)) = 0 := by
      have := ds_le (P := P) (h := cw P (fGr B2)) (h' := fun _ _ => 0) (fun g j hg hj => by
        unfold cw
        split
        · rename_i c
          rw [hgr _ c.2]
          exact Nat.le_refl _
        · exact Nat.le_refl _)
      have z1 := ds_bd hw (h := fun _ _ => 0) (k := 0) (fun _ _ _ _ => Nat.le_refl _)
      omega
    have dsw : ds P (cw P (fGr B)) = gn_s (fun g => gn_s (cw P (fGr B) g) (gp_l P g)) (gp_c P) := rfl
    have s3 : (go_si F1 3 0).1 3 = 0 := rfl
    unfold fp
    rw [uCa_split, uCa_split, z0, hm, hx, ha, s3, i01_1 hg3, i01_0 rfl]
    omega
  · unfold fe
    rw [hen, hm]
    exact he
  · unfold fend
    rw [n8]
    unfold bm be bx bl
    rw [hm, hen, hx, ha]
    rcases hz g j hgc hj with q | q | ⟨k3, hn, q⟩
    · exact Or.inl (b4.2.2.2.2.2 g j q)
    · exact Or.inr (Or.inl q)
    · by_cases m0 : fMy B g j = 0
      · exact Or.inr (Or.inl (rule_zero m0))
      · exact Or.inl (b7 g (by omega) hgc j hj k3 hn q m0)
set_option maxHeartbeats 1000000 in
theorem f_loop (hip : 4 ≤ ip) (hw : gp_wf P) (hTw : gs_wf T) (hfu : 300 ≤ fu) (hC : fc W0 T P ip aT aP ad) : ∀ (n k j : Nat) (X : gx_H) (B : Nat → go_O) (F : go_O) (t : Nat), gw_D (fw W0 ip (gp_c P) aF ad B F) X → fi T P aT B F t → (∀ g j, g < gp_c P → j < gp_l P g → fend T P g j B) → fe P B → fp P B F t = j → k + j ≤ 400000 → j < n →
    ∃ X' B' F', gm_X1_settle_31 fu n aF aP (nI k) X = gm_X1_settle_96 fu aP X' ∧ gw_D (fw W0 ip (gp_c P) aF ad B' F') X' ∧ fi T P aT B' F' 0 ∧ F'.1 3 = 0 ∧ (∀ g j, g < gp_c P → j < gp_l P g → fend T P g j B') ∧ fe P B' ∧ ∀ g s, gb (fEn B g) s = true → gb (fEn B' g) s = true := by
  intro n
  induction n with
  | zero =>
    intro k j X B F t _ _ _ _ _ _ hn
    exact absurd hn (Nat.not_lt_zero _)
  | succ n ih =>
    intro k j X B F t h I hz he hj hk hn
    have hc := hw.1
    have qF := gq_1 aF F X
    rw [kF h] at qF
    obtain ⟨I1, ⟨I2, I2b⟩, I3, I4, I5, I6, I7, I9⟩ := id I
    have tb : t ≤ 1600 := by
      rw [I4]
      have := ds_bd hw (h := fun f i => i01 (fWt B f i)) (k := 1) (fun f i _ _ => i01_le _)
      unfold uWt
      omega
    rw [gm_X1_settle_31, show (1000000 : Int32) = nI 1000000 from rfl, if_neg (fun c => absurd ((nI_leI (a := 1000000) (b := k) (by omega) (by omega)).mp c) (by omega))]
    simp only [qF, Option.bind_some, I2]
    -- one more round of the loop, from a state with a smaller measure
    have nx : ∀ (X1 : gx_H) (B1 : Nat → go_O) (F1 : go_O) (t1 : Nat), gw_D (fw W0 ip (gp_c P) aF ad B1 F1) X1 → fi T P aT B1 F1 t1 → fp P B1 F1 t1 + 1 ≤ fp P B F t → fe P B1 → (∀ g j, g < gp_c P → j < gp_l P g → fend T P g j B1) → (∀ g s, gb (fEn B g) s = true → gb (fEn B1 g) s = true) →
        ∃ X' B' F', gm_X1_settle_90 fu (gm_X1_settle_31 fu n) aF aP (nI k) X1 = gm_X1_settle_96 fu aP X' ∧ gw_D (fw W0 ip (gp_c P) aF ad B' F') X' ∧ fi T P aT B' F' 0 ∧ F'.1 3 = 0 ∧ (∀ g j, g < gp_c P → j < gp_l P g → fend T P g j B') ∧ fe P B' ∧ ∀ g s, gb (fEn B g) s = true → gb (fEn B' g) s = true := by
      intro X1 B1 F1 t1 d1 i1 p1 e1 z1 m1
      unfold gm_X1_settle_90
      rw [nI_1]
      generalize hj1 : fp P B1 F1 t1 = j1 at p1
      obtain ⟨X', B', F', n1, n2, n3, n4, n5, n6, n7⟩ := ih (k + 1) j1 X1 B1 F1 t1 d1 i1 z1 e1 hj1 (by omega) (by omega)
      exact ⟨X', B', F', n1, n2, n3, n4, n5, n6, fun g s q => n7 g s (m1 g s q)⟩
    by_cases t0 : t = 0
    · rw [if_neg (by rw [t0]; decide)]
      by_cases g0 : F.1 3 = 0
      · rw [if_pos g0]
        subst t0
        exact ⟨X, B, F, rfl, h, I, g0, hz, he, fun _ _ q => q⟩
      · rw [if_neg g0]
        unfold gm_X1_settle_51
        simp only [qF, Option.bind_some, I2]
        rw [if_pos (by rw [t0]; decide), gx_obT (kF h)]
        obtain ⟨X1, B1, F1, t1, g1, g2, g3, g4, g5, g6, g7⟩ := f_wake (fu := fu) hip hw hfu hC h I g0 hz he
        rw [g1, Option.bind_some]
        exact nx X1 B1 F1 t1 g2 g3 g4 g5 g6 g7
    · rw [if_pos (show (0 : Int32) < nI t from (nI_ltI (a := 0) (b := t) (by omega) (by omega)).mpr (by omega))]
      obtain ⟨t', rfl⟩ : ∃ t', t = t' + 1 := ⟨t - 1, by omega⟩
      unfold gm_X1_settle_51
      simp only [qF, Option.bind_some, I2]
      rw [if_neg (nI_nle (by omega) (by omega)), nI_pred]
      have h1 := fd_F h (go_si F 2 (nI t'))
      have q1 := gq_1 aF (go_si F 2 (nI t')) X
      have r1 : t' < 1600 := by omega
      simp only [q1, r1, Option.bind_some, show (go_si F 2 (nI t')).1 2 = nI t' from rfl]
      obtain ⟨f, i, hf, hi, hst, -⟩ := I5 t' (by omega)
      rw [gx_obT (kF h1), show (go_si F 2 (nI t')).2.2.2.1 1 t' = nI (200 * f + i) from hst]
      obtain ⟨X1, B1, F1, t1, g1, g2, g3, g4, g5, g6, g7⟩ := f_step (fu := fu) hip hw hTw (by omega) hC h1 I hf hi hst hz he
      rw [g1, Option.bind_some]
      exact nx X1 B1 F1 t1 g2 g3 g4 g5 g6 g7
/-- at the loop's end the sets are the least ones -/
theorem f_least (hw : gp_wf P) (I : fi T P aT B F 0) (hg : F.1 3 = 0) (hz : ∀ g j, g < gp_c P → j < gp_l P g → fend T P g j B) (he : fe P B) (h0 : 0 < gp_c P → gb (fEn B 0) 0 = true) : gl_ok T P (fMy B) (fEn B) (fEx B) (fAl B) := by
  obtain ⟨I1, I2, I3, I4, I5, I6, I7, I9⟩ := id I
  have w0 : ∀ f i, f < gp_c P → i < gp_l P f → fWt B f i = 0 := fun f i hf hi => by
    have := ds_0 (P := P) (h := fun f i => i01 (fWt B f i)) I4.symm hf hi
    unfold i01 at this
    split at this
    · assumption
    · omega
  have cl : gp_cl T P (bm P B) (be P B) (bx P B) (bl P B) := by
    refine ⟨fun q => ⟨q, h0 q⟩, fun f hf s hs => ⟨hf, (hw.2 f hf).1.1, he f hf s hs.2⟩, fun f hf i hi => ?_⟩
    rcases hz f i hf hi with q | q | ⟨-, hn, q⟩
    · exact absurd (w0 f i hf hi) q
    · exact q
    · exact absurd (I3 hg _ hn) q
  obtain ⟨u1, u2, u3, u4⟩ := gl_uniq cl (fun f i s h => I7.1 f i s h.1 h.2.1 h.2.2) (fun f s h => I7.2.1 f s h.1 h.2) (fun f s h => I7.2.2.1 f s h.1 h.2) (fun f s h => I7.2.2.2 f s h.1 h.2)
  exact ⟨fun f hf i hi s => ⟨fun h => (u1 f i s).mp ⟨hf, hi, h⟩, fun h => ((u1 f i s).mpr h).2.2⟩, fun f hf => ⟨fun s => ⟨fun h => (u2 f s).mp ⟨hf, h⟩, fun h => ((u2 f s).mpr h).2⟩, fun s => ⟨fun h => (u3 f s).mp ⟨hf, h⟩, fun h => ((u3 f s).mpr h).2⟩, fun s => ⟨fun h => (u4 f s).mp ⟨hf, h⟩, fun h => ((u4 f s).mpr h).2⟩⟩⟩
end FM
