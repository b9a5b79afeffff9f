/-! Flow: forgetSets, forgetAll, settle -/
section FF
variable {fu a f : Nat} {P : sP} {X : gx_H}
/-- an update that leaves a body's still part -/
def bsame (b b' : go_O) : Prop := b'.1 = b.1 ∧ b'.2.1 = b.2.1 ∧ (∀ k j, k ≠ 9 → k ≠ 10 → mi b' k j = mi b k j)
theorem bsame.bs {b b' : go_O} (h : bsame b b') (hb : bs P f b) : bs P f b' := by
  obtain ⟨a1, a2, a3, a4, a5⟩ := hb
  exact ⟨by rw [h.1]; exact a1, by rw [h.1]; exact a2, by rw [h.1]; exact a3, fun i hi => ⟨(h.2.2 1 i (by omega) (by omega)).trans (a4 i hi).1, (h.2.2 2 i (by omega) (by omega)).trans (a4 i hi).2⟩, fun i hi => ⟨(h.2.2 3 i (by omega) (by omega)).trans (a5 i hi).1, (h.2.2 4 i (by omega) (by omega)).trans (a5 i hi).2.1, (h.2.2 5 i (by omega) (by omega)).trans (a5 i hi).2.2⟩⟩
set_option maxHeartbeats 1000000 in
theorem c_fg95 (hw : gp_wf P) (hf : f < gp_c P) : ∀ (d n h : Nat) (b : go_O), bs P f b → h + d = gp_h P f → d < n →
    ∃ b', gm_X0_forgetSets_95 fu n a (nI h) (go_k 0 a b X) = some (go_k 0 a b' X) ∧ bsame b b' ∧ (∀ j, ml b' 8 j = ml b 8 j) ∧ (∀ j, mi b' 9 j = mi b 9 j) ∧ (∀ j, (∃ h', h ≤ h' ∧ h' < gp_h P f ∧ gp_g P f h' = j) → mi b' 10 j = 1) ∧ ∀ j, (¬ ∃ h', h ≤ h' ∧ h' < gp_h P f ∧ gp_g P f h' = j) → mi b' 10 j = mi b 10 j
  | d, 0, h, b, _, _, hn => absurd hn (Nat.not_lt_zero _)
  | d, n + 1, h, b, hs, hd, hn => by
    obtain ⟨⟨-, hl2⟩, h6, -, hHw⟩ := hw.2 f hf
    rw [gm_X0_forgetSets_95]
    simp only [gq_0, Option.bind_some, hs.2.2.1]
    by_cases e : d = 0
    · rw [if_pos ((nI_leI (by omega) (by omega)).mpr (by omega))]
      exact ⟨b, rfl, ⟨rfl, rfl, fun _ _ _ _ => rfl⟩, fun _ => rfl, fun _ => rfl, fun j ⟨h', q⟩ => by omega, fun j _ => rfl⟩
    · rw [if_neg (fun c => absurd ((nI_leI (by omega) (by omega)).mp c) (by omega))]
      obtain ⟨-, -, hg⟩ := hs.2.2.2.2 h (by omega)
      have w3 := (hHw h (by omega)).2.2
      have r1 : h < 6 := by omega
      have r2 : gp_g P f h < 200 := by omega
      simp only [gq_0, r1, r2, nar1, Option.bind_some, hg, nI_1]
      have s0 : bsame b (go_ai b 10 (gp_g P f h) 1) := ⟨rfl, rfl, fun k j _ h10 => by rw [mi_ai, if_neg fun q => h10 q.1]⟩
      obtain ⟨b', n1, n2, n3, n4, n5, n6⟩ := c_fg95 hw hf (d - 1) n (h + 1) (go_ai b 10 (gp_g P f h) 1) (s0.bs hs) (by omega) (by omega)
      refine ⟨b', n1, ⟨n2.1, n2.2.1, fun k j h9 h10 => (n2.2.2 k j h9 h10).trans (s0.2.2 k j h9 h10)⟩, n3, fun j => by rw [n4, mi_ai, if_neg (by omega)], fun j ⟨h', q1, q2, q3⟩ => ?_, fun j hno => ?_⟩
      · by_cases c : ∃ h', h + 1 ≤ h' ∧ h' < gp_h P f ∧ gp_g P f h' = j
        · exact n5 j c
        · rw [n6 j c, mi_ai]
          have : h' = h := by
            apply Classical.byContradiction
            intro q
            exact c ⟨h', by omega, q2, q3⟩
          rw [if_pos ⟨rfl, by rw [← q3, this]⟩]
      · rw [n6 j fun ⟨h', q1, q2, q3⟩ => hno ⟨h', by omega, q2, q3⟩, mi_ai, if_neg fun q => hno ⟨h, by omega, by omega, q.2.symm⟩]
set_option maxHeartbeats 1000000 in
theorem c_fg59 (hw : gp_wf P) (hf : f < gp_c P) : ∀ (d n i : Nat) (b : go_O), bs P f b → i + d = gp_l P f → d < n →
    ∃ b', gm_X0_forgetSets_59 fu n a (nI i) (go_k 0 a b X) = gm_X0_forgetSets_95 fu fu a (nI 0) (go_k 0 a b' X) ∧ bsame b b' ∧ (∀ j, ml b' 8 j = ml b 8 j) ∧ (∀ j, mi b' 9 j = mi b 9 j) ∧ (∀ j, (∃ i', i ≤ i' ∧ i' < gp_l P f ∧ (gp_k P f i' = 1 ∨ gp_k P f i' = 2) ∧ gp_n P f i' = j) → mi b' 10 j = 1) ∧ ∀ j, (¬ ∃ i', i ≤ i' ∧ i' < gp_l P f ∧ (gp_k P f i' = 1 ∨ gp_k P f i' = 2) ∧ gp_n P f i' = j) → mi b' 10 j = mi b 10 j
  | d, 0, i, b, _, _, hn => absurd hn (Nat.not_lt_zero _)
  | d, n + 1, i, b, hs, hd, hn => by
    obtain ⟨⟨-, hl2⟩, h6, hIw, hHw⟩ := hw.2 f hf
    rw [gm_X0_forgetSets_59]
    simp only [gq_0, Option.bind_some, hs.2.1]
    by_cases e : d = 0
    · rw [if_pos ((nI_leI (by omega) (by omega)).mpr (by omega))]
      exact ⟨b, rfl, ⟨rfl, rfl, fun _ _ _ _ => rfl⟩, fun _ => rfl, fun _ => rfl, fun j ⟨h', q⟩ => by omega, fun j _ => rfl⟩
    · rw [if_neg (fun c => absurd ((nI_leI (by omega) (by omega)).mp c) (by omega))]
      have hi : i < gp_l P f := by omega
      obtain ⟨hk, hnn⟩ := hs.2.2.2.1 i hi
      have k8 := (hIw i hi).1
      have r1 : i < 200 := by omega
      rw [gx_ob6, c_goesTo (b := b) hk k8 r1 go_kk, gx_b2s]
      unfold gm_X0_forgetSets_87
      rw [nI_1]
      by_cases k12 : gp_k P f i = 1 ∨ gp_k P f i = 2
      · have hnl := (hIw i hi).2.1 k12
        have r2 : gp_n P f i < 200 := by omega
        rw [gz_t k12, if_neg (by decide)]
        simp only [gq_0, r1, r2, nar1, Option.bind_some, hnn]
        have s0 : bsame b (go_ai b 10 (gp_n P f i) 1) := ⟨rfl, rfl, fun k j _ h10 => by rw [mi_ai, if_neg fun q => h10 q.1]⟩
        obtain ⟨b', n1, n2, n3, n4, n5, n6⟩ := c_fg59 hw hf (d - 1) n (i + 1) (go_ai b 10 (gp_n P f i) 1) (s0.bs hs) (by omega) (by omega)
        refine ⟨b', n1, ⟨n2.1, n2.2.1, fun k j h9 h10 => (n2.2.2 k j h9 h10).trans (s0.2.2 k j h9 h10)⟩, n3, fun j => by rw [n4, mi_ai, if_neg (by omega)], fun j ⟨i', q1, q2, q3, q4⟩ => ?_, fun j hno => ?_⟩
        · by_cases c : ∃ i', i + 1 ≤ i' ∧ i' < gp_l P f ∧ (gp_k P f i' = 1 ∨ gp_k P f i' = 2) ∧ gp_n P f i' = j
          · exact n5 j c
          · rw [n6 j c, mi_ai]
            have : i' = i := by
              apply Classical.byContradiction
              intro q
              exact c ⟨i', by omega, q2, q3, q4⟩
            rw [if_pos ⟨rfl, by rw [← q4, this]⟩]
        · rw [n6 j fun ⟨i', q1, q2, q3⟩ => hno ⟨i', by omega, q2, q3⟩, mi_ai, if_neg fun q => hno ⟨i, by omega, by omega, k12, q.2.symm⟩]
      · rw [gz_f k12, if_pos rfl]
        obtain ⟨b', n1, n2, n3, n4, n5, n6⟩ := c_fg59 hw hf (d - 1) n (i + 1) b hs (by omega) (by omega)
        refine ⟨b', n1, n2, n3, n4, fun j ⟨i', q1, q2, q3, q4⟩ => n5 j ⟨i', ?_, q2, q3, q4⟩, fun j hno => n6 j fun ⟨i', q1, q2, q3⟩ => hno ⟨i', by omega, q2, q3⟩⟩
        have : i' ≠ i := fun q => k12 (by rw [← q]; exact q3)
        omega
set_option maxHeartbeats 1000000 in
theorem c_fg22 (hw : gp_wf P) (hf : f < gp_c P) : ∀ (d n i : Nat) (b : go_O), bs P f b → i + d = gp_l P f → d < n →
    ∃ b', gm_X0_forgetSets_22 fu n a (nI i) (go_k 0 a b X) = gm_X0_forgetSets_59 fu fu a (nI 0) (go_k 0 a b' X) ∧ bsame b b' ∧ ∀ j, ml b' 8 j = (if i ≤ j ∧ j < gp_l P f then 0 else ml b 8 j) ∧ mi b' 9 j = (if i ≤ j ∧ j < gp_l P f then 0 else mi b 9 j) ∧ mi b' 10 j = (if i ≤ j ∧ j < gp_l P f then 0 else mi b 10 j)
  | d, 0, i, b, _, _, hn => absurd hn (Nat.not_lt_zero _)
  | d, n + 1, i, b, hs, hd, hn => by
    obtain ⟨⟨-, hl2⟩, -⟩ := hw.2 f hf
    rw [gm_X0_forgetSets_22]
    simp only [gq_0, Option.bind_some, hs.2.1]
    by_cases e : d = 0
    · rw [if_pos ((nI_leI (by omega) (by omega)).mpr (by omega))]
      refine ⟨b, rfl, ⟨rfl, rfl, fun _ _ _ _ => rfl⟩, fun j => ?_⟩
      rw [if_neg (by omega), if_neg (by omega), if_neg (by omega)]
      exact ⟨rfl, rfl, rfl⟩
    · rw [if_neg (fun c => absurd ((nI_leI (by omega) (by omega)).mp c) (by omega))]
      have r1 : i < 200 := by omega
      simp only [gq_0, r1, nar0, Option.bind_some, nI_1]
      have s0 : bsame b (go_ai (go_ai (go_al b 8 i 0) 9 i 0) 10 i 0) := ⟨rfl, rfl, fun k j h9 h10 => by rw [mi_ai, if_neg fun q => h10 q.1, mi_ai, if_neg fun q => h9 q.1]; rfl⟩
      obtain ⟨b', n1, n2, n3⟩ := c_fg22 hw hf (d - 1) n (i + 1) (go_ai (go_ai (go_al b 8 i 0) 9 i 0) 10 i 0) (s0.bs hs) (by omega) (by omega)
      refine ⟨b', n1, ⟨n2.1, n2.2.1, fun k j h9 h10 => (n2.2.2 k j h9 h10).trans (s0.2.2 k j h9 h10)⟩, fun j => ?_⟩
      obtain ⟨m1, m2, m3⟩ := n3 j
      have z8 : ml (go_ai (go_ai (go_al b 8 i 0) 9 i 0) 10 i 0) 8 j = if j = i then 0 else ml b 8 j := by
        rw [show ml (go_ai (go_ai (go_al b 8 i 0) 9 i 0) 10 i 0) = ml (go_al b 8 i 0) from rfl, ml_al]
        by_cases c2 : j = i
        · rw [if_pos ⟨rfl, c2⟩, if_pos c2]
        · rw [if_neg fun q => c2 q.2, if_neg c2]
      have z9 : mi (go_ai (go_ai (go_al b 8 i 0) 9 i 0) 10 i 0) 9 j = if j = i then 0 else mi b 9 j := by
        rw [mi_ai, if_neg (show ¬ (9 = 10 ∧ j = i) by omega), mi_ai]
        by_cases c2 : j = i
        · rw [if_pos ⟨rfl, c2⟩, if_pos c2]
        · rw [if_neg fun q => c2 q.2, if_neg c2]
          rfl
      have z10 : mi (go_ai (go_ai (go_al b 8 i 0) 9 i 0) 10 i 0) 10 j = if j = i then 0 else mi b 10 j := by
        rw [mi_ai]
        by_cases c2 : j = i
        · rw [if_pos ⟨rfl, c2⟩, if_pos c2]
        · rw [if_neg fun q => c2 q.2, if_neg c2, mi_ai, if_neg (show ¬ (10 = 9 ∧ j = i) by omega)]
          rfl
      have zz : ∀ {α : Type} (x y : α), (if i + 1 ≤ j ∧ j < gp_l P f then x else if j = i then x else y) = if i ≤ j ∧ j < gp_l P f then x else y := by
        intro α x y
        by_cases c : i + 1 ≤ j ∧ j < gp_l P f
        · rw [if_pos c, if_pos (by omega)]
        · rw [if_neg c]
          by_cases c2 : j = i
          · rw [if_pos c2, if_pos (by omega)]
          · rw [if_neg c2, if_neg (by omega)]
      rw [m1, m2, m3, z8, z9, z10]
      exact ⟨zz _ _, zz _ _, zz _ _⟩
/-- a body with nothing found -/
def bz (P : sP) (f : Nat) (b : go_O) : Prop := bs P f b ∧ ba P f b ∧ (∀ i, i < gp_l P f → ml b 8 i = 0 ∧ mi b 9 i = 0) ∧ b.2.1 11 = 0 ∧ b.2.1 12 = 0 ∧ b.2.1 13 = 0 ∧ b.1 14 = 0
set_option maxHeartbeats 1000000 in
theorem c_forgetSets {b : go_O} (hw : gp_wf P) (hf : f < gp_c P) (hs : bs P f b) (hfu : 300 ≤ fu) : ∃ b', gm_X0_forgetSets fu a (go_k 0 a b X) = some (go_k 0 a b' X) ∧ bz P f b' := by
  obtain ⟨⟨-, hl2⟩, h6, hIw, hHw⟩ := hw.2 f hf
  unfold gm_X0_forgetSets
  simp only [gq_0, Option.bind_some]
  generalize hb : go_si (go_sl (go_sl (go_sl b 11 0) 12 0) 13 0) 14 0 = b0
  have b11 : b0.2.1 11 = 0 := by rw [← hb]; rfl
  have b12 : b0.2.1 12 = 0 := by rw [← hb]; rfl
  have b13 : b0.2.1 13 = 0 := by rw [← hb]; rfl
  have b14 : b0.1 14 = 0 := by rw [← hb]; rfl
  have s0 : bs P f b0 := by
    rw [← hb]
    exact hs
  obtain ⟨b1, n1, n2, n3⟩ := c_fg22 (fu := fu) (a := a) (X := X) hw hf (gp_l P f) fu 0 b0 s0 (by omega) (by omega)
  obtain ⟨b2, m1, m2, m3, m4, m5, m6⟩ := c_fg59 (fu := fu) (a := a) (X := X) hw hf (gp_l P f) fu 0 b1 (n2.bs s0) (by omega) (by omega)
  obtain ⟨b3, k1, k2, k3, k4, k5, k6⟩ := c_fg95 (fu := fu) (a := a) (X := X) hw hf (gp_h P f) fu 0 b2 (m2.bs (n2.bs s0)) (by omega) (by omega)
  refine ⟨b3, by rw [show (0 : Int32) = nI 0 from rfl, n1, m1, k1], k2.bs (m2.bs (n2.bs s0)), fun i hi => ?_, fun i hi => ⟨by rw [k3, m3, (n3 i).1, if_pos ⟨by omega, hi⟩], by rw [k4, m4, (n3 i).2.1, if_pos ⟨by omega, hi⟩]⟩, by rw [k2.2.1, m2.2.1, n2.2.1]; exact b11, by rw [k2.2.1, m2.2.1, n2.2.1]; exact b12, by rw [k2.2.1, m2.2.1, n2.2.1]; exact b13, by rw [k2.1, m2.1, n2.1]; exact b14⟩
  by_cases g1 : ∃ h', 0 ≤ h' ∧ h' < gp_h P f ∧ gp_g P f h' = i
  · obtain ⟨h', q1, q2, q3⟩ := g1
    rw [k5 i ⟨h', q1, q2, q3⟩, gz_t (p := gp_goal P f i) (Or.inr ⟨h', q2, q3⟩)]
  · rw [k6 i g1]
    by_cases g2 : ∃ i', 0 ≤ i' ∧ i' < gp_l P f ∧ (gp_k P f i' = 1 ∨ gp_k P f i' = 2) ∧ gp_n P f i' = i
    · obtain ⟨i', q1, q2, q3, q4⟩ := g2
      rw [m5 i ⟨i', q1, q2, q3, q4⟩, gz_t (p := gp_goal P f i) (Or.inl ⟨i', q2, q3, q4⟩)]
    · rw [m6 i g2, (n3 i).2.2, if_pos ⟨by omega, hi⟩, gz_f]
      rintro (⟨i', q2, q3, q4⟩ | ⟨h', q2, q3⟩)
      · exact g2 ⟨i', by omega, q2, q3, q4⟩
      · exact g1 ⟨h', by omega, q2, q3⟩
end FF
section FA
variable {W0 : gw_T} {ip aF aT aP : Nat} {ad : Nat → Nat} {F : go_O} {fu : Nat} {T : sT} {P : sP}
set_option maxHeartbeats 1000000 in
theorem f_forget12 (hip : 4 ≤ ip) (hw : gp_wf P) (hfu : 300 ≤ fu) (hC : fc W0 T P ip aT aP ad) : ∀ (d n f : Nat) (X : gx_H) (B : Nat → go_O), gw_D (fw W0 ip (gp_c P) aF ad B F) X → (∀ g, g < gp_c P → bs P g (B g)) → f + d = 8 → d < n →
    ∃ X' B', gm_X1_forgetAll_12 fu n aP (nI f) X = some X' ∧ gw_D (fw W0 ip (gp_c P) aF ad B' F) X' ∧ (∀ g, g < gp_c P → f ≤ g → bz P g (B' g)) ∧ ∀ g, g < f → B' g = B g
  | d, 0, f, X, B, _, _, _, hn => absurd hn (Nat.not_lt_zero _)
  | d, n + 1, f, X, B, h, hs, hd, hn => by
    have hc := hw.1
    rw [gm_X1_forgetAll_12, li8]
    by_cases e : d = 0
    · rw [if_pos ((nI_leI (by omega) (by omega)).mpr (by omega))]
      exact ⟨X, B, rfl, h, fun g a b => by omega, fun _ _ => rfl⟩
    · rw [if_neg (fun c => absurd ((nI_leI (by omega) (by omega)).mp c) (by omega))]
      obtain ⟨OT, OP, c1, c2, c3, c4, c5⟩ := id hC
      rw [gx_obT (h.k ((fw_o (by omega) (by omega)).trans c3))]
      unfold gm_X1_forgetAll_32
      rw [nI_1]
      by_cases hf : f < gp_c P
      · rw [f_body hip hw hC h hf, gx_b2s, gx_nls, gx_obT (kB hip h hf)]
        obtain ⟨b', g1, g2⟩ := c_forgetSets (fu := fu) (a := ad f) (X := X) hw hf (hs f hf) hfu
        rw [kB hip h hf] at g1
        rw [g1, Option.bind_some]
        obtain ⟨X', B', n1, n2, n3, n4⟩ := f_forget12 hip hw hfu hC (d - 1) n (f + 1) _ _ (fd_B hip h hf b') (fun g hg => by
          by_cases e2 : g = f
          · subst e2
            rw [go_u_s]
            exact g2.1
          · rw [go_u_n e2]
            exact hs g hg) (by omega) (by omega)
        refine ⟨X', B', n1, n2, fun g hg hfg => ?_, fun g hg => by rw [n4 g (by omega), go_u_n (by omega)]⟩
        by_cases e2 : g = f
        · subst e2
          rw [n4 g (by omega), go_u_s]
          exact g2
        · exact n3 g hg (by omega)
      · rw [f_bodyN hip hw hC h (by omega) (by omega), gx_b2s, gx_nln]
        obtain ⟨X', B', n1, n2, n3, n4⟩ := f_forget12 hip hw hfu hC (d - 1) n (f + 1) X B h hs (by omega) (by omega)
        exact ⟨X', B', n1, n2, fun g a b => by omega, fun g hg => n4 g (by omega)⟩
theorem fp_bd (hw : gp_wf P) (B : Nat → go_O) (F : go_O) : fp P B F 0 ≤ 310000 := by
  have a := ds_bd hw (h := fun f i => gb_u (fMy B f i)) (k := 64) (fun f i _ _ => gb_u64 _)
  have b := ds_bd hw (h := fun f i => if gp_k P f i = 3 ∧ gp_n P f i < gp_c P then uG (fEx B) (fAl B) (gp_n P f i) + i01 (fGr B (gp_n P f i)) else 0) (k := 129) (fun f i _ _ => by
    split
    · have := gb_u64 (fEx B (gp_n P f i))
      have := gb_u64 (fAl B (gp_n P f i))
      have := i01_le (fGr B (gp_n P f i))
      unfold uG
      omega
    · omega)
  have c := gn_bd (f := uG (fEx B) (fAl B)) (c := 128) (gp_c P) (fun g _ => by
    have := gb_u64 (fEx B g)
    have := gb_u64 (fAl B g)
    unfold uG
    omega)
  have d := i01_le (F.1 3)
  have e := Nat.mul_le_mul_right 128 hw.1
  unfold fp uMy uCa uSu
  omega
set_option maxHeartbeats 1000000 in
/-- settle: the sets are the least ones; the program is marked so -/
theorem f_settle {X : gx_H} {B : Nat → go_O} {OP : go_O} (hip : 4 ≤ ip) (hw : gp_wf P) (hTw : gs_wf T) (hfu : 1000000 ≤ fu) (hC : fc W0 T P ip aT aP ad) (hOP : W0 ip = some (3, aP, OP)) (hst : OP.1 2 = 0) (h : gw_D (fw W0 ip (gp_c P) aF ad B F) X) (hs : ∀ g, g < gp_c P → bs P g (B g)) (hFT : F.2.2.1 0 = some aT) :
    ∃ X' B' F', gm_X1_settle fu aF aP X = some X' ∧ gw_D (fw (go_u W0 ip (some (3, aP, go_si OP 2 1))) ip (gp_c P) aF ad B' F') X' ∧ (∀ g, g < gp_c P → bs P g (B' g) ∧ ba P g (B' g)) ∧ F'.2.2.1 0 = some aT ∧ gl_ok T P (fMy B') (fEn B') (fEx B') (fAl B') := by
  have hc := hw.1
  have oP : fw W0 ip (gp_c P) aF ad B F ip = W0 ip := fw_o (by omega) (by omega)
  have eP := h.k (oP.trans hOP)
  have qP := gq_3 aP OP X
  rw [eP] at qP
  have qF := gq_1 aF F X
  rw [kF h] at qF
  unfold gm_X1_settle
  simp only [qP, Option.bind_some, hst]
  rw [if_pos trivial, gx_obT (kF h)]
  unfold gm_X1_forgetAll
  simp only [qF, Option.bind_some, gq_1]
  have h1 := fd_F h (go_si (go_si F 2 0) 3 0)
  obtain ⟨X1, B1, g1, g2, g3, -⟩ := f_forget12 (fu := fu) hip hw (by omega) hC 8 fu 0 _ B h1 hs (by omega) (by omega)
  rw [show (0 : Int32) = nI 0 from rfl] at g1 g2 ⊢
  rw [g1, Option.bind_some, gx_obT (g2.k ((fw_o (by omega) (by omega)).trans hOP))]
  have z : ∀ f, f < gp_c P → bz P f (B1 f) := fun f hf => g3 f hf (by omega)
  have I : fi T P aT B1 (go_si (go_si F 2 (nI 0)) 3 (nI 0)) 0 := by
    refine ⟨fun f hf => ⟨(z f hf).1, (z f hf).2.1⟩, ⟨rfl, hFT⟩, fun _ f hf => (z f hf).2.2.2.2.2.2, ?_, fun j hj => by omega, fun j k _ hk => by omega, ⟨fun f i s hf hi q => ?_, fun f s hf q => ?_, fun f s hf q => ?_, fun f s hf q => ?_⟩, fun f i hf hi q => absurd ((z f hf).2.2.1 i hi).2 q⟩
    · have := ds_le (P := P) (h := fun f i => i01 (fWt B1 f i)) (h' := fun _ _ => 0) (fun f i hf hi => by rw [i01_0 ((z f hf).2.2.1 i hi).2]; exact Nat.le_refl _)
      have z1 := ds_bd hw (h := fun _ _ => 0) (k := 0) (fun _ _ _ _ => Nat.le_refl _)
      unfold uWt
      omega
    · rw [show fMy B1 f i = 0 from ((z f hf).2.2.1 i hi).1, gb_0] at q
      cases q
    · rw [show fEn B1 f = 0 from (z f hf).2.2.2.1, gb_0] at q
      cases q
    · rw [show fEx B1 f = 0 from (z f hf).2.2.2.2.1, gb_0] at q
      cases q
    · rw [show fAl B1 f = 0 from (z f hf).2.2.2.2.2.1, gb_0] at q
      cases q
  have hz : ∀ g j, g < gp_c P → j < gp_l P g → fend T P g j B1 := fun g j hg hj => Or.inr (Or.inl (rule_zero ((z g hg).2.2.1 j hj).1))
  have he : fe P B1 := fun f hf s q => by
    rw [show fEn B1 f = 0 from (z f hf).2.2.2.1, gb_0] at q
    cases q
  -- from the loop on
  have fin : ∀ (X2 : gx_H) (B2 : Nat → go_O) (F2 : go_O) (t2 : Nat), gw_D (fw W0 ip (gp_c P) aF ad B2 F2) X2 → fi T P aT B2 F2 t2 → (∀ g j, g < gp_c P → j < gp_l P g → fend T P g j B2) → fe P B2 → fp P B2 F2 t2 ≤ 310000 → (0 < gp_c P → gb (fEn B2 0) 0 = true) → ∃ X' B' F', gm_X1_settle_29 fu aF aP X2 = some X' ∧ gw_D (fw (go_u W0 ip (some (3, aP, go_si OP 2 1))) ip (gp_c P) aF ad B' F') X' ∧ (∀ g, g < gp_c P → bs P g (B' g) ∧ ba P g (B' g)) ∧ F'.2.2.1 0 = some aT ∧ gl_ok T P (fMy B') (fEn B') (fEx B') (fAl B') := by
    intro X2 B2 F2 t2 d2 i2 z2 e2 p2 q2
    unfold gm_X1_settle_29
    generalize hj : fp P B2 F2 t2 = j at p2
    obtain ⟨X3, B3, F3, n1, n2, n3, n4, n5, n6, n7⟩ := f_loop (fu := fu) hip hw hTw (by omega) hC fu 0 j X2 B2 F2 t2 d2 i2 z2 e2 hj (by omega) (by omega)
    rw [show (0 : Int32) = nI 0 from rfl, n1]
    unfold gm_X1_settle_96
    have oP3 : fw W0 ip (gp_c P) aF ad B3 F3 ip = some (3, aP, OP) := (fw_o (by omega) (by omega)).trans hOP
    have q3 := gq_3 aP OP X3
    rw [n2.k oP3] at q3
    simp only [q3, Option.bind_some]
    have d3 := n2.up oP3 (go_si OP 2 1)
    refine ⟨_, B3, F3, rfl, ?_, n3.1, n3.2.1.2, f_least hw n3 n4 n5 n6 fun q => n7 0 0 (q2 q)⟩
    have ew : go_u (fw W0 ip (gp_c P) aF ad B3 F3) ip (some (3, aP, go_si OP 2 1)) = fw (go_u W0 ip (some (3, aP, go_si OP 2 1))) ip (gp_c P) aF ad B3 F3 := by
      funext j
      by_cases c : j = ip
      · rw [c, go_u_s, fw_o (by omega) (by omega), go_u_s]
      · rw [go_u_n c]
        unfold fw
        rw [go_u_n c]
    rw [ew] at d3
    exact d3
  by_cases c0 : 0 < gp_c P
  · rw [f_body hip hw hC g2 c0, gx_b2s, gx_nls, gx_obT (kF g2)]
    obtain ⟨X2, B2, F2, t2, k1, k2, k3, k4, k5, k6, -⟩ := f_growEntry (fu := fu) (f := 0) (v := 1) hip hw g2 I c0 (fun s hs => by
      rw [gb_1] at hs
      have : s = 0 := of_decide_eq_true hs
      subst this
      exact (gl_cl T P).1 c0)
    rw [k1, Option.bind_some]
    refine fin X2 B2 F2 t2 k2 k3 (fun g j hg hj => fend_fr (hz g j hg hj) k4 hg hj) (k6 he) (Nat.le_trans k4.2.2.2.2.2.2.2.2 (fp_bd hw B1 _)) (fun _ => k5 0 (by decide))
  · rw [f_bodyN hip hw hC g2 (by omega) (by omega), gx_b2s, gx_nln]
    exact fin X1 B1 _ 0 g2 I hz he (fp_bd hw B1 _) (fun q => absurd q c0)
end FA
