/-! Flow: the loop -/
section FL
variable {W0 : gw_T} {ip aF aT aP : Nat} {ad : Nat → Nat} {B : Nat → go_O} {F : go_O} {X : gx_H} {fu f i t : Nat} {T : sT} {P : sP}
theorem rule_mono {m m' : Nat → Nat → Nat → Prop} {e e' x x' a a' : Nat → Nat → Prop} (h : gp_rule T P m e x a f i) (h1 : ∀ s, m' f i s → m f i s) (h2 : gp_k P f i = 3 → gp_n P f i < gp_c P → (∀ s, x' (gp_n P f i) s → x (gp_n P f i) s) ∧ ∀ s, a' (gp_n P f i) s → a (gp_n P f i) s) (m1 : ∀ g j s, m g j s → m' g j s) (m2 : ∀ g s, e g s → e' g s) (m3 : ∀ g s, x g s → x' g s) (m4 : ∀ g s, a g s → a' g s) : gp_rule T P m' e' x' a' f i := by
  obtain ⟨r1, r2, r3⟩ := h
  refine ⟨fun s hs => ?_, fun s hs => ?_, fun s u k3 hu hn ha => ?_⟩
  · have hs' : gp_after T P m x f i s := by
      rcases hs with ⟨q1, ⟨v, q2⟩, q3, q4⟩ | ⟨q1, q2⟩ | ⟨q1, q2, q3, q4⟩
      · exact Or.inl ⟨q1, ⟨v, h1 v q2⟩, q3, (h2 q1 q3).1 s q4⟩
      · exact Or.inr (Or.inl ⟨q1, gs_led_mono h1 q2⟩)
      · exact Or.inr (Or.inr ⟨q1, q2, q3, h1 s q4⟩)
    obtain ⟨b1, b2, b3⟩ := r1 s hs'
    exact ⟨fun k => m1 _ _ s (b1 k), fun k hl => m1 _ _ s (b2 k hl), m4 _ s b3⟩
  · obtain ⟨b1, b2, b3, b4⟩ := r2 s (h1 s hs)
    exact ⟨m4 _ s b1, fun k => m3 _ s (b2 k), fun k hn => m2 _ s (b3 k hn), fun k h' hh' c1 c2 => m1 _ _ s (b4 k h' hh' c1 c2)⟩
  · obtain ⟨b1, b2⟩ := r3 s u k3 (h1 u hu) hn ((h2 k3 hn).2 s ha)
    exact ⟨m4 _ s b1, fun h' hh' c1 c2 => m1 _ _ s (b2 h' hh' c1 c2)⟩
theorem rule_zero (hz : fMy B f i = 0) : gp_rule T P (bm P B) (be P B) (bx P B) (bl P B) f i := by
  have no : ∀ s, ¬ bm P B f i s := fun s q => by
    have := q.2.2
    rw [hz, gb_0] at this
    cases this
  refine ⟨fun s hs => ?_, fun s hs => absurd hs (no s), fun s u _ hu => absurd hu (no u)⟩
  rcases hs with ⟨-, ⟨v, q2⟩, -⟩ | ⟨-, -, v, -, q2, -⟩ | ⟨-, -, -, q4⟩
  · exact absurd q2 (no v)
  · exact absurd q2 (no v)
  · exact absurd q4 (no s)
theorem fend_fr {B' : Nat → go_O} {F' : go_O} {t' : Nat} (h : fend T P f i B) (hr : fr P B F t B' F' t') (hf : f < gp_c P) (hi : i < gp_l P f) : fend T P f i B' := by
  obtain ⟨a1, a2, a3, a4, a5, a6, a7, a8, -⟩ := hr
  rcases h with h | h | ⟨k3, hn, h⟩
  · exact Or.inl (a6 f i hf hi h)
  · rcases a5 f i hf hi with q | q
    · by_cases c : gp_k P f i = 3 ∧ gp_n P f i < gp_c P ∧ ¬ fGr B' (gp_n P f i) = 0
      · exact Or.inr (Or.inr c)
      · refine Or.inr (Or.inl (rule_mono h (fun s hs => ⟨hs.1, hs.2.1, by have := hs.2.2; rw [q] at this; exact this⟩) (fun k3 hn => ?_) (fun g j s hs => ⟨hs.1, hs.2.1, a1 g j s hs.2.2⟩) (fun g s hs => ⟨hs.1, a2 g s hs.2⟩) (fun g s hs => ⟨hs.1, a3 g s hs.2⟩) (fun g s hs => ⟨hs.1, a4 g s hs.2⟩)))
        rcases a7 _ hn with q2 | q2
        · exact ⟨fun s hs => ⟨hs.1, by have := hs.2; rw [q2.1] at this; exact this⟩, fun s hs => ⟨hs.1, by have := hs.2; rw [q2.2] at this; exact this⟩⟩
        · exact absurd ⟨k3, hn, q2⟩ c
    · exact Or.inl q
  · exact Or.inr (Or.inr ⟨k3, hn, a8 _ hn h⟩)
/-- the top of the stack is taken off -/
theorem f_pop (hw : gp_wf P) (I : fi T P aT B F (t + 1)) (hf : f < gp_c P) (hi : i < gp_l P f) (hst : mi F 1 t = nI (200 * f + i)) : fi T P aT (go_u B f (go_ai (B f) 9 i 0)) (go_si F 2 (nI t)) t ∧ ¬ fMy B f i = 0 ∧ (fMy (go_u B f (go_ai (B f) 9 i 0)) = fMy B ∧ fEn (go_u B f (go_ai (B f) 9 i 0)) = fEn B ∧ fEx (go_u B f (go_ai (B f) 9 i 0)) = fEx B ∧ fAl (go_u B f (go_ai (B f) 9 i 0)) = fAl B ∧ fGr (go_u B f (go_ai (B f) 9 i 0)) = fGr B) ∧ fWt (go_u B f (go_ai (B f) 9 i 0)) = go_w (fWt B) f i 0 ∧ fp P (go_u B f (go_ai (B f) 9 i 0)) (go_si F 2 (nI t)) t + 1 = fp P B F (t + 1) := by
  obtain ⟨I1, ⟨I2, I2b⟩, I3, I4, I5, I6, I7, I9⟩ := id I
  have hc := hw.1
  have hl := (hw.2 f hf).1.2
  have w1 := fWt_ai B f i 0
  have hm : fMy (go_u B f (go_ai (B f) 9 i 0)) = fMy B := go_u_same (fun b => fun j => ml b 8 j) B f (go_ai (B f) 9 i 0) rfl
  have he : fEn (go_u B f (go_ai (B f) 9 i 0)) = fEn B := go_u_same (fun b => b.2.1 11) B f (go_ai (B f) 9 i 0) rfl
  have hx : fEx (go_u B f (go_ai (B f) 9 i 0)) = fEx B := go_u_same (fun b => b.2.1 12) B f (go_ai (B f) 9 i 0) rfl
  have ha : fAl (go_u B f (go_ai (B f) 9 i 0)) = fAl B := go_u_same (fun b => b.2.1 13) B f (go_ai (B f) 9 i 0) rfl
  have hg : fGr (go_u B f (go_ai (B f) 9 i 0)) = fGr B := go_u_same (fun b => b.1 14) B f (go_ai (B f) 9 i 0) rfl
  have hwt : ¬ fWt B f i = 0 := by
    obtain ⟨f', i', b1, b2, b3, b4⟩ := I5 t (by omega)
    rw [hst] at b3
    have hl' := (hw.2 f' b1).1.2
    have q2 := nI_inj (by omega) (by omega) b3
    have e2 : f' = f := by omega
    subst e2
    have e3 : i' = i := by omega
    subst e3
    exact b4
  have wo : ∀ g j, ¬ (g = f ∧ j = i) → fWt (go_u B f (go_ai (B f) 9 i 0)) g j = fWt B g j := fun g j q => by
    rw [w1]
    by_cases e1 : g = f
    · subst e1
      rw [go_w_s, go_u_n fun e => q ⟨rfl, e⟩]
    · rw [go_w_n e1]
  refine ⟨⟨bs_up I1 hf (fun k _ => rfl) (fun k j hk => by rw [mi_ai, if_neg fun q => hk q.1]), ⟨by rw [si_at, if_pos rfl], I2b⟩, fun q => ?_, ?_, fun j hj => ?_, fun j k hjk hk => I6 j k hjk (by omega), ?_, fun g j hgc hj hq => ?_⟩, I9 f i hf hi hwt, ⟨hm, he, hx, ha, hg⟩, w1, ?_⟩
  · rw [hg]
    exact I3 q
  · have := uWt_pop (P := P) (wt := fWt B) hf hi hwt
    rw [w1]
    omega
  · obtain ⟨f', i', b1, b2, b3, b4⟩ := I5 j (by omega)
    refine ⟨f', i', b1, b2, b3, ?_⟩
    rw [wo f' i' ?_]
    · exact b4
    · rintro ⟨rfl, rfl⟩
      exact I6 j t hj (by omega) (b3.trans hst.symm)
  · unfold fn
    rw [hm, he, hx, ha]
    exact I7
  · rw [hm]
    by_cases q : g = f ∧ j = i
    · rw [q.1, q.2, w1, go_w_s, go_u_s] at hq
      exact absurd rfl hq
    · rw [wo g j q] at hq
      exact I9 g j hgc hj hq
  · unfold fp
    rw [hm, hx, ha, hg, show (go_si F 2 (nI t)).1 3 = F.1 3 from rfl]
    omega
set_option maxHeartbeats 2000000 in
theorem f_step (hip : 4 ≤ ip) (hw : gp_wf P) (hTw : gs_wf T) (hfu : 100 ≤ fu) (hC : fc W0 T P ip aT aP ad) (h : gw_D (fw W0 ip (gp_c P) aF ad B (go_si F 2 (nI t))) X) (I : fi T P aT B F (t + 1)) (hf : f < gp_c P) (hi : i < gp_l P f) (hst : mi F 1 t = nI (200 * f + i)) (hz : ∀ g j, g < gp_c P → j < gp_l P g → fend T P g j B) (he : fe P B) :
    ∃ X' B' F' t', gm_X1_step fu aF aP (nI (200 * f + i)) X = some X' ∧ gw_D (fw W0 ip (gp_c P) aF ad B' F') X' ∧ fi T P aT B' F' t' ∧ fp P B' F' t' + 1 ≤ fp P B F (t + 1) ∧ fe P B' ∧ (∀ g j, g < gp_c P → j < gp_l P g → fend T P g j B') ∧ ∀ g s, gb (fEn B g) s = true → gb (fEn B' g) s = true := by
  obtain ⟨J, hne, ⟨hm, hen, hx, ha, hg⟩, w1, hp⟩ := f_pop hw I hf hi hst
  have hc := hw.1
  obtain ⟨⟨-, hl2⟩, -, hIw, -⟩ := hw.2 f hf
  obtain ⟨hs, -⟩ := I.1 f hf
  have hn200 := gp_nb hw hf hi
  have k8 := (hIw i hi).1
  obtain ⟨hk, hn⟩ := hs.2.2.2.1 i hi
  have r1 : i < 200 := by omega
  have d1 : nI (200 * f + i) / 200 = nI f := by
    rw [li200, pk_div (by omega) (by omega) (by omega)]
    congr 1
    omega
  have d2 : nI (200 * f + i) - nI (200 * f + i) / 200 * 200 = nI i := by
    rw [li200, pk_rem (by omega) (by omega) (by omega)]
    congr 1
    omega
  have eB := kB hip h hf
  have q := gq_0 (ad f) (B f) X
  rw [eB] at q
  obtain ⟨OT, OP, c1, c2, c3, c4, c5⟩ := id hC
  have eP := h.k ((fw_o (by omega) (by omega)).trans c3)
  unfold gm_X1_step
  rw [gx_obT eP, d2, d1, f_body hip hw hC h hf, gx_b2s, gx_nls, gx_obT eB, c_hasI_t hs.2.1 hl2 eB hi, gx_b2s, if_neg (by decide)]
  have h1 := fd_B hip h hf (go_ai (B f) 9 i 0)
  have q1 := gq_0 (ad f) (go_ai (B f) 9 i 0) X
  simp only [q, nar0, r1, Option.bind_some, q1, show (go_ai (B f) 9 i 0).2.2.2.1 1 i = nI (gp_k P f i) from hk, show (go_ai (B f) 9 i 0).2.2.2.1 2 i = nI (gp_n P f i) from hn]
  have hne1 : ¬ fMy (go_u B f (go_ai (B f) 9 i 0)) f i = 0 := by rw [hm]; exact hne
  have em : (go_ai (B f) 9 i 0).2.2.2.2.1 8 i = fMy (go_u B f (go_ai (B f) 9 i 0)) f i := by rw [hm]; rfl
  have go : ∀ o, ((gp_k P f i = 3 ∧ gp_n P f i < gp_c P ∧ o = some (ad (gp_n P f i))) ∨ (¬ (gp_k P f i = 3 ∧ gp_n P f i < gp_c P) ∧ o = none)) → ∃ X' B' F' t', gm_X1_step_78 fu aF (some (ad f)) (nI i) (nI (gp_k P f i)) ((go_ai (B f) 9 i 0).2.2.2.2.1 8 i) o (go_k 0 (ad f) (go_ai (B f) 9 i 0) X) = some X' ∧ gw_D (fw W0 ip (gp_c P) aF ad B' F') X' ∧ fi T P aT B' F' t' ∧ fp P B' F' t' + 1 ≤ fp P B F (t + 1) ∧ fe P B' ∧ (∀ g j, g < gp_c P → j < gp_l P g → fend T P g j B') ∧ ∀ g s, gb (fEn B g) s = true → gb (fEn B' g) s = true := by
    intro o ho
    rw [em]
    obtain ⟨X', B', F', t', g1, g2, g3, g4, g5, g6⟩ := f_step78 (fu := fu) hip hw hTw hfu hC h1 J hf hi hne1 o ho
    refine ⟨X', B', F', t', g1, g2, g3, ?_, g5 ?_, fun g j hgc hj => ?_, fun g s hs => g4.2.1 g s (by rw [hen]; exact hs)⟩
    · have := g4.2.2.2.2.2.2.2.2
      omega
    · unfold fe
      rw [hen, hm]
      exact he
    · by_cases e : g = f ∧ j = i
      · rw [e.1, e.2]
        exact g6
      · refine fend_fr ?_ g4 hgc hj
        unfold fend
        have w2 : fWt (go_u B f (go_ai (B f) 9 i 0)) g j = fWt B g j := by
          rw [w1]
          by_cases e1 : g = f
          · subst e1
            rw [go_w_s, go_u_n fun e2 => e ⟨rfl, e2⟩]
          · rw [go_w_n e1]
        rw [w2]
        unfold bm be bx bl
        rw [hm, hen, hx, ha, hg]
        exact hz g j hgc hj
  by_cases k3 : gp_k P f i = 3
  · rw [if_pos (by rw [k3]; rfl)]
    have eP1 := h1.k ((fw_o (by omega) (by omega)).trans c3)
    rw [gx_obT eP1]
    by_cases hnc : gp_n P f i < gp_c P
    · rw [f_body hip hw hC h1 hnc, gx_b2s]
      exact go _ (Or.inl ⟨k3, hnc, rfl⟩)
    · rw [f_bodyN hip hw hC h1 (by omega) (by omega), gx_b2s]
      exact go _ (Or.inr ⟨fun q => hnc q.2, rfl⟩)
  · rw [if_neg (nI_nl 3 (x := 3) rfl (by omega) (by omega) k3)]
    exact go none (Or.inr ⟨fun q => k3 q.1, rfl⟩)
/-- what a wake costs -/
def cw (P : sP) (gr : Nat → Int32) (f i : Nat) : Nat := if gp_k P f i = 3 ∧ gp_n P f i < gp_c P then i01 (gr (gp_n P f i)) else 0
def wk (B B' : Nat → go_O) (F F' : go_O) : Prop := fMy B' = fMy B ∧ fEn B' = fEn B ∧ fEx B' = fEx B ∧ fAl B' = fAl B ∧ F'.1 3 = F.1 3 ∧ ∀ g j, ¬ fWt B g j = 0 → ¬ fWt B' g j = 0
set_option maxHeartbeats 1000000 in
theorem f_wakeIn (hip : 4 ≤ ip) (hw : gp_wf P) (hC : fc W0 T P ip aT aP ad) (hf : f < gp_c P) : ∀ (d n i : Nat) (X : gx_H) (B : Nat → go_O) (F : go_O) (t : Nat), gw_D (fw W0 ip (gp_c P) aF ad B F) X → fi T P aT B F t → i + d = gp_l P f → d < n →
    ∃ X' B' F' t', gm_X1_wakeCallersIn_2 fu n aF aP (ad f) (nI i) X = some X' ∧ gw_D (fw W0 ip (gp_c P) aF ad B' F') X' ∧ fi T P aT B' F' t' ∧ wk B B' F F' ∧ fGr B' = fGr B ∧ t' + gn_s (cw P (fGr B) f) i ≤ t + gn_s (cw P (fGr B) f) (gp_l P f) ∧ ∀ j, i ≤ j → j < gp_l P f → gp_k P f j = 3 → gp_n P f j < gp_c P → ¬ fGr B (gp_n P f j) = 0 → ¬ fMy B f j = 0 → ¬ fWt B' f j = 0
  | d, 0, i, X, B, F, t, _, _, _, hn => absurd hn (Nat.not_lt_zero _)
  | d, n + 1, i, X, B, F, t, h, I, hd, hn => by
    have hc := hw.1
    obtain ⟨⟨-, hl2⟩, -, hIw, -⟩ := hw.2 f hf
    have eB := kB hip h hf
    have q := gq_0 (ad f) (B f) X
    rw [eB] at q
    obtain ⟨hs, -⟩ := I.1 f hf
    rw [gm_X1_wakeCallersIn_2]
    simp only [q, Option.bind_some, hs.2.1]
    by_cases e : d = 0
    · rw [if_pos ((nI_leI (by omega) (by omega)).mpr (by omega))]
      have ei : i = gp_l P f := by omega
      exact ⟨X, B, F, t, rfl, h, I, ⟨rfl, rfl, rfl, rfl, rfl, fun _ _ q => q⟩, rfl, by rw [ei]; exact Nat.le_refl _, fun j a b => by omega⟩
    · rw [if_neg (fun c => absurd ((nI_leI (by omega) (by omega)).mp c) (by omega))]
      have hi : i < gp_l P f := by omega
      have k8 := (hIw i hi).1
      have hn200 := gp_nb hw hf hi
      obtain ⟨hk, hnn⟩ := hs.2.2.2.1 i hi
      have r1 : i < 200 := by omega
      simp only [q, r1, Option.bind_some, hk, hnn]
      have gs1 : gn_s (cw P (fGr B) f) (i + 1) = gn_s (cw P (fGr B) f) i + cw P (fGr B) f i := rfl
      have nx : ∀ (X1 : gx_H) (B1 : Nat → go_O) (F1 : go_O) (t1 : Nat), gw_D (fw W0 ip (gp_c P) aF ad B1 F1) X1 → fi T P aT B1 F1 t1 → wk B B1 F F1 → fGr B1 = fGr B → t1 ≤ t + cw P (fGr B) f i → (gp_k P f i = 3 → gp_n P f i < gp_c P → ¬ fGr B (gp_n P f i) = 0 → ¬ fMy B f i = 0 → ¬ fWt B1 f i = 0) →
          ∃ X' B' F' t', gm_X1_wakeCallersIn_62 fu (gm_X1_wakeCallersIn_2 fu n) aF aP (ad f) (nI i) X1 = some X' ∧ gw_D (fw W0 ip (gp_c P) aF ad B' F') X' ∧ fi T P aT B' F' t' ∧ wk B B' F F' ∧ fGr B' = fGr B ∧ t' + gn_s (cw P (fGr B) f) i ≤ t + gn_s (cw P (fGr B) f) (gp_l P f) ∧ ∀ j, i ≤ j → j < gp_l P f → gp_k P f j = 3 → gp_n P f j < gp_c P → ¬ fGr B (gp_n P f j) = 0 → ¬ fMy B f j = 0 → ¬ fWt B' f j = 0 := by
        intro X1 B1 F1 t1 d1 i1 k1 g1 ht p1
        unfold gm_X1_wakeCallersIn_62
        rw [nI_1]
        obtain ⟨X', B', F', t', n1, n2, n3, n4, n5, n6, n7⟩ := f_wakeIn hip hw hC hf (d - 1) n (i + 1) X1 B1 F1 t1 d1 i1 (by omega) (by omega)
        rw [g1] at n6 n7
        refine ⟨X', B', F', t', n1, n2, n3, ⟨n4.1.trans k1.1, n4.2.1.trans k1.2.1, n4.2.2.1.trans k1.2.2.1, n4.2.2.2.1.trans k1.2.2.2.1, n4.2.2.2.2.1.trans k1.2.2.2.2.1, fun g j q => n4.2.2.2.2.2 g j (k1.2.2.2.2.2 g j q)⟩, n5.trans g1, by omega, fun j a1 a2 a3 a4 a5 a6 => ?_⟩
        by_cases e2 : j = i
        · subst e2
          exact n4.2.2.2.2.2 f j (p1 a3 a4 a5 a6)
        · exact n7 j (by omega) a2 a3 a4 a5 (by rw [k1.1]; exact a6)
      have rfw : wk B B F F := ⟨rfl, rfl, rfl, rfl, rfl, fun _ _ q => q⟩
      have skip := fun p => nx X B F t h I rfw rfl (by omega) p
      by_cases k3 : gp_k P f i = 3
      · rw [if_pos (by rw [k3]; rfl)]
        by_cases m0 : fMy B f i = 0
        · rw [if_pos (gb_cmp.mpr m0)]
          exact skip fun _ _ _ q => absurd m0 q
        · rw [if_neg (fun c => m0 (gb_cmp.mp c))]
          obtain ⟨OT, OP, c1, c2, c3, c4, c5⟩ := id hC
          rw [gx_obT (h.k ((fw_o (by omega) (by omega)).trans c3))]
          by_cases hnc : gp_n P f i < gp_c P
          · rw [f_body hip hw hC h hnc, gx_b2s, gx_nls]
            have q2 := gq_0 (ad (gp_n P f i)) (B (gp_n P f i)) X
            rw [kB hip h hnc] at q2
            simp only [q2, Option.bind_some]
            by_cases g0 : fGr B (gp_n P f i) = 0
            · rw [if_pos g0]
              exact skip fun _ _ q => absurd g0 q
            · rw [if_neg g0, gx_obT (kF h)]
              obtain ⟨X1, B1, F1, t1, b1, b2, b3, b4, b5, b6, b7, b8, b9, b10, b11, b12⟩ := f_wait (fu := fu) hip hw h I hf hi m0
              rw [b1, Option.bind_some]
              refine nx X1 B1 F1 t1 b2 b3 ⟨b7, b8, b9, b10, b6, b12⟩ b11 ?_ (fun _ _ _ _ => b5)
              unfold cw
              rw [if_pos ⟨k3, hnc⟩, i01_1 g0]
              exact b4
          · rw [f_bodyN hip hw hC h (by omega) (by omega), gx_b2s, gx_nln]
            exact skip fun _ q => absurd q hnc
      · rw [if_neg (nI_nl 3 (x := 3) rfl (by omega) (by omega) k3)]
        exact skip fun q => absurd q k3
end FL
