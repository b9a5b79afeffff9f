/-! Flow: growMay, growEntry, growSummary -/
section FG
variable {W0 : gw_T} {ip aF aT : Nat} {ad : Nat → Nat} {B : Nat → go_O} {F : go_O} {X : gx_H} {fu f i t : Nat} {T : sT} {P : sP}
/-- an INSTRUCTION is put to wait (or waits already) -/
theorem f_wait (hip : 4 ≤ ip) (hw : gp_wf P) (h : gw_D (fw W0 ip (gp_c P) aF ad B F) X) (I : fi T P aT B F t) (hf : f < gp_c P) (hi : i < gp_l P f) (hne : ¬ fMy B f i = 0) :
    ∃ X' B' F' t', gm_X1_waitAt fu aF (ad f) (nI i) X = some X' ∧ gw_D (fw W0 ip (gp_c P) aF ad B' F') X' ∧ fi T P aT B' F' t' ∧ t' ≤ t + 1 ∧ ¬ fWt B' f i = 0 ∧ F'.1 3 = F.1 3 ∧ fMy B' = fMy B ∧ fEn B' = fEn B ∧ fEx B' = fEx B ∧ fAl B' = fAl B ∧ fGr B' = fGr B ∧ ∀ g j, ¬ fWt B g j = 0 → ¬ fWt B' g j = 0 := by
  obtain ⟨I1, ⟨I2, I2b⟩, I3, I4, I5, I6, I7, I9⟩ := id I
  have hc := hw.1
  have hl := (hw.2 f hf).1.2
  obtain ⟨X', g1, g2⟩ := c_waitAt (fu := fu) (t := t) hip h hf (by omega) (i := i) (by omega) (I1 f hf).1.1 I2 (fun e => by rw [I4]; exact uWt_bd hw hf hi e)
  rcases g2 with ⟨e, rfl⟩ | ⟨e, g3⟩
  · exact ⟨X', B, F, t, g1, h, I, by omega, e, rfl, rfl, rfl, rfl, rfl, rfl, fun _ _ q => q⟩
  · have w1 := fWt_ai B f i 1
    have hm : fMy (go_u B f (go_ai (B f) 9 i 1)) = fMy B := go_u_same (fun b => fun j => ml b 8 j) B f (go_ai (B f) 9 i 1) rfl
    have he : fEn (go_u B f (go_ai (B f) 9 i 1)) = fEn B := go_u_same (fun b => b.2.1 11) B f (go_ai (B f) 9 i 1) rfl
    have hx : fEx (go_u B f (go_ai (B f) 9 i 1)) = fEx B := go_u_same (fun b => b.2.1 12) B f (go_ai (B f) 9 i 1) rfl
    have ha : fAl (go_u B f (go_ai (B f) 9 i 1)) = fAl B := go_u_same (fun b => b.2.1 13) B f (go_ai (B f) 9 i 1) rfl
    have hg : fGr (go_u B f (go_ai (B f) 9 i 1)) = fGr B := go_u_same (fun b => b.1 14) B f (go_ai (B f) 9 i 1) rfl
    have wg : ∀ g j, ¬ fWt B g j = 0 → ¬ fWt (go_u B f (go_ai (B f) 9 i 1)) g j = 0 := fun g j q => by
      rw [w1]
      by_cases e1 : g = f
      · subst e1
        rw [go_w_s]
        by_cases e2 : j = i
        · rw [e2, go_u_s]; decide
        · rw [go_u_n e2]; exact q
      · rw [go_w_n e1]; exact q
    have wn : ¬ fWt (go_u B f (go_ai (B f) 9 i 1)) f i = 0 := by rw [w1, go_w_s, go_u_s]; decide
    refine ⟨X', _, _, t + 1, g1, g3, ⟨bs_up I1 hf (fun k _ => rfl) (fun k j hk => ?_), ⟨?_, I2b⟩, ?_, ?_, ?_, ?_, ?_, ?_⟩, Nat.le_refl _, wn, ?_, hm, he, hx, ha, hg, wg⟩
    · rw [mi_ai, if_neg fun q => hk q.1]
    · rw [si_at, if_pos rfl]
    · intro q
      rw [hg]
      refine I3 ?_
      rw [si_at, if_neg (by omega)] at q
      exact q
    · rw [w1, uWt_push hf hi e (by decide), ← I4]
    · intro j hj
      show ∃ f' i', _ ∧ _ ∧ mi (go_ai F 1 t (nI (200 * f + i))) 1 j = _ ∧ _
      rw [mi_ai]
      by_cases e1 : j = t
      · rw [if_pos ⟨rfl, e1⟩]
        exact ⟨f, i, hf, hi, rfl, wn⟩
      · rw [if_neg fun q => e1 q.2]
        obtain ⟨f', i', b1, b2, b3, b4⟩ := I5 j (by omega)
        exact ⟨f', i', b1, b2, b3, wg _ _ b4⟩
    · intro j k hjk hk
      show mi (go_ai F 1 t (nI (200 * f + i))) 1 j ≠ mi (go_ai F 1 t (nI (200 * f + i))) 1 k
      rw [mi_ai, mi_ai, if_neg (by omega)]
      by_cases e1 : k = t
      · rw [if_pos ⟨rfl, e1⟩]
        obtain ⟨f', i', b1, b2, b3, b4⟩ := I5 j (by omega)
        rw [b3]
        intro q
        have hl' := (hw.2 f' b1).1.2
        have q2 := nI_inj (by omega) (by omega) q
        have e2 : f' = f := by omega
        subst e2
        have e3 : i' = i := by omega
        subst e3
        exact b4 e
      · rw [if_neg fun q => e1 q.2]
        exact I6 j k hjk (by omega)
    · show fn T P _
      unfold fn
      rw [hm, he, hx, ha]
      exact I7
    · intro g j hgc hj hq
      rw [hm]
      by_cases e1 : g = f ∧ j = i
      · rw [e1.1, e1.2]
        exact hne
      · refine I9 g j hgc hj fun q => hq ?_
        rw [w1]
        by_cases e2 : g = f
        · subst e2
          rw [go_w_s, go_u_n fun e => e1 ⟨rfl, e⟩]
          exact q
        · rw [go_w_n e2]
          exact q
    · rw [si_at, if_neg (by omega)]
      rfl
set_option maxHeartbeats 1000000 in
theorem f_growMay (hip : 4 ≤ ip) (hw : gp_wf P) (h : gw_D (fw W0 ip (gp_c P) aF ad B F) X) (I : fi T P aT B F t) (hf : f < gp_c P) (hi2 : i < 2 ^ 31) {v : Int64} (hv : i < gp_l P f → ∀ s, gb v s = true → gl_m T P f i s) :
    ∃ X' B' F' t', gm_X1_growMay fu aF (ad f) (nI i) v X = some X' ∧ gw_D (fw W0 ip (gp_c P) aF ad B' F') X' ∧ fi T P aT B' F' t' ∧ fr P B F t B' F' t' ∧ (i < gp_l P f → ∀ s, gb v s = true → gb (fMy B' f i) s = true) ∧ fEn B' = fEn B ∧ fEx B' = fEx B ∧ fAl B' = fAl B ∧ fGr B' = fGr B ∧ F'.1 3 = F.1 3 := by
  obtain ⟨I1, ⟨I2, I2b⟩, I3, I4, I5, I6, I7, I9⟩ := id I
  have hl2 := (hw.2 f hf).1.2
  have hl := (I1 f hf).1.2.1
  have eB := kB hip h hf
  have q := gq_0 (ad f) (B f) X
  rw [eB] at q
  unfold gm_X1_growMay
  rw [gx_obT eB]
  by_cases hi : i < gp_l P f
  · rw [c_hasI_t hl hl2 eB hi, gx_b2s, if_neg (by decide)]
    have r1 : i < 200 := by omega
    simp only [q, r1, Option.bind_some]
    by_cases e : (fMy B f i ||| v) = fMy B f i
    · rw [if_pos (gb_cmp.mpr e)]
      exact ⟨X, B, F, t, rfl, h, I, fr.rf, fun _ s hs => gb_sub.mp e s hs, rfl, rfl, rfl, rfl, rfl⟩
    · rw [if_neg (fun c => e (gb_cmp.mp c))]
      have h1 := fd_B hip h hf (go_al (B f) 8 i (fMy B f i ||| v))
      rw [gx_obT (kF h1)]
      have m1 := fMy_al B f i (fMy B f i ||| v)
      have hm : fWt (go_u B f (go_al (B f) 8 i (fMy B f i ||| v))) = fWt B := go_u_same (fun b => fun j => mi b 9 j) B f (go_al (B f) 8 i (fMy B f i ||| v)) rfl
      have he : fEn (go_u B f (go_al (B f) 8 i (fMy B f i ||| v))) = fEn B := go_u_same (fun b => b.2.1 11) B f (go_al (B f) 8 i (fMy B f i ||| v)) rfl
      have hx : fEx (go_u B f (go_al (B f) 8 i (fMy B f i ||| v))) = fEx B := go_u_same (fun b => b.2.1 12) B f (go_al (B f) 8 i (fMy B f i ||| v)) rfl
      have ha : fAl (go_u B f (go_al (B f) 8 i (fMy B f i ||| v))) = fAl B := go_u_same (fun b => b.2.1 13) B f (go_al (B f) 8 i (fMy B f i ||| v)) rfl
      have hg : fGr (go_u B f (go_al (B f) 8 i (fMy B f i ||| v))) = fGr B := go_u_same (fun b => b.1 14) B f (go_al (B f) 8 i (fMy B f i ||| v)) rfl
      have up : ∀ g j s, gb (fMy B g j) s = true → gb (fMy (go_u B f (go_al (B f) 8 i (fMy B f i ||| v))) g j) s = true := fun g j s hs => by
        rw [m1]
        by_cases e1 : g = f
        · subst e1
          rw [go_w_s]
          by_cases e2 : j = i
          · subst e2
            rw [go_u_s, gb_or, hs]; rfl
          · rw [go_u_n e2]; exact hs
        · rw [go_w_n e1]; exact hs
      have inn : ∀ s, gb v s = true → gb (fMy (go_u B f (go_al (B f) 8 i (fMy B f i ||| v))) f i) s = true := fun s hs => by rw [m1, go_w_s, go_u_s, gb_or, hs, Bool.or_true]
      have J : fi T P aT (go_u B f (go_al (B f) 8 i (fMy B f i ||| v))) F t := by
        refine ⟨bs_up I1 hf (fun k _ => rfl) (fun k j hk => rfl), ⟨I2, I2b⟩, by rw [hg]; exact I3, by rw [hm]; exact I4, by rw [hm]; exact I5, I6, ?_, fun g j hgc hj hq => gb_nz.mpr ((gb_nz.mp (I9 g j hgc hj (by rw [← hm]; exact hq))).imp fun s hs => up g j s hs)⟩
        · unfold fn
          rw [he, hx, ha, m1]
          refine ⟨fun g j s hgc hj hs => ?_, I7.2.1, I7.2.2.1, I7.2.2.2⟩
          by_cases e1 : g = f
          · subst e1
            rw [go_w_s] at hs
            by_cases e2 : j = i
            · subst e2
              rw [go_u_s, gb_or] at hs
              rcases Bool.or_eq_true_iff.mp hs with hs | hs
              · exact I7.1 g j s hgc hj hs
              · exact hv hj s hs
            · rw [go_u_n e2] at hs
              exact I7.1 g j s hgc hj hs
          · rw [go_w_n e1] at hs
            exact I7.1 g j s hgc hj hs
      obtain ⟨X', B', F', t', g1, g2, g3, g4, g5, g6, g7, g8, g9, g10, g11, g12⟩ := f_wait (fu := fu) hip hw h1 J hf hi (fun q => e (by
        rw [m1, go_w_s, go_u_s] at q
        rw [q]
        refine (gb_z.mpr fun s => ?_).symm
        have := gb_z.mp q s
        rw [gb_or] at this
        cases h3 : gb (fMy B f i) s with
        | false => rfl
        | true => rw [h3] at this; cases this))
      refine ⟨X', B', F', t', by rw [g1, Option.bind_some], g2, g3, ⟨?_, ?_, ?_, ?_, ?_, ?_, ?_, ?_, ?_⟩, fun _ s hs => by rw [g7]; exact inn s hs, g8.trans he, g9.trans hx, g10.trans ha, g11.trans hg, g6⟩
      · rw [g7]
        exact up
      · rw [g8, he]
        exact fun _ _ h => h
      · rw [g9, hx]
        exact fun _ _ h => h
      · rw [g10, ha]
        exact fun _ _ h => h
      · intro g j hg hj
        by_cases e1 : g = f ∧ j = i
        · rw [e1.1, e1.2]
          exact Or.inr g5
        · left
          rw [g7, m1]
          by_cases e2 : g = f
          · subst e2
            rw [go_w_s, go_u_n fun q => e1 ⟨rfl, q⟩]
          · rw [go_w_n e2]
      · exact fun g j _ _ hq => g12 g j (by rw [hm]; exact hq)
      · exact fun g _ => Or.inl ⟨by rw [g9, hx], by rw [g10, ha]⟩
      · exact fun g _ hq => by rw [g11, hg]; exact hq
      · unfold fp
        rw [g7, g9, hx, g10, ha, g11, hg, g6, m1]
        have := uMy_lt (P := P) (my := fMy B) hf hi e
        omega
  · rw [c_hasI_f hl hl2 eB (by omega) hi2, gx_b2s, if_pos rfl]
    exact ⟨X, B, F, t, rfl, h, I, fr.rf, fun q => absurd q hi, rfl, rfl, rfl, rfl, rfl⟩
set_option maxHeartbeats 1000000 in
theorem f_growEntry (hip : 4 ≤ ip) (hw : gp_wf P) (h : gw_D (fw W0 ip (gp_c P) aF ad B F) X) (I : fi T P aT B F t) (hf : f < gp_c P) {v : Int64} (hv : ∀ s, gb v s = true → gl_e T P f s) :
    ∃ X' B' F' t', gm_X1_growEntry fu aF (ad f) v X = some X' ∧ gw_D (fw W0 ip (gp_c P) aF ad B' F') X' ∧ fi T P aT B' F' t' ∧ fr P B F t B' F' t' ∧ (∀ s, gb v s = true → gb (fEn B' f) s = true) ∧ (fe P B → fe P B') ∧ fEx B' = fEx B ∧ fAl B' = fAl B ∧ fGr B' = fGr B ∧ F'.1 3 = F.1 3 := by
  have hl1 := (hw.2 f hf).1.1
  have eB := kB hip h hf
  have q := gq_0 (ad f) (B f) X
  rw [eB] at q
  have h1 := fd_B hip h hf (go_sl (B f) 11 (fEn B f ||| v))
  have q1 := gq_0 (ad f) (go_sl (B f) 11 (fEn B f ||| v)) X
  have e11 : (go_sl (B f) 11 (fEn B f ||| v)).2.1 11 = (fEn B f ||| v) := by
    show go_u (B f).2.1 11 (fEn B f ||| v) 11 = _
    rw [go_u_s]
  unfold gm_X1_growEntry
  simp only [q, q1, Option.bind_some, e11]
  rw [gx_obT (kF h1)]
  have em : fMy (go_u B f (go_sl (B f) 11 (fEn B f ||| v))) = fMy B := go_u_same (fun b => fun j => ml b 8 j) B f (go_sl (B f) 11 (fEn B f ||| v)) rfl
  have ew : fWt (go_u B f (go_sl (B f) 11 (fEn B f ||| v))) = fWt B := go_u_same (fun b => fun j => mi b 9 j) B f (go_sl (B f) 11 (fEn B f ||| v)) rfl
  have ex : fEx (go_u B f (go_sl (B f) 11 (fEn B f ||| v))) = fEx B := go_u_same (fun b => b.2.1 12) B f (go_sl (B f) 11 (fEn B f ||| v)) rfl
  have ea : fAl (go_u B f (go_sl (B f) 11 (fEn B f ||| v))) = fAl B := go_u_same (fun b => b.2.1 13) B f (go_sl (B f) 11 (fEn B f ||| v)) rfl
  have eg : fGr (go_u B f (go_sl (B f) 11 (fEn B f ||| v))) = fGr B := go_u_same (fun b => b.1 14) B f (go_sl (B f) 11 (fEn B f ||| v)) rfl
  have een : ∀ g, fEn (go_u B f (go_sl (B f) 11 (fEn B f ||| v))) g = if g = f then (fEn B f ||| v) else fEn B g := fun g => by
    by_cases e : g = f
    · subst e
      rw [if_pos rfl]
      show (go_u B g (go_sl (B g) 11 (fEn B g ||| v)) g).2.1 11 = _
      rw [go_u_s, e11]
    · rw [if_neg e]
      show (go_u B f (go_sl (B f) 11 (fEn B f ||| v)) g).2.1 11 = _
      rw [go_u_n e]
  obtain ⟨I1, ⟨I2, I2b⟩, I3, I4, I5, I6, I7, I9⟩ := id I
  have eor : ∀ s, gb (fEn B f ||| v) s = true → gl_e T P f s := fun s hs => by
    rw [gb_or] at hs
    rcases Bool.or_eq_true_iff.mp hs with hs | hs
    · exact I7.2.1 f s hf hs
    · exact hv s hs
  have J : fi T P aT (go_u B f (go_sl (B f) 11 (fEn B f ||| v))) F t := by
    refine ⟨bs_up I1 hf (fun k _ => rfl) (fun k j hk => rfl), ⟨I2, I2b⟩, by rw [eg]; exact I3, by rw [ew]; exact I4, by rw [ew]; exact I5, I6, ?_, by rw [ew, em]; exact I9⟩
    unfold fn
    rw [em, ex, ea]
    refine ⟨I7.1, fun g s hg hs => ?_, I7.2.2.1, I7.2.2.2⟩
    rw [een] at hs
    by_cases e : g = f
    · subst e
      rw [if_pos rfl] at hs
      exact eor s hs
    · rw [if_neg e] at hs
      exact I7.2.1 g s hg hs
  obtain ⟨X', B', F', t', g1, g2, g3, g4, g5, g6, g7, g8, g9, g10⟩ := f_growMay (fu := fu) (i := 0) (v := (fEn B f ||| v)) hip hw h1 J hf (by omega) (fun _ s hs => (gl_cl T P).2.1 f hf s (eor s hs))
  have mono : ∀ g s, gb (fEn B g) s = true → gb (fEn (go_u B f (go_sl (B f) 11 (fEn B f ||| v))) g) s = true := fun g s hs => by
    rw [een]
    by_cases e : g = f
    · subst e
      rw [if_pos rfl, gb_or, hs]; rfl
    · rw [if_neg e]; exact hs
  have s1 : fr P B F t (go_u B f (go_sl (B f) 11 (fEn B f ||| v))) F t := by
    refine ⟨by rw [em]; exact fun _ _ _ h => h, mono, by rw [ex]; exact fun _ _ h => h, by rw [ea]; exact fun _ _ h => h, fun g j _ _ => Or.inl (by rw [em]), by rw [ew]; exact fun _ _ _ _ h => h, fun g _ => Or.inl ⟨by rw [ex], by rw [ea]⟩, by rw [eg]; exact fun _ _ h => h, ?_⟩
    unfold fp
    rw [em, ex, ea, eg]
    exact Nat.le_refl _
  refine ⟨X', B', F', t', by rw [show (0 : Int32) = nI 0 from rfl, g1, Option.bind_some], g2, g3, s1.tr g4, fun s hs => ?_, fun hfe g hg s hs => ?_, g7.trans ex, g8.trans ea, g9.trans eg, g10⟩
  · rw [g6, een, if_pos rfl, gb_or, hs, Bool.or_true]
  · rw [g6, een] at hs
    by_cases e : g = f
    · subst e
      rw [if_pos rfl] at hs
      exact g5 (by omega) s hs
    · rw [if_neg e] at hs
      exact g4.1 g 0 s (by rw [em]; exact hfe g hg s hs)
set_option maxHeartbeats 1000000 in
theorem f_growSummary (hip : 4 ≤ ip) (hw : gp_wf P) (h : gw_D (fw W0 ip (gp_c P) aF ad B F) X) (I : fi T P aT B F t) (hf : f < gp_c P) {x a : Int64} (hx : ∀ s, gb x s = true → gl_x T P f s) (ha : ∀ s, gb a s = true → gl_a T P f s) :
    ∃ X' B' F', gm_X1_growSummary fu aF (ad f) x a X = some X' ∧ gw_D (fw W0 ip (gp_c P) aF ad B' F') X' ∧ fi T P aT B' F' t ∧ fr P B F t B' F' t ∧ (∀ s, gb x s = true → gb (fEx B' f) s = true) ∧ (∀ s, gb a s = true → gb (fAl B' f) s = true) ∧ fMy B' = fMy B ∧ fEn B' = fEn B := by
  have eB := kB hip h hf
  have q := gq_0 (ad f) (B f) X
  rw [eB] at q
  obtain ⟨I1, ⟨I2, I2b⟩, I3, I4, I5, I6, I7, I9⟩ := id I
  unfold gm_X1_growSummary
  simp only [q, Option.bind_some]
  by_cases c : (fEx B f ||| x) = fEx B f ∧ (fAl B f ||| a) = fAl B f
  · rw [if_pos (gb_cmp.mpr c.1), if_pos (gb_cmp.mpr c.2)]
    exact ⟨X, B, F, rfl, h, I, fr.rf, fun s hs => gb_sub.mp c.1 s hs, fun s hs => gb_sub.mp c.2 s hs, rfl, rfl⟩
  · have key : ∃ X' B' F', gm_X1_growSummary_29 fu aF (ad f) x a X = some X' ∧ gw_D (fw W0 ip (gp_c P) aF ad B' F') X' ∧ fi T P aT B' F' t ∧ fr P B F t B' F' t ∧ (∀ s, gb x s = true → gb (fEx B' f) s = true) ∧ (∀ s, gb a s = true → gb (fAl B' f) s = true) ∧ fMy B' = fMy B ∧ fEn B' = fEn B := by
      generalize hb : go_si (go_sl (go_sl (B f) 12 (fEx B f ||| x)) 13 (fAl B f ||| a)) 14 1 = b
      have b12 : b.2.1 12 = (fEx B f ||| x) := by rw [← hb]; rfl
      have b13 : b.2.1 13 = (fAl B f ||| a) := by rw [← hb]; rfl
      have b11 : b.2.1 11 = fEn B f := by rw [← hb]; rfl
      have b14 : b.1 14 = 1 := by rw [← hb]; rfl
      have bsi : ∀ k, k ≠ 14 → b.1 k = (B f).1 k := fun k hk => by rw [← hb, si_at, if_neg hk]; rfl
      have bmi : b.2.2.2 = (B f).2.2.2 := by rw [← hb]; rfl
      have q1 := gq_0 (ad f) (go_sl (B f) 12 (fEx B f ||| x)) X
      have q2 := gq_0 (ad f) (go_sl (go_sl (B f) 12 (fEx B f ||| x)) 13 (fAl B f ||| a)) X
      have h1 := fd_B hip h hf b
      have qF := gq_1 aF F (go_k 0 (ad f) b X)
      rw [kF h1] at qF
      have h2 := fd_F h1 (go_si F 3 1)
      unfold gm_X1_growSummary_29
      simp only [q, q1, Option.bind_some, show (go_sl (B f) 12 (fEx B f ||| x)).2.1 13 = fAl B f from rfl]
      simp only [q2, Option.bind_some, hb, qF]
      have em : fMy (go_u B f b) = fMy B := go_u_same (fun b => fun j => ml b 8 j) B f b (by rw [show ml b = ml (B f) by unfold ml; rw [bmi]])
      have ew : fWt (go_u B f b) = fWt B := go_u_same (fun b => fun j => mi b 9 j) B f b (by rw [show mi b = mi (B f) by unfold mi; rw [bmi]])
      have een : fEn (go_u B f b) = fEn B := go_u_same (fun b => b.2.1 11) B f b b11
      have ex : ∀ g, fEx (go_u B f b) g = if g = f then (fEx B f ||| x) else fEx B g := fun g => by
        show (go_u B f b g).2.1 12 = _
        by_cases e : g = f
        · rw [e, go_u_s, b12, if_pos rfl]
        · rw [go_u_n e, if_neg e]
      have ea : ∀ g, fAl (go_u B f b) g = if g = f then (fAl B f ||| a) else fAl B g := fun g => by
        show (go_u B f b g).2.1 13 = _
        by_cases e : g = f
        · rw [e, go_u_s, b13, if_pos rfl]
        · rw [go_u_n e, if_neg e]
      have eg : ∀ g, fGr (go_u B f b) g = if g = f then 1 else fGr B g := fun g => by
        show (go_u B f b g).1 14 = _
        by_cases e : g = f
        · rw [e, go_u_s, b14, if_pos rfl]
        · rw [go_u_n e, if_neg e]
      have u1 : ∀ g, uG (fEx (go_u B f b)) (fAl (go_u B f b)) g ≤ uG (fEx B) (fAl B) g := fun g => by
        unfold uG
        rw [ex, ea]
        by_cases e : g = f
        · rw [if_pos e, if_pos e, e]
          have := gb_u_le (fEx B f) x
          have := gb_u_le (fAl B f) a
          omega
        · rw [if_neg e, if_neg e]
          exact Nat.le_refl _
      have u2 : uG (fEx (go_u B f b)) (fAl (go_u B f b)) f < uG (fEx B) (fAl B) f := by
        unfold uG
        rw [ex, ea, if_pos rfl, if_pos rfl]
        have := gb_u_le (fEx B f) x
        have := gb_u_le (fAl B f) a
        by_cases c1 : (fEx B f ||| x) = fEx B f
        · have := gb_u_lt (fun e => c ⟨c1, e⟩)
          omega
        · have := gb_u_lt c1
          omega
      have o : ∀ s, gb (fEx B f ||| x) s = true → gl_x T P f s := fun s hs => by
        rw [gb_or] at hs
        rcases Bool.or_eq_true_iff.mp hs with hs | hs
        · exact I7.2.2.1 f s hf hs
        · exact hx s hs
      have o2 : ∀ s, gb (fAl B f ||| a) s = true → gl_a T P f s := fun s hs => by
        rw [gb_or] at hs
        rcases Bool.or_eq_true_iff.mp hs with hs | hs
        · exact I7.2.2.2 f s hf hs
        · exact ha s hs
      refine ⟨_, go_u B f b, go_si F 3 1, rfl, h2, ⟨bs_up I1 hf bsi (fun k j _ => by rw [show mi b = mi (B f) by unfold mi; rw [bmi]]), ⟨I2, I2b⟩, fun q => ?_, by rw [ew]; exact I4, by rw [ew]; exact I5, I6, ?_, by rw [ew, em]; exact I9⟩, ⟨by rw [em]; exact fun _ _ _ h => h, by rw [een]; exact fun _ _ h => h, fun g s hs => ?_, fun g s hs => ?_, fun g j _ _ => Or.inl (by rw [em]), by rw [ew]; exact fun _ _ _ _ h => h, fun g _ => ?_, fun g _ hq => ?_, ?_⟩, fun s hs => ?_, fun s hs => ?_, em, een⟩
      · rw [si_at, if_pos rfl] at q
        exact absurd q (by decide)
      · unfold fn
        rw [em, een]
        refine ⟨I7.1, I7.2.1, fun g s hg hs => ?_, fun g s hg hs => ?_⟩
        · rw [ex] at hs
          by_cases e : g = f
          · rw [if_pos e] at hs
            rw [e]
            exact o s hs
          · rw [if_neg e] at hs
            exact I7.2.2.1 g s hg hs
        · rw [ea] at hs
          by_cases e : g = f
          · rw [if_pos e] at hs
            rw [e]
            exact o2 s hs
          · rw [if_neg e] at hs
            exact I7.2.2.2 g s hg hs
      · rw [ex]
        by_cases e : g = f
        · rw [if_pos e, gb_or, ← e, hs]; rfl
        · rw [if_neg e]; exact hs
      · rw [ea]
        by_cases e : g = f
        · rw [if_pos e, gb_or, ← e, hs]; rfl
        · rw [if_neg e]; exact hs
      · by_cases e : g = f
        · right
          rw [eg, if_pos e]
          decide
        · left
          rw [ex, ea, if_neg e, if_neg e]
          exact ⟨rfl, rfl⟩
      · rw [eg]
        by_cases e : g = f
        · rw [if_pos e]; decide
        · rw [if_neg e]; exact hq
      · unfold fp
        rw [em]
        have s1 : uCa P (fEx (go_u B f b)) (fAl (go_u B f b)) (fGr (go_u B f b)) ≤ uCa P (fEx B) (fAl B) (fGr B) := by
          refine ds_le fun g j _ _ => ?_
          by_cases e : gp_k P g j = 3 ∧ gp_n P g j < gp_c P
          · rw [if_pos e, if_pos e, eg]
            by_cases e2 : gp_n P g j = f
            · rw [if_pos e2, e2, i01_1 (by decide)]
              omega
            · rw [if_neg e2]
              have := u1 (gp_n P g j)
              omega
          · rw [if_neg e, if_neg e]
            exact Nat.le_refl _
        have s2 : uSu P (fEx (go_u B f b)) (fAl (go_u B f b)) < uSu P (fEx B) (fAl B) := gn_lt _ f hf (fun g _ => u1 g) u2
        have s3 := i01_le ((go_si F 3 1).1 3)
        omega
      · rw [ex, if_pos rfl, gb_or, hs, Bool.or_true]
      · rw [ea, if_pos rfl, gb_or, hs, Bool.or_true]
    by_cases c1 : (fEx B f ||| x) = fEx B f
    · rw [if_pos (gb_cmp.mpr c1), if_neg (fun q => c ⟨c1, gb_cmp.mp q⟩)]
      exact key
    · rw [if_neg (fun q => c1 (gb_cmp.mp q))]
      exact key
end FG
