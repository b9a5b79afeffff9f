/-! the reference: one INSTRUCTION's share (goOn) -/
section MGo
variable {fu z q f i : Nat} {T : sT} {P : sP} {X : gx_H} {here af : Int64} {cf : Int32}
/-- where the handlers stand -/
theorem rm_hd {M : go_O} (hq : q < 2) (hP : rm_P q P M) (hw : gp_wf P) (hf : f < gp_c P) {h : Nat} (hh : h < gp_h P f) : 6 * (8 * q + f) + h < 96 ∧ mi M 9 (6 * (8 * q + f) + h) = nI (gp_a P f h) ∧ mi M 10 (6 * (8 * q + f) + h) = nI (gp_b P f h) ∧ mi M 11 (6 * (8 * q + f) + h) = nI (gp_g P f h) ∧ gp_a P f h < 200 ∧ gp_b P f h ≤ 200 ∧ gp_g P f h < gp_l P f ∧ gp_l P f ≤ 200 := by
  obtain ⟨-, -, -, hH⟩ := hP.2 f hf
  obtain ⟨⟨-, hl⟩, h6, -, hHw⟩ := hw.2 f hf
  have hc := hw.1
  obtain ⟨h1, h2, h3⟩ := hH h hh
  obtain ⟨w1, w2, w3⟩ := hHw h hh
  exact ⟨by omega, h1, h2, h3, by omega, by omega, w3, hl⟩
set_option maxHeartbeats 2000000 in
theorem m_go314 (hq : q < 2) (hw : gp_wf P) (hf : f < gp_c P) (hi : i < gp_l P f) (hs : ∀ s, gb here s = true → gl_m T P f i s) (hcf : cf ≠ 0 → gp_k P f i = 3 ∧ gp_n P f i < gp_c P ∧ ∃ u, gb here u = true) : ∀ (d nf h : Nat) (M : go_O), rm_P q P M → h + d = gp_h P f → d < nf →
    ∃ M', gm_X6_goOn_314 fu nf z (nI q) (nI i) (nI (8 * q + f)) (nI (1600 * q + 200 * f)) (nI (gp_k P f i)) (nI (gp_n P f i)) here cf (nI (6 * (8 * q + f) + h)) (go_k 6 z M X) = some (go_k 6 z M' X) ∧ jj q T P M M' ∧
      ∀ h', h ≤ h' → h' < gp_h P f → gp_a P f h' ≤ i → i < gp_b P f h' → (gp_k P f i = 3 ∨ gp_k P f i = 7 ∨ gp_k P f i = 8) → ∀ s, (gb here s = true ∨ (cf ≠ 0 ∧ gb (ml M 17 (8 * q + gp_n P f i)) s = true)) → gb (ml M' 14 (1600 * q + 200 * f + gp_g P f h')) s = true
  | d, 0, h, M, _, _, hn => absurd hn (Nat.not_lt_zero _)
  | d, nf + 1, h, M, hP, hd, hn => by
    obtain ⟨hl, hh, hI, -⟩ := hP.2 f hf
    obtain ⟨⟨-, hl2⟩, h6, hIw, -⟩ := hw.2 f hf
    have hc := hw.1
    have r1 : 8 * q + f < 16 := by omega
    rw [gm_X6_goOn_314]
    simp only [gq_6, li6, pk_mul, nI_add, r1, Option.bind_some, hh]
    by_cases e : d = 0
    · rw [if_pos ((nI_leI (by omega) (by omega)).mpr (by omega))]
      exact ⟨M, rfl, jj.rf, fun h' h1 h2 => by omega⟩
    · rw [if_neg (fun c => absurd ((nI_leI (by omega) (by omega)).mp c) (by omega))]
      obtain ⟨r2, ha, hb, hg, ba, bb, bg, bl⟩ := rm_hd hq hP hw hf (h := h) (by omega)
      -- on to the next one
      have nx : ∀ M1 : go_O, jj q T P M M1 → (gp_a P f h ≤ i → i < gp_b P f h → (gp_k P f i = 3 ∨ gp_k P f i = 7 ∨ gp_k P f i = 8) → ∀ s, (gb here s = true ∨ (cf ≠ 0 ∧ gb (ml M 17 (8 * q + gp_n P f i)) s = true)) → gb (ml M1 14 (1600 * q + 200 * f + gp_g P f h)) s = true) →
          ∃ M', gm_X6_goOn_429 fu (gm_X6_goOn_314 fu nf) z (nI q) (nI i) (nI (8 * q + f)) (nI (1600 * q + 200 * f)) (nI (gp_k P f i)) (nI (gp_n P f i)) here cf (nI (6 * (8 * q + f) + h)) (go_k 6 z M1 X) = some (go_k 6 z M' X) ∧ jj q T P M M' ∧
            ∀ h', h ≤ h' → h' < gp_h P f → gp_a P f h' ≤ i → i < gp_b P f h' → (gp_k P f i = 3 ∨ gp_k P f i = 7 ∨ gp_k P f i = 8) → ∀ s, (gb here s = true ∨ (cf ≠ 0 ∧ gb (ml M 17 (8 * q + gp_n P f i)) s = true)) → gb (ml M' 14 (1600 * q + 200 * f + gp_g P f h')) s = true := by
        intro M1 j1 p1
        unfold gm_X6_goOn_429
        rw [nI_1]
        obtain ⟨M', g1, g2, g3⟩ := m_go314 hq hw hf hi hs hcf (d - 1) nf (h + 1) M1 (j1.rP hP) (by omega) (by omega)
        refine ⟨M', g1, j1.tr g2, fun h' a1 a2 a3 a4 a5 s a6 => ?_⟩
        by_cases e2 : h' = h
        · subst e2
          exact g2.2.1 _ _ s (p1 a3 a4 a5 s a6)
        · refine g3 h' (by omega) a2 a3 a4 a5 s ?_
          rcases a6 with a6 | ⟨a6, a7⟩
          · exact Or.inl a6
          · exact Or.inr ⟨a6, j1.2.1 _ _ s a7⟩
      have no : (¬ (gp_a P f h ≤ i ∧ i < gp_b P f h)) → _ := fun hne => nx M jj.rf (fun a b => absurd ⟨a, b⟩ hne)
      simp only [gq_6, r2, Option.bind_some, ha, hb]
      by_cases c1 : i < gp_a P f h
      · rw [if_pos ((nI_ltI (by omega) (by omega)).mpr c1)]
        unfold gm_X6_goOn_358 gm_X6_goOn_359
        rw [if_pos rfl]
        exact no (by omega)
      · rw [if_neg (fun c => c1 ((nI_ltI (by omega) (by omega)).mp c))]
        by_cases c2 : gp_b P f h ≤ i
        · rw [if_pos ((nI_leI (by omega) (by omega)).mpr c2)]
          unfold gm_X6_goOn_358 gm_X6_goOn_359
          rw [if_pos rfl]
          exact no (by omega)
        · rw [if_neg (fun c => c2 ((nI_leI (by omega) (by omega)).mp c))]
          unfold gm_X6_goOn_359
          rw [if_neg (by decide)]
          have hk8 := (hIw i hi).1
          have r4 : 1600 * q + 200 * f + gp_g P f h < 3200 := by omega
          have yes : (gp_k P f i = 3 ∨ gp_k P f i = 7 ∨ gp_k P f i = 8) → ∃ M', gm_X6_goOn_386 fu (gm_X6_goOn_314 fu nf) z (nI q) (nI i) (nI (8 * q + f)) (nI (1600 * q + 200 * f)) (nI (gp_k P f i)) (nI (gp_n P f i)) here cf (nI (6 * (8 * q + f) + h)) (go_k 6 z M X) = some (go_k 6 z M' X) ∧ jj q T P M M' ∧
            ∀ h', h ≤ h' → h' < gp_h P f → gp_a P f h' ≤ i → i < gp_b P f h' → (gp_k P f i = 3 ∨ gp_k P f i = 7 ∨ gp_k P f i = 8) → ∀ s, (gb here s = true ∨ (cf ≠ 0 ∧ gb (ml M 17 (8 * q + gp_n P f i)) s = true)) → gb (ml M' 14 (1600 * q + 200 * f + gp_g P f h')) s = true := by
            intro hk378
            have rule := (gl_cl T P).2.2 f hf i hi
            unfold gm_X6_goOn_386 gm_X6_goOn_426
            simp only [gq_6, r2, Option.bind_some, hg, nI_add]
            by_cases c0 : cf = 0
            · rw [if_pos c0, gx_ob6, m_join14 r4, Option.bind_some]
              refine nx _ (jj_14 hq hw hf bg fun _ s h => ?_) (fun _ _ _ s a => ?_)
              · exact (rule.2.1 s (hs s h)).2.2.2 hk378 _ (by omega) (by omega) (by omega)
              · rcases a with a | ⟨a, -⟩
                · exact jn_in _ _ _ _ a
                · exact absurd c0 a
            · obtain ⟨k3, hnc, u, hu⟩ := hcf c0
              have r5 : 8 * q + gp_n P f i < 16 := by omega
              rw [if_neg c0]
              simp only [gq_6, li8, pk_mul, nI_add, r5, Option.bind_some, gx_ob6, m_join14 r4]
              refine nx _ (jj_14 hq hw hf bg fun hW s h => ?_) (fun _ _ _ s a => ?_)
              · rw [gb_or] at h
                rcases Bool.or_eq_true_iff.mp h with h | h
                · exact (rule.2.1 s (hs s h)).2.2.2 hk378 _ (by omega) (by omega) (by omega)
                · exact (rule.2.2 s u k3 (hs u hu) hnc (hW.2.2.2 _ s hnc h)).2 _ (by omega) (by omega) (by omega)
              · refine jn_in _ _ _ _ ?_
                rw [gb_or]
                rcases a with a | ⟨-, a⟩
                · rw [a]; rfl
                · rw [show gb (M.2.2.2.2.1 17 (8 * q + gp_n P f i)) s = true from a, Bool.or_true]
          by_cases k3 : gp_k P f i = 3
          · rw [if_pos (by rw [k3]; rfl)]
            exact yes (Or.inl k3)
          · rw [if_neg (nI_nl 3 (x := 3) rfl (by omega) (by omega) k3)]
            by_cases k7 : gp_k P f i = 7
            · rw [if_pos (by rw [k7]; rfl)]
              exact yes (Or.inr (Or.inl k7))
            · rw [if_neg (nI_nl 7 (x := 7) rfl (by omega) (by omega) k7)]
              by_cases k8 : gp_k P f i = 8
              · rw [if_pos (by rw [k8]; rfl)]
                exact yes (Or.inr (Or.inr k8))
              · rw [if_neg (nI_nl 8 (x := 8) rfl (by omega) (by omega) k8)]
                exact nx M jj.rf (fun _ _ hk => by omega)
/-- what must be there behind one INSTRUCTION's share -/
def gpost (q : Nat) (P : sP) (f i : Nat) (here af : Int64) (cf : Int32) (M M' : go_O) : Prop :=
  (∀ s, (gb here s = true ∨ gb af s = true) → gb (ml M' 17 (8 * q + f)) s = true) ∧ (cf ≠ 0 → ∀ s, gb here s = true → gb (ml M' 15 (8 * q + gp_n P f i)) s = true) ∧ (cf ≠ 0 → ∀ s, gb (ml M 17 (8 * q + gp_n P f i)) s = true → gb (ml M' 17 (8 * q + f)) s = true) ∧
  (gp_k P f i = 6 → ∀ s, gb here s = true → gb (ml M' 16 (8 * q + f)) s = true) ∧ ((gp_k P f i = 1 ∨ gp_k P f i = 2) → ∀ s, gb af s = true → gb (ml M' 14 (1600 * q + 200 * f + gp_n P f i)) s = true) ∧
  ((gp_k P f i ≠ 1 ∧ gp_k P f i ≠ 6 ∧ gp_k P f i ≠ 7) → i + 1 < gp_l P f → ∀ s, gb af s = true → gb (ml M' 14 (1600 * q + 200 * f + (i + 1))) s = true) ∧
  ∀ h', h' < gp_h P f → gp_a P f h' ≤ i → i < gp_b P f h' → (gp_k P f i = 3 ∨ gp_k P f i = 7 ∨ gp_k P f i = 8) → ∀ s, (gb here s = true ∨ (cf ≠ 0 ∧ gb (ml M 17 (8 * q + gp_n P f i)) s = true)) → gb (ml M' 14 (1600 * q + 200 * f + gp_g P f h')) s = true
set_option maxHeartbeats 2000000 in
theorem m_go153 (hq : q < 2) (hw : gp_wf P) (hf : f < gp_c P) (hi : i < gp_l P f) (hfu : 300 ≤ fu) (hs : ∀ s, gb here s = true → gl_m T P f i s) (hcf : cf ≠ 0 → gp_k P f i = 3 ∧ gp_n P f i < gp_c P ∧ ∃ u, gb here u = true) (ha : ∀ s, gb af s = true → gp_after T P (gl_m T P) (gl_x T P) f i s) (M : go_O) (hP : rm_P q P M) :
    ∃ M', gm_X6_goOn_153 fu z (nI q) (nI i) (nI (8 * q + f)) (nI (1600 * q + 200 * f)) (nI (gp_k P f i)) (nI (gp_n P f i)) here cf af (go_k 6 z M X) = some (go_k 6 z M' X) ∧ jj q T P M M' ∧ gpost q P f i here af cf M M' := by
  obtain ⟨⟨-, hl2⟩, h6, hIw, -⟩ := hw.2 f hf
  have hc := hw.1
  have r1 : 8 * q + f < 16 := by omega
  have hk8 := (hIw i hi).1
  have hnb := gp_nb hw hf hi
  have rule := (gl_cl T P).2.2 f hf i hi
  -- 307
  have b307 : ∀ M : go_O, rm_P q P M → ∃ M', gm_X6_goOn_307 fu z (nI q) (nI i) (nI (8 * q + f)) (nI (1600 * q + 200 * f)) (nI (gp_k P f i)) (nI (gp_n P f i)) here cf (go_k 6 z M X) = some (go_k 6 z M' X) ∧ jj q T P M M' ∧
      ∀ h', h' < gp_h P f → gp_a P f h' ≤ i → i < gp_b P f h' → (gp_k P f i = 3 ∨ gp_k P f i = 7 ∨ gp_k P f i = 8) → ∀ s, (gb here s = true ∨ (cf ≠ 0 ∧ gb (ml M 17 (8 * q + gp_n P f i)) s = true)) → gb (ml M' 14 (1600 * q + 200 * f + gp_g P f h')) s = true := by
    intro M hP
    unfold gm_X6_goOn_307
    rw [li6, pk_mul]
    obtain ⟨M', g1, g2, g3⟩ := m_go314 (fu := fu) (z := z) (X := X) hq hw hf hi hs hcf (gp_h P f) fu 0 M hP (by omega) (by omega)
    exact ⟨M', g1, g2, fun h' a => g3 h' (by omega) a⟩
  -- 258
  have b258 : ∀ M : go_O, rm_P q P M → ∃ M', gm_X6_goOn_258 fu z (nI q) (nI i) (nI (8 * q + f)) (nI (1600 * q + 200 * f)) (nI (gp_k P f i)) (nI (gp_n P f i)) here cf af (go_k 6 z M X) = some (go_k 6 z M' X) ∧ jj q T P M M' ∧
      ((gp_k P f i ≠ 1 ∧ gp_k P f i ≠ 6 ∧ gp_k P f i ≠ 7) → i + 1 < gp_l P f → ∀ s, gb af s = true → gb (ml M' 14 (1600 * q + 200 * f + (i + 1))) s = true) ∧
      ∀ h', h' < gp_h P f → gp_a P f h' ≤ i → i < gp_b P f h' → (gp_k P f i = 3 ∨ gp_k P f i = 7 ∨ gp_k P f i = 8) → ∀ s, (gb here s = true ∨ (cf ≠ 0 ∧ gb (ml M 17 (8 * q + gp_n P f i)) s = true)) → gb (ml M' 14 (1600 * q + 200 * f + gp_g P f h')) s = true := by
    intro M hP
    obtain ⟨hl, -⟩ := hP.2 f hf
    have sk : (¬ (gp_k P f i ≠ 1 ∧ gp_k P f i ≠ 6 ∧ gp_k P f i ≠ 7) ∨ ¬ i + 1 < gp_l P f) → ∃ M', gm_X6_goOn_307 fu z (nI q) (nI i) (nI (8 * q + f)) (nI (1600 * q + 200 * f)) (nI (gp_k P f i)) (nI (gp_n P f i)) here cf (go_k 6 z M X) = some (go_k 6 z M' X) ∧ jj q T P M M' ∧
        ((gp_k P f i ≠ 1 ∧ gp_k P f i ≠ 6 ∧ gp_k P f i ≠ 7) → i + 1 < gp_l P f → ∀ s, gb af s = true → gb (ml M' 14 (1600 * q + 200 * f + (i + 1))) s = true) ∧
        ∀ h', h' < gp_h P f → gp_a P f h' ≤ i → i < gp_b P f h' → (gp_k P f i = 3 ∨ gp_k P f i = 7 ∨ gp_k P f i = 8) → ∀ s, (gb here s = true ∨ (cf ≠ 0 ∧ gb (ml M 17 (8 * q + gp_n P f i)) s = true)) → gb (ml M' 14 (1600 * q + 200 * f + gp_g P f h')) s = true := fun hne => by
      obtain ⟨M', g1, g2, g3⟩ := b307 M hP
      exact ⟨M', g1, g2, fun a b => hne.elim (fun h => absurd a h) (fun h => absurd b h), g3⟩
    unfold gm_X6_goOn_258
    by_cases k1 : gp_k P f i = 1
    · rw [if_pos (by rw [k1]; rfl)]
      exact sk (by omega)
    · rw [if_neg (nI_nl 1 (x := 1) rfl (by omega) (by omega) k1)]
      by_cases k6 : gp_k P f i = 6
      · rw [if_pos (by rw [k6]; rfl)]
        exact sk (by omega)
      · rw [if_neg (nI_nl 6 (x := 6) rfl (by omega) (by omega) k6)]
        by_cases k7 : gp_k P f i = 7
        · rw [if_pos (by rw [k7]; rfl)]
          exact sk (by omega)
        · rw [if_neg (nI_nl 7 (x := 7) rfl (by omega) (by omega) k7)]
          simp only [gq_6, r1, Option.bind_some, hl, nI_1, nI_add]
          by_cases c1 : gp_l P f ≤ i + 1
          · rw [if_pos ((nI_leI (by omega) (by omega)).mpr c1)]
            exact sk (by omega)
          · have r4 : 1600 * q + 200 * f + (i + 1) < 3200 := by omega
            rw [if_neg (fun c => c1 ((nI_leI (by omega) (by omega)).mp c)), gx_ob6, show 1600 * q + 200 * f + i + 1 = 1600 * q + 200 * f + (i + 1) by omega, m_join14 r4, Option.bind_some]
            have j1 : jj q T P M (jn M 14 (1600 * q + 200 * f + (i + 1)) af) := jj_14 hq hw hf (by omega) fun _ s h => (rule.1 s (ha s h)).2.1 ⟨k1, k6, k7⟩ (by omega)
            obtain ⟨M', g1, g2, g3⟩ := b307 _ (j1.rP hP)
            refine ⟨M', g1, j1.tr g2, fun _ _ s h => g2.2.1 _ _ s (jn_in _ _ _ _ h), fun h' a1 a2 a3 a4 s a5 => g3 h' a1 a2 a3 a4 s ?_⟩
            exact a5.imp id fun a => ⟨a.1, j1.2.1 _ _ s a.2⟩
  -- 231
  have b231 : ∀ M : go_O, rm_P q P M → ∃ M', gm_X6_goOn_231 fu z (nI q) (nI i) (nI (8 * q + f)) (nI (1600 * q + 200 * f)) (nI (gp_k P f i)) (nI (gp_n P f i)) here cf af (go_k 6 z M X) = some (go_k 6 z M' X) ∧ jj q T P M M' ∧
      ((gp_k P f i = 1 ∨ gp_k P f i = 2) → ∀ s, gb af s = true → gb (ml M' 14 (1600 * q + 200 * f + gp_n P f i)) s = true) ∧
      ((gp_k P f i ≠ 1 ∧ gp_k P f i ≠ 6 ∧ gp_k P f i ≠ 7) → i + 1 < gp_l P f → ∀ s, gb af s = true → gb (ml M' 14 (1600 * q + 200 * f + (i + 1))) s = true) ∧
      ∀ h', h' < gp_h P f → gp_a P f h' ≤ i → i < gp_b P f h' → (gp_k P f i = 3 ∨ gp_k P f i = 7 ∨ gp_k P f i = 8) → ∀ s, (gb here s = true ∨ (cf ≠ 0 ∧ gb (ml M 17 (8 * q + gp_n P f i)) s = true)) → gb (ml M' 14 (1600 * q + 200 * f + gp_g P f h')) s = true := by
    intro M hP
    have yes : (gp_k P f i = 1 ∨ gp_k P f i = 2) → ∃ M', gm_X6_goOn_243 fu z (nI q) (nI i) (nI (8 * q + f)) (nI (1600 * q + 200 * f)) (nI (gp_k P f i)) (nI (gp_n P f i)) here cf af (go_k 6 z M X) = some (go_k 6 z M' X) ∧ jj q T P M M' ∧
      ((gp_k P f i = 1 ∨ gp_k P f i = 2) → ∀ s, gb af s = true → gb (ml M' 14 (1600 * q + 200 * f + gp_n P f i)) s = true) ∧
      ((gp_k P f i ≠ 1 ∧ gp_k P f i ≠ 6 ∧ gp_k P f i ≠ 7) → i + 1 < gp_l P f → ∀ s, gb af s = true → gb (ml M' 14 (1600 * q + 200 * f + (i + 1))) s = true) ∧
      ∀ h', h' < gp_h P f → gp_a P f h' ≤ i → i < gp_b P f h' → (gp_k P f i = 3 ∨ gp_k P f i = 7 ∨ gp_k P f i = 8) → ∀ s, (gb here s = true ∨ (cf ≠ 0 ∧ gb (ml M 17 (8 * q + gp_n P f i)) s = true)) → gb (ml M' 14 (1600 * q + 200 * f + gp_g P f h')) s = true := by
      intro k12
      have hnl := (hIw i hi).2.1 k12
      have r4 : 1600 * q + 200 * f + gp_n P f i < 3200 := by omega
      unfold gm_X6_goOn_243
      simp only [gq_6, Option.bind_some, nI_add, gx_ob6, m_join14 r4]
      have j1 : jj q T P M (jn M 14 (1600 * q + 200 * f + gp_n P f i) af) := jj_14 hq hw hf hnl fun _ s h => (rule.1 s (ha s h)).1 k12
      obtain ⟨M', g1, g2, g3, g4⟩ := b258 _ (j1.rP hP)
      exact ⟨M', g1, j1.tr g2, fun _ s h => g2.2.1 _ _ s (jn_in _ _ _ _ h), g3, fun h' a1 a2 a3 a4 s a5 => g4 h' a1 a2 a3 a4 s (a5.imp id fun a => ⟨a.1, j1.2.1 _ _ s a.2⟩)⟩
    unfold gm_X6_goOn_231
    by_cases k1 : gp_k P f i = 1
    · rw [if_pos (by rw [k1]; rfl)]
      exact yes (Or.inl k1)
    · rw [if_neg (nI_nl 1 (x := 1) rfl (by omega) (by omega) k1)]
      by_cases k2 : gp_k P f i = 2
      · rw [if_pos (by rw [k2]; rfl)]
        exact yes (Or.inr k2)
      · rw [if_neg (nI_nl 2 (x := 2) rfl (by omega) (by omega) k2)]
        obtain ⟨M', g1, g2, g3, g4⟩ := b258 M hP
        exact ⟨M', g1, g2, fun h => by omega, g3, g4⟩
  -- 212
  have b212 : ∀ M : go_O, rm_P q P M → ∃ M', gm_X6_goOn_212 fu z (nI q) (nI i) (nI (8 * q + f)) (nI (1600 * q + 200 * f)) (nI (gp_k P f i)) (nI (gp_n P f i)) here cf af (go_k 6 z M X) = some (go_k 6 z M' X) ∧ jj q T P M M' ∧
      (gp_k P f i = 6 → ∀ s, gb here s = true → gb (ml M' 16 (8 * q + f)) s = true) ∧ ((gp_k P f i = 1 ∨ gp_k P f i = 2) → ∀ s, gb af s = true → gb (ml M' 14 (1600 * q + 200 * f + gp_n P f i)) s = true) ∧
      ((gp_k P f i ≠ 1 ∧ gp_k P f i ≠ 6 ∧ gp_k P f i ≠ 7) → i + 1 < gp_l P f → ∀ s, gb af s = true → gb (ml M' 14 (1600 * q + 200 * f + (i + 1))) s = true) ∧
      ∀ h', h' < gp_h P f → gp_a P f h' ≤ i → i < gp_b P f h' → (gp_k P f i = 3 ∨ gp_k P f i = 7 ∨ gp_k P f i = 8) → ∀ s, (gb here s = true ∨ (cf ≠ 0 ∧ gb (ml M 17 (8 * q + gp_n P f i)) s = true)) → gb (ml M' 14 (1600 * q + 200 * f + gp_g P f h')) s = true := by
    intro M hP
    unfold gm_X6_goOn_212
    by_cases k6 : gp_k P f i = 6
    · rw [if_pos (by rw [k6]; rfl)]
      simp only [gq_6, Option.bind_some, gx_ob6, m_join16 r1]
      have j1 : jj q T P M (jn M 16 (8 * q + f) here) := jj_16 hq hw hf fun _ s h => (rule.2.1 s (hs s h)).2.1 k6
      obtain ⟨M', g1, g2, g3, g4, g5⟩ := b231 _ (j1.rP hP)
      exact ⟨M', g1, j1.tr g2, fun _ s h => g2.2.1 _ _ s (jn_in _ _ _ _ h), g3, g4, fun h' a1 a2 a3 a4 s a5 => g5 h' a1 a2 a3 a4 s (a5.imp id fun a => ⟨a.1, j1.2.1 _ _ s a.2⟩)⟩
    · rw [if_neg (nI_nl 6 (x := 6) rfl (by omega) (by omega) k6)]
      obtain ⟨M', g1, g2, g3⟩ := b231 M hP
      exact ⟨M', g1, g2, fun h => absurd h k6, g3⟩
  unfold gm_X6_goOn_153
  simp only [gq_6, Option.bind_some, gx_ob6, m_join17 r1]
  have j1 : jj q T P M (jn M 17 (8 * q + f) (here ||| af)) := jj_17 hq hw hf fun _ s h => by
    rw [gb_or] at h
    rcases Bool.or_eq_true_iff.mp h with h | h
    · exact (rule.2.1 s (hs s h)).1
    · exact (rule.1 s (ha s h)).2.2
  have in1 : ∀ s, (gb here s = true ∨ gb af s = true) → gb (ml (jn M 17 (8 * q + f) (here ||| af)) 17 (8 * q + f)) s = true := fun s h => jn_in _ _ _ _ (by
    rw [gb_or]
    exact Bool.or_eq_true_iff.mpr h)
  by_cases c0 : cf = 0
  · rw [if_pos c0]
    obtain ⟨M', g1, g2, g3, g4, g5, g6⟩ := b212 _ (j1.rP hP)
    exact ⟨M', g1, j1.tr g2, fun s h => g2.2.1 _ _ s (in1 s h), fun h => absurd c0 h, fun h => absurd c0 h, g3, g4, g5, fun h' a1 a2 a3 a4 s a5 => g6 h' a1 a2 a3 a4 s (a5.imp id fun a => absurd c0 a.1)⟩
  · obtain ⟨k3, hnc, u, hu⟩ := hcf c0
    have r5 : 8 * q + gp_n P f i < 16 := by omega
    rw [if_neg c0]
    simp only [gq_6, li8, pk_mul, nI_add, r5, Option.bind_some, gx_ob6, m_join15 r5, m_join17 r1]
    generalize hM1 : jn M 17 (8 * q + f) (here ||| af) = M1 at j1 in1 ⊢
    have j2 : jj q T P M1 (jn M1 15 (8 * q + gp_n P f i) here) := jj_15 hq hw hnc fun _ s h => (rule.2.1 s (hs s h)).2.2.1 k3 hnc
    have in2 : ∀ s, gb here s = true → gb (ml (jn M1 15 (8 * q + gp_n P f i) here) 15 (8 * q + gp_n P f i)) s = true := fun s h => jn_in _ _ _ _ h
    generalize hM2 : jn M1 15 (8 * q + gp_n P f i) here = M2 at j2 in2 ⊢
    have j3 : jj q T P M2 (jn M2 17 (8 * q + f) (ml M2 17 (8 * q + gp_n P f i))) := jj_17 hq hw hf fun hW s h => (rule.2.2 s u k3 (hs u hu) hnc (hW.2.2.2 _ s hnc h)).1
    have in3 : ∀ s, gb (ml M2 17 (8 * q + gp_n P f i)) s = true → gb (ml (jn M2 17 (8 * q + f) (ml M2 17 (8 * q + gp_n P f i))) 17 (8 * q + f)) s = true := fun s h => jn_in _ _ _ _ h
    obtain ⟨M', g1, g2, g3, g4, g5, g6⟩ := b212 _ (j3.rP (j2.rP (j1.rP hP)))
    refine ⟨M', g1, j1.tr (j2.tr (j3.tr g2)), fun s h => g2.2.1 _ _ s (j3.2.1 _ _ s (j2.2.1 _ _ s (in1 s h))), fun _ s h => g2.2.1 _ _ s (j3.2.1 _ _ s (in2 s h)), fun _ s h => g2.2.1 _ _ s (in3 s (j2.2.1 _ _ s (j1.2.1 _ _ s h))), g3, g4, g5, fun h' a1 a2 a3 a4 s a5 => g6 h' a1 a2 a3 a4 s (a5.imp id fun a => ⟨a.1, j3.2.1 _ _ s (j2.2.1 _ _ s (j1.2.1 _ _ s a.2))⟩)⟩
end MGo
