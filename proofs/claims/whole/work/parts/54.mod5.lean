/-! the reference: goOn, find -/
abbrev pm (q : Nat) (P : sP) (M : go_O) : Nat → Nat → Nat → Prop := gl_pm P (fun f i => ml M 14 (1600 * q + 200 * f + i))
abbrev pe (q : Nat) (P : sP) (M : go_O) : Nat → Nat → Prop := gl_pe P (fun f => ml M 15 (8 * q + f))
abbrev px (q : Nat) (P : sP) (M : go_O) : Nat → Nat → Prop := gl_pe P (fun f => ml M 16 (8 * q + f))
abbrev pa (q : Nat) (P : sP) (M : go_O) : Nat → Nat → Prop := gl_pe P (fun f => ml M 17 (8 * q + f))
theorem jw_m {q : Nat} {T : sT} {P : sP} {M : go_O} (h : jw q T P M) {f i s : Nat} (hp : pm q P M f i s) : gl_m T P f i s := h.1 f i s hp.1 hp.2.1 hp.2.2
theorem jw_e {q : Nat} {T : sT} {P : sP} {M : go_O} (h : jw q T P M) {f s : Nat} (hp : pe q P M f s) : gl_e T P f s := h.2.1 f s hp.1 hp.2
theorem jw_x {q : Nat} {T : sT} {P : sP} {M : go_O} (h : jw q T P M) {f s : Nat} (hp : px q P M f s) : gl_x T P f s := h.2.2.1 f s hp.1 hp.2
theorem jw_a {q : Nat} {T : sT} {P : sP} {M : go_O} (h : jw q T P M) {f s : Nat} (hp : pa q P M f s) : gl_a T P f s := h.2.2.2 f s hp.1 hp.2
section MG
variable {fu z q f i : Nat} {T : sT} {P : sP} {X : gx_H} {M : go_O}
set_option maxHeartbeats 2000000 in
theorem m_goOn (hq : q < 2) (hw : gp_wf P) (hTw : gs_wf T) (hf : f < gp_c P) (hi : i < gp_l P f) (hfu : 300 ≤ fu) (hT : rm_T T M) (hP : rm_P q P M) (hW : jw q T P M) :
    ∃ M' af cf, gm_X6_goOn fu z (nI q) (nI f) (nI i) (go_k 6 z M X) = some (go_k 6 z M' X) ∧ jj q T P M M' ∧ gpost q P f i (ml M 14 (1600 * q + 200 * f + i)) af cf M M' ∧ (∀ s, gb af s = true ↔ gp_after T P (pm q P M) (px q P M) f i s) ∧ (cf ≠ 0 ↔ (gp_k P f i = 3 ∧ gp_n P f i < gp_c P ∧ ∃ u, gb (ml M 14 (1600 * q + 200 * f + i)) u = true)) := by
  obtain ⟨hl, hh, hI, -⟩ := hP.2 f hf
  obtain ⟨⟨-, hl2⟩, h6, hIw, -⟩ := hw.2 f hf
  have hc := hw.1
  have r1 : 8 * q + f < 16 := by omega
  have r2 : 1600 * q + 200 * f + i < 3200 := by omega
  obtain ⟨hk, hn2⟩ := hI i hi
  have hk8 := (hIw i hi).1
  have hnb := gp_nb hw hf hi
  have hs : ∀ s, gb (ml M 14 (1600 * q + 200 * f + i)) s = true → gl_m T P f i s := fun s h => hW.1 f i s hf hi h
  have pmI : ∀ u, pm q P M f i u ↔ gb (ml M 14 (1600 * q + 200 * f + i)) u = true := fun u => ⟨fun h => h.2.2, fun h => ⟨hf, hi, h⟩⟩
  have afs : ∀ af : Int64, (∀ s, gb af s = true ↔ gp_after T P (pm q P M) (px q P M) f i s) → ∀ s, gb af s = true → gp_after T P (gl_m T P) (gl_x T P) f i s := fun af h s hs => gp_after_mono (fun s h => jw_m hW h) (fun g s h => jw_x hW h) ((h s).mp hs)
  -- from 83 on, by the flag
  have b83 : ∀ cf : Int32, (cf ≠ 0 ↔ (gp_k P f i = 3 ∧ gp_n P f i < gp_c P ∧ ∃ u, gb (ml M 14 (1600 * q + 200 * f + i)) u = true)) →
      ∃ M' af cf', gm_X6_goOn_83 fu z (nI q) (nI f) (nI i) (nI (8 * q + f)) (nI (1600 * q + 200 * f)) (nI (gp_k P f i)) (nI (gp_n P f i)) (ml M 14 (1600 * q + 200 * f + i)) cf (go_k 6 z M X) = some (go_k 6 z M' X) ∧ jj q T P M M' ∧ gpost q P f i (ml M 14 (1600 * q + 200 * f + i)) af cf' M M' ∧ (∀ s, gb af s = true ↔ gp_after T P (pm q P M) (px q P M) f i s) ∧ (cf' ≠ 0 ↔ (gp_k P f i = 3 ∧ gp_n P f i < gp_c P ∧ ∃ u, gb (ml M 14 (1600 * q + 200 * f + i)) u = true)) := by
    intro cf hcf
    have go : ∀ af : Int64, (∀ s, gb af s = true ↔ gp_after T P (pm q P M) (px q P M) f i s) → ∃ M' af' cf', gm_X6_goOn_153 fu z (nI q) (nI i) (nI (8 * q + f)) (nI (1600 * q + 200 * f)) (nI (gp_k P f i)) (nI (gp_n P f i)) (ml M 14 (1600 * q + 200 * f + i)) cf af (go_k 6 z M X) = some (go_k 6 z M' X) ∧ jj q T P M M' ∧ gpost q P f i (ml M 14 (1600 * q + 200 * f + i)) af' cf' M M' ∧ (∀ s, gb af' s = true ↔ gp_after T P (pm q P M) (px q P M) f i s) ∧ (cf' ≠ 0 ↔ (gp_k P f i = 3 ∧ gp_n P f i < gp_c P ∧ ∃ u, gb (ml M 14 (1600 * q + 200 * f + i)) u = true)) := by
      intro af haf
      obtain ⟨M', g1, g2, g3⟩ := m_go153 (fu := fu) (z := z) (X := X) hq hw hf hi hfu hs hcf.mp (afs af haf) M hP
      exact ⟨M', af, cf, g1, g2, g3, haf, hcf⟩
    unfold gm_X6_goOn_83
    by_cases k3 : gp_k P f i = 3
    · rw [if_pos (by rw [k3]; rfl)]
      unfold gm_X6_goOn_116
      by_cases c0 : cf = 0
      · rw [if_pos c0]
        refine go 0 fun s => ?_
        rw [gb_0]
        refine ⟨fun h => (by cases h), fun h => ?_⟩
        rcases h with ⟨-, ⟨u, h2⟩, h3, -⟩ | ⟨h1, -⟩ | ⟨h1, -⟩
        · exact absurd c0 (hcf.mpr ⟨k3, h3, u, (pmI u).mp h2⟩)
        · omega
        · exact absurd k3 h1
      · obtain ⟨-, hnc, u, hu⟩ := hcf.mp c0
        have r5 : 8 * q + gp_n P f i < 16 := by omega
        rw [if_neg c0]
        simp only [gq_6, li8, pk_mul, nI_add, r5, Option.bind_some]
        refine go _ fun s => ⟨fun h => Or.inl ⟨k3, ⟨u, (pmI u).mpr hu⟩, hnc, hnc, h⟩, fun h => ?_⟩
        rcases h with ⟨-, -, -, h4⟩ | ⟨h1, -⟩ | ⟨h1, -⟩
        · exact h4.2
        · omega
        · exact absurd k3 h1
    · rw [if_neg (nI_nl 3 (x := 3) rfl (by omega) (by omega) k3)]
      have led : gp_n P f i < 16 → (gp_k P f i = 5 ∨ (gp_k P f i = 4 ∧ ¬ gp_gd P f i)) → ∃ M' af' cf', gm_X6_goOn_143 fu z (nI q) (nI i) (nI (8 * q + f)) (nI (1600 * q + 200 * f)) (nI (gp_k P f i)) (nI (gp_n P f i)) (ml M 14 (1600 * q + 200 * f + i)) cf (go_k 6 z M X) = some (go_k 6 z M' X) ∧ jj q T P M M' ∧ gpost q P f i (ml M 14 (1600 * q + 200 * f + i)) af' cf' M M' ∧ (∀ s, gb af' s = true ↔ gp_after T P (pm q P M) (px q P M) f i s) ∧ (cf' ≠ 0 ↔ (gp_k P f i = 3 ∧ gp_n P f i < gp_c P ∧ ∃ u, gb (ml M 14 (1600 * q + 200 * f + i)) u = true)) := by
        intro hn16 hk45
        unfold gm_X6_goOn_143
        obtain ⟨r, h1, h2⟩ := m_led (fu := fu) (z := z) (X := X) (y := ml M 14 (1600 * q + 200 * f + i)) hT hTw hn16 (by omega)
        rw [gx_ob6, h1, gx_b2s]
        refine go r fun s => ?_
        rw [h2]
        constructor
        · exact fun h => Or.inr (Or.inl ⟨hk45, gs_led_mono (fun u hu => (pmI u).mpr hu) h⟩)
        · rintro (⟨h1, -⟩ | ⟨-, h⟩ | ⟨h1, h2, h3, -⟩)
          · exact absurd h1 k3
          · exact gs_led_mono (fun u hu => (pmI u).mp hu) h
          · rcases hk45 with h | ⟨h, h'⟩
            · exact absurd h h2
            · exact absurd (h3 h) h'
      have self : gp_k P f i ≠ 5 → (gp_k P f i = 4 → gp_gd P f i) → ∃ M' af' cf', gm_X6_goOn_153 fu z (nI q) (nI i) (nI (8 * q + f)) (nI (1600 * q + 200 * f)) (nI (gp_k P f i)) (nI (gp_n P f i)) (ml M 14 (1600 * q + 200 * f + i)) cf (ml M 14 (1600 * q + 200 * f + i)) (go_k 6 z M X) = some (go_k 6 z M' X) ∧ jj q T P M M' ∧ gpost q P f i (ml M 14 (1600 * q + 200 * f + i)) af' cf' M M' ∧ (∀ s, gb af' s = true ↔ gp_after T P (pm q P M) (px q P M) f i s) ∧ (cf' ≠ 0 ↔ (gp_k P f i = 3 ∧ gp_n P f i < gp_c P ∧ ∃ u, gb (ml M 14 (1600 * q + 200 * f + i)) u = true)) := by
        intro k5 k4
        refine go _ fun s => ⟨fun h => Or.inr (Or.inr ⟨k3, k5, k4, (pmI s).mpr h⟩), ?_⟩
        rintro (⟨h1, -⟩ | ⟨h1, -⟩ | ⟨-, -, -, h⟩)
        · exact absurd h1 k3
        · rcases h1 with h | ⟨h, h'⟩
          · exact absurd h k5
          · exact absurd (k4 h) h'
        · exact (pmI s).mp h
      by_cases k5 : gp_k P f i = 5
      · rw [if_pos (by rw [k5]; rfl)]
        exact led ((hIw i hi).2.2.2.1 (Or.inr k5)) (Or.inl k5)
      · rw [if_neg (nI_nl 5 (x := 5) rfl (by omega) (by omega) k5)]
        by_cases k4 : gp_k P f i = 4
        · rw [if_pos (by rw [k4]; rfl), gx_ob6, m_isGuarded hq hP hw hf hi hfu, gx_b2s]
          by_cases hg : gp_gd P f i
          · rw [gz_t hg, if_neg (by decide)]
            exact self k5 fun _ => hg
          · rw [gz_f hg, if_pos rfl]
            exact led ((hIw i hi).2.2.2.1 (Or.inl k4)) (Or.inr ⟨k4, hg⟩)
        · rw [if_neg (nI_nl 4 (x := 4) rfl (by omega) (by omega) k4)]
          exact self k5 fun h => absurd h k4
  have b82 : (¬ (gp_k P f i = 3 ∧ gp_n P f i < gp_c P ∧ ∃ u, gb (ml M 14 (1600 * q + 200 * f + i)) u = true)) → _ := fun hne => b83 0 ⟨fun h => absurd rfl h, fun h => absurd h hne⟩
  have hq2 : q < 2 := hq
  unfold gm_X6_goOn
  simp only [gq_6, li1600, li200, li8, pk_mul, nI_add, r2, Option.bind_some, hk, hn2]
  by_cases k3 : gp_k P f i = 3
  · rw [if_pos (by rw [k3]; rfl)]
    simp only [gq_6, hq2, Option.bind_some, hP.1]
    by_cases c1 : gp_c P ≤ gp_n P f i
    · rw [if_pos ((nI_leI (by omega) (by omega)).mpr c1)]
      unfold gm_X6_goOn_82
      exact b82 fun h => by omega
    · rw [if_neg (fun c => c1 ((nI_leI (by omega) (by omega)).mp c))]
      by_cases c2 : ml M 14 (1600 * q + 200 * f + i) = 0
      · rw [if_pos (gb_cmp.mpr c2)]
        unfold gm_X6_goOn_82
        refine b82 fun ⟨_, _, u, hu⟩ => ?_
        rw [c2, gb_0] at hu
        cases hu
      · rw [if_neg (fun c => c2 (gb_cmp.mp c))]
        exact b83 1 ⟨fun _ => ⟨k3, by omega, gb_nz.mp c2⟩, fun _ => by decide⟩
  · rw [if_neg (nI_nl 3 (x := 3) rfl (by omega) (by omega) k3)]
    unfold gm_X6_goOn_82
    exact b82 fun h => k3 h.1
/-- where nothing came, one INSTRUCTION's share holds -/
theorem m_rule {af : Int64} {cf : Int32} (hf : f < gp_c P) (hi : i < gp_l P f) (hw : gp_wf P) (h1 : gpost q P f i (ml M 14 (1600 * q + 200 * f + i)) af cf M M) (h2 : ∀ s, gb af s = true ↔ gp_after T P (pm q P M) (px q P M) f i s) (h3 : cf ≠ 0 ↔ (gp_k P f i = 3 ∧ gp_n P f i < gp_c P ∧ ∃ u, gb (ml M 14 (1600 * q + 200 * f + i)) u = true)) : gp_rule T P (pm q P M) (pe q P M) (px q P M) (pa q P M) f i := by
  obtain ⟨a1, a2, a3, a4, a5, a6, a7⟩ := h1
  obtain ⟨-, -, hIw, hHw⟩ := hw.2 f hf
  refine ⟨fun s hs => ⟨fun hk => ⟨hf, (hIw i hi).2.1 hk, a5 hk s ((h2 s).mpr hs)⟩, fun hk hl => ⟨hf, hl, a6 hk hl s ((h2 s).mpr hs)⟩, ⟨hf, a1 s (Or.inr ((h2 s).mpr hs))⟩⟩, fun s hs => ⟨⟨hf, a1 s (Or.inl hs.2.2)⟩, fun hk => ⟨hf, a4 hk s hs.2.2⟩, fun hk hn => ⟨hn, a2 (h3.mpr ⟨hk, hn, s, hs.2.2⟩) s hs.2.2⟩, fun hk h hh b1 b2 => ⟨hf, (hHw h hh).2.2, a7 h hh b1 b2 hk s (Or.inl hs.2.2)⟩⟩, fun s u hk hu hn ha => ?_⟩
  have hcf := h3.mpr ⟨hk, hn, u, hu.2.2⟩
  exact ⟨⟨hf, a3 hcf s ha.2⟩, fun h hh b1 b2 => ⟨hf, (hHw h hh).2.2, a7 h hh b1 b2 (Or.inl hk) s (Or.inr ⟨hcf, ha.2⟩)⟩⟩
theorem jj.back {M' M'' : go_O} (h1 : jj q T P M M') (h2 : jj q T P M' M'') (e : M'' = M) : M' = M := by
  rcases h1.2.2.2.1 with h | ⟨-, h⟩
  · exact h
  · rcases h2.2.2.2.1 with h' | ⟨-, h'⟩
    · rw [← h', e]
    · rw [e] at h'
      omega
set_option maxHeartbeats 2000000 in
theorem m_find174 (hq : q < 2) (hw : gp_wf P) (hTw : gs_wf T) (hf : f < gp_c P) (hfu : 300 ≤ fu) (K118 : Nat → Int32 → gx_H → Option gx_H) (K132 : Nat → Int32 → Int32 → gx_H → Option gx_H) : ∀ (d n i : Nat) (M : go_O), rm_T T M → rm_P q P M → jw q T P M → i + d = gp_l P f → d < n →
    ∃ M', gm_X6_find_174 fu K118 K132 n z (nI q) (nI f) (nI i) (go_k 6 z M X) = K132 z (nI q) (nI (f + 1)) (go_k 6 z M' X) ∧ jj q T P M M' ∧ (M' = M → ∀ j, i ≤ j → j < gp_l P f → gp_rule T P (pm q P M) (pe q P M) (px q P M) (pa q P M) f j)
  | d, 0, i, M, _, _, _, _, hn => absurd hn (Nat.not_lt_zero _)
  | d, n + 1, i, M, hT, hP, hW, hd, hn => by
    obtain ⟨hl, -⟩ := hP.2 f hf
    obtain ⟨⟨-, hl2⟩, -⟩ := hw.2 f hf
    have hc := hw.1
    have r1 : 8 * q + f < 16 := by omega
    rw [gm_X6_find_174]
    simp only [gq_6, li8, pk_mul, nI_add, r1, Option.bind_some, hl]
    by_cases e : d = 0
    · rw [if_pos ((nI_leI (by omega) (by omega)).mpr (by omega)), nI_1]
      exact ⟨M, rfl, jj.rf, fun _ j h1 h2 => by omega⟩
    · rw [if_neg (fun c => absurd ((nI_leI (by omega) (by omega)).mp c) (by omega)), gx_ob6]
      obtain ⟨M1, af, cf, g1, g2, g3, g4, g5⟩ := m_goOn (fu := fu) (z := z) (X := X) (i := i) hq hw hTw hf (by omega) hfu hT hP hW
      rw [g1, Option.bind_some, nI_1]
      obtain ⟨M', k1, k2, k3⟩ := m_find174 hq hw hTw hf hfu K118 K132 (d - 1) n (i + 1) M1 (g2.rT hT) (g2.rP hP) (g2.2.2.1 hW) (by omega) (by omega)
      refine ⟨M', k1, g2.tr k2, fun e2 j h1 h2 => ?_⟩
      have e1 := g2.back k2 e2
      subst e1
      by_cases e3 : j = i
      · subst e3
        exact m_rule hf h2 hw g3 g4 g5
      · exact k3 e2 j (by omega) h2
set_option maxHeartbeats 2000000 in
theorem m_find132 (hq : q < 2) (hw : gp_wf P) (hTw : gs_wf T) (hfu : 300 ≤ fu) (K118 : Nat → Int32 → gx_H → Option gx_H) : ∀ (d n f : Nat) (M : go_O), rm_T T M → rm_P q P M → jw q T P M → f + d = gp_c P → d < n →
    ∃ M', gm_X6_find_132 fu K118 n z (nI q) (nI f) (go_k 6 z M X) = K118 z (nI q) (go_k 6 z M' X) ∧ jj q T P M M' ∧ (M' = M → ∀ g, f ≤ g → g < gp_c P → (∀ s, pe q P M g s → pm q P M g 0 s) ∧ ∀ j, j < gp_l P g → gp_rule T P (pm q P M) (pe q P M) (px q P M) (pa q P M) g j)
  | d, 0, f, M, _, _, _, _, hn => absurd hn (Nat.not_lt_zero _)
  | d, n + 1, f, M, hT, hP, hW, hd, hn => by
    have hc := hw.1
    rw [gm_X6_find_132]
    simp only [gq_6, hq, Option.bind_some, hP.1]
    by_cases e : d = 0
    · rw [if_pos ((nI_leI (by omega) (by omega)).mpr (by omega))]
      exact ⟨M, rfl, jj.rf, fun _ g h1 h2 => by omega⟩
    · rw [if_neg (fun c => absurd ((nI_leI (by omega) (by omega)).mp c) (by omega))]
      have hf : f < gp_c P := by omega
      obtain ⟨⟨hl1, hl2⟩, -⟩ := hw.2 f hf
      have r1 : 8 * q + f < 16 := by omega
      have r2 : 1600 * q + 200 * f < 3200 := by omega
      simp only [gq_6, li8, li1600, li200, pk_mul, nI_add, r1, Option.bind_some, gx_ob6, m_join14 r2]
      have j1 : jj q T P M (jn M 14 (1600 * q + 200 * f + 0) (ml M 15 (8 * q + f))) := jj_14 hq hw hf (by omega) fun _ s h => (gl_cl T P).2.1 f hf s (hW.2.1 f s hf h)
      rw [Nat.add_zero] at j1
      have in1 : ∀ s, gb (ml M 15 (8 * q + f)) s = true → gb (ml (jn M 14 (1600 * q + 200 * f) (ml M 15 (8 * q + f))) 14 (1600 * q + 200 * f)) s = true := fun s h => jn_in _ _ _ _ h
      generalize jn M 14 (1600 * q + 200 * f) (ml M 15 (8 * q + f)) = M1 at j1 in1 ⊢
      obtain ⟨M2, g1, g2, g3⟩ := m_find174 (fu := fu) (z := z) (X := X) hq hw hTw hf hfu K118 (gm_X6_find_132 fu K118 n) (gp_l P f) fu 0 M1 (j1.rT hT) (j1.rP hP) (j1.2.2.1 hW) (by omega) (by omega)
      rw [show (0 : Int32) = nI 0 from rfl, g1]
      have j2 := j1.tr g2
      obtain ⟨M', k1, k2, k3⟩ := m_find132 hq hw hTw hfu K118 (d - 1) n (f + 1) M2 (j2.rT hT) (j2.rP hP) (j2.2.2.1 hW) (by omega) (by omega)
      refine ⟨M', k1, j2.tr k2, fun e2 g h1 h2 => ?_⟩
      have e3 := j2.back k2 e2
      have e1 := j1.back g2 e3
      subst e1
      by_cases e4 : g = f
      · subst e4
        refine ⟨fun s hs => ⟨h2, by omega, ?_⟩, fun j hj => g3 e3 j (by omega) hj⟩
        have := in1 s hs.2
        simpa using this
      · subst e3
        exact k3 e2 g (by omega) h2
set_option maxHeartbeats 2000000 in
theorem m_find118 (hq : q < 2) (hw : gp_wf P) (hTw : gs_wf T) (hfu : 300 ≤ fu) : ∀ (n jM : Nat) (M : go_O), rm_T T M → rm_P q P M → jw q T P M → M.1 18 = 1 → jm M = jM → jM + 1 < n → (0 < gp_c P → gb (ml M 15 (8 * q)) 0 = true) →
    ∃ M', gm_X6_find_118 fu n z (nI q) (go_k 6 z M X) = some (go_k 6 z M' X) ∧ ((∀ k i, mi M' k i = mi M k i) ∧ (∀ j, j ≠ 18 → M'.1 j = M.1 j) ∧ ∀ k i, (k = 14 → i < 1600 * q ∨ 1600 * q + 1600 ≤ i) → (k ≠ 14 → i < 8 * q ∨ 8 * q + 8 ≤ i) → ml M' k i = ml M k i) ∧ jw q T P M' ∧ gp_cl T P (pm q P M') (pe q P M') (px q P M') (pa q P M') := by
  intro n0
  induction n0 with
  | zero =>
    intro jM M _ _ _ _ _ hn _
    exact absurd hn (Nat.not_lt_zero _)
  | succ n1 ih =>
    intro jM M hT hP hW h18 hj hn h0
    have hc := hw.1
    obtain ⟨n, rfl⟩ : ∃ n, n1 = n + 1 := ⟨n1 - 1, by omega⟩
    rw [gm_X6_find_118]
    simp only [gq_6, Option.bind_some, h18]
    rw [if_neg (by decide)]
    have e0 : (∀ k i, mi (go_si M 18 0) k i = mi M k i) ∧ (∀ j, j ≠ 18 → (go_si M 18 0).1 j = M.1 j) ∧ ∀ k i, ml (go_si M 18 0) k i = ml M k i := ⟨fun _ _ => rfl, fun j hj => by show go_u M.1 18 0 j = _; rw [go_u_n hj], fun _ _ => rfl⟩
    have f0 : (go_si M 18 0).1 18 = 0 := by
      show go_u M.1 18 0 18 = 0
      rw [go_u_s]
    have T0 : rm_T T (go_si M 18 0) := by
      unfold rm_T at hT ⊢
      rw [e0.2.1 1 (by omega)]
      exact hT
    have P0 : rm_P q P (go_si M 18 0) := hP
    have W0 : jw q T P (go_si M 18 0) := hW
    have jm0 : jm (go_si M 18 0) = jm M := rfl
    obtain ⟨M1, g1, g2, g3⟩ := m_find132 (fu := fu) (z := z) (X := X) hq hw hTw hfu (gm_X6_find_118 fu (n + 1)) (gp_c P) fu 0 (go_si M 18 0) T0 P0 W0 (by omega) (by omega)
    rw [show (0 : Int32) = nI 0 from rfl] at g1 ⊢
    rw [g1]
    have same : ∀ M' : go_O, ((∀ k i, mi M' k i = mi M1 k i) ∧ (∀ j, j ≠ 18 → M'.1 j = M1.1 j) ∧ ∀ k i, (k = 14 → i < 1600 * q ∨ 1600 * q + 1600 ≤ i) → (k ≠ 14 → i < 8 * q ∨ 8 * q + 8 ≤ i) → ml M' k i = ml M1 k i) → ((∀ k i, mi M' k i = mi M k i) ∧ (∀ j, j ≠ 18 → M'.1 j = M.1 j) ∧ ∀ k i, (k = 14 → i < 1600 * q ∨ 1600 * q + 1600 ≤ i) → (k ≠ 14 → i < 8 * q ∨ 8 * q + 8 ≤ i) → ml M' k i = ml M k i) := fun M' ⟨a, b, c⟩ => ⟨fun k i => (a k i).trans (g2.1.1 k i), fun j hj => (b j hj).trans ((g2.1.2 j hj).trans (e0.2.1 j hj)), fun k i h1 h2 => (c k i h1 h2).trans (g2.2.2.2.2 k i h1 h2)⟩
    rcases g2.2.2.2.1 with e1 | ⟨e1, e2⟩
    · rw [e1]
      refine ⟨go_si M 18 0, ?_, ⟨e0.1, e0.2.1, fun k i _ _ => rfl⟩, W0, fun hpos => ⟨hpos, h0 hpos⟩, fun f hf s hs => (g3 e1 f (by omega) hf).1 s hs, fun f hf i hi => (g3 e1 f (by omega) hf).2 i hi⟩
      rw [gm_X6_find_118]
      simp only [gq_6, Option.bind_some]
      rw [if_pos f0]
    · obtain ⟨M', k1, k2, k3⟩ := ih (jm M1) M1 (g2.rT T0) (g2.rP P0) (g2.2.2.1 W0) e1 rfl (by rw [jm0, hj] at e2; omega) (fun h => g2.2.1 _ _ _ (h0 h))
      exact ⟨M', k1, same M' k2, k3⟩
end MG
