/-! the model: forge -/
/-- what the model must have in front while it forges -/
def fs (T : sT) (P : sP) (M : go_O) : Prop := rm_T T M ∧ rm_P 0 P M ∧ mf 0 T P M
/-- what is in front is as it was -/
def fr0 (M M' : go_O) : Prop := M'.1 1 = M.1 1 ∧ (∀ a j, (a = 2 ∨ a = 3 ∨ (a = 4 ∧ j = 0) ∨ ((a = 5 ∨ a = 6) ∧ j < 8) ∨ ((a = 7 ∨ a = 8) ∧ j < 1600) ∨ ((a = 9 ∨ a = 10 ∨ a = 11) ∧ j < 48) ∨ (a = 13 ∧ j = 0)) → mi M' a j = mi M a j) ∧ ∀ k j, ml M' k j = ml M k j
/-- what one FUNCTION's weaving may change -/
def wfr (f : Nat) (M M' : go_O) : Prop := (∀ j, j ≠ 18 → M'.1 j = M.1 j) ∧ ∀ a j, (a ≠ 13 ∨ j ≠ 0) → a ≠ 19 → ¬ ((a = 5 ∨ a = 6) ∧ j = 8 + f) → ¬ ((a = 7 ∨ a = 8) ∧ 1600 + 200 * f ≤ j ∧ j < 1600 + 200 * f + 200) → ¬ ((a = 9 ∨ a = 10 ∨ a = 11) ∧ 48 + 6 * f ≤ j ∧ j < 48 + 6 * f + 6) → mi M' a j = mi M a j
section MF
variable {fu z : Nat} {T : sT} {P P1 : sP} {fg : Prop} {M M' M'' : go_O} {X : gx_H} {f : Nat}
theorem fs.fr (h : fs T P M) (hw : gp_wf P) (hr : fr0 M M') : fs T P M' := by
  obtain ⟨h1, h2, h3⟩ := h
  obtain ⟨r1, r2, r3⟩ := hr
  have hc := hw.1
  refine ⟨rmT_fr r1 (fun a j ha => r2 a j (by omega)) h1, rmP_fr (r2 4 0 (by omega)) (fun a j ha _ _ => r2 a j (by omega)) (fun a j ha _ _ => r2 a j (by omega)) (fun a j ha _ _ => r2 a j (by omega)) hw h2, ?_⟩
  rcases h3 with h | ⟨h, h'⟩
  · exact Or.inl ((r2 13 0 (by omega)).trans h)
  · refine Or.inr ⟨(r2 13 0 (by omega)).trans h, ?_⟩
    unfold rm_L at h' ⊢
    simp only [r3]
    exact h'
theorem fs.rf (h : fs T P M) (hr : rf 0 M M') (hm : mf 0 T P M') : fs T P M' := ⟨hr.rT h.1, hr.rP h.2.1, hm⟩
theorem wfr_rf : wfr f M M := ⟨fun _ _ => rfl, fun _ _ _ _ _ _ _ => rfl⟩
theorem wfr.tr (h : wfr f M M') (h' : wfr f M' M'') : wfr f M M'' := ⟨fun j q => (h'.1 j q).trans (h.1 j q), fun a j q1 q2 q3 q4 q5 => (h'.2 a j q1 q2 q3 q4 q5).trans (h.2 a j q1 q2 q3 q4 q5)⟩
theorem wfr_of (h : rf 0 M M') : wfr f M M' := ⟨h.2.1, fun a j q1 _ _ _ _ => h.1 a j q1⟩
theorem m_lack4 (hw : gp_wf P) (hTw : gs_wf T) (hfu : 300000 ≤ fu) (hf : f < gp_c P) : ∀ (d n i : Nat) (M : go_O), fs T P M → i + d = gp_l P f → d < n →
    ∃ M', gm_X6_lacking_4 fu n z (nI f) (nI (gn_s (lk T P f) i)) (nI i) (go_k 6 z M X) = some (nI (lkn T P f), go_k 6 z M' X) ∧ rf 0 M M' ∧ fs T P M'
  | d, 0, i, M, _, _, hn => absurd hn (Nat.not_lt_zero _)
  | d, n + 1, i, M, hF, hd, hn => by
    have hc := hw.1
    have l2 := (hw.2 f hf).1.2
    have b1 := (hF.2.1.2 f hf).1
    rw [show 8 * 0 + f = f by omega] at b1
    have r1 : f < 16 := by omega
    rw [gm_X6_lacking_4]
    simp only [gq_6, r1, Option.bind_some, b1]
    by_cases e0 : d = 0
    · rw [if_pos ((nI_leI (by omega) (by omega)).mpr (by omega)), show i = gp_l P f by omega]
      exact ⟨M, rfl, rf_rf, hF⟩
    · rw [if_neg (fun q => absurd ((nI_leI (by omega) (by omega)).mp q) (by omega)), gx_ob6]
      obtain ⟨M', g1, g2, g3⟩ := m_lacks (fu := fu) (z := z) (X := X) (q := 0) (by omega) hw hTw hfu hF.1 hF.2.1 hF.2.2 hf (show i < gp_l P f by omega)
      rw [show gm_X6_lacks fu z 0 (nI f) (nI i) (go_k 6 z M X) = _ from g1, gx_b2s]
      obtain ⟨M'', k1, k2, k3⟩ := m_lack4 hw hTw hfu hf (d - 1) n (i + 1) M' (hF.rf g2 g3) (by omega) (by omega)
      unfold gm_X6_lacking_30
      rw [show nI i + 1 = nI (i + 1) from (nI_succ i).symm]
      rw [gn_ss] at k1
      refine ⟨M'', ?_, g2.tr k2, k3⟩
      by_cases g : gp_lack T P f i
      · rw [gz_t g, if_neg (by decide), li1, nI_add]
        rw [lk_t g] at k1
        exact k1
      · rw [gz_f g, if_pos rfl, li0, nI_add]
        rw [lk_f g] at k1
        exact k1
theorem lkn_le (hw : gp_wf P) (hf : f < gp_c P) : lkn T P f ≤ 200 := by
  have l2 := (hw.2 f hf).1.2
  have := gn_bd (f := lk T P f) (c := 1) (gp_l P f) (fun i _ => lk_le i)
  unfold lkn
  omega
theorem m_f14 (hw : gp_wf P) (hTw : gs_wf T) (hfu : 300000 ≤ fu) : ∀ (d n f : Nat) (M : go_O), fs T P M → f + d = gp_c P → d < n → (∀ g, g < f → gp_l P g + lkn T P g ≤ 200) →
    ∃ M', rf 0 M M' ∧ fs T P M' ∧ ((fit T P ∧ gm_X6_forge_14 fu n z (nI (gn_s (lkn T P) f)) (nI f) (go_k 6 z M X) = gm_X6_forge_78 fu fu z (nI (gn_s (lkn T P) (gp_c P))) (nI 0) (go_k 6 z (go_ai (go_ai M' 4 1 (nI (gp_c P))) 13 1 0) X)) ∨ (¬ fit T P ∧ gm_X6_forge_14 fu n z (nI (gn_s (lkn T P) f)) (nI f) (go_k 6 z M X) = some (-2, go_k 6 z M' X)))
  | d, 0, f, M, _, _, hn, _ => absurd hn (Nat.not_lt_zero _)
  | d, n + 1, f, M, hF, hd, hn, hb => by
    have hc := hw.1
    have r0 : 0 < 2 := by omega
    have r1 : 1 < 2 := by omega
    have e4 : M.2.2.2.1 4 0 = nI (gp_c P) := hF.2.1.1
    rw [gm_X6_forge_14, li0, li1]
    simp only [gq_6, r0, r1, Option.bind_some, e4, narI0]
    by_cases e0 : d = 0
    · rw [if_pos ((nI_leI (by omega) (by omega)).mpr (by omega)), show f = gp_c P by omega]
      exact ⟨M, rf_rf, hF, Or.inl ⟨fun g hg => hb g (by omega), rfl⟩⟩
    · rw [if_neg (fun q => absurd ((nI_leI (by omega) (by omega)).mp q) (by omega)), gx_ob6]
      have hf : f < gp_c P := by omega
      have l2 := (hw.2 f hf).1.2
      have n2 := lkn_le (T := T) hw hf
      obtain ⟨M', g1, g2, g3⟩ := m_lack4 (fu := fu) (z := z) (X := X) hw hTw hfu hf (gp_l P f) fu 0 M hF (by omega) (by omega)
      unfold gm_X6_lacking
      rw [show gm_X6_lacking_4 fu fu z (nI f) 0 0 (go_k 6 z M X) = _ from g1, gx_b2s]
      have b1 := (g3.2.1.2 f hf).1
      rw [show 8 * 0 + f = f by omega] at b1
      have r2 : f < 16 := by omega
      simp only [gq_6, r2, Option.bind_some, b1]
      rw [li200, nI_add]
      by_cases c : gp_l P f + lkn T P f ≤ 200
      · rw [if_pos ((nI_leI (by omega) (by omega)).mpr c), nI_add, show nI f + nI 1 = nI (f + 1) from nI_add f 1]
        obtain ⟨M'', k1, k2, k3⟩ := m_f14 hw hTw hfu (d - 1) n (f + 1) M' g3 (by omega) (by omega) (fun g hg => by
          by_cases e : g = f
          · subst e
            exact c
          · exact hb g (by omega))
        rw [gn_ss] at k3
        exact ⟨M'', g2.tr k1, k2, k3⟩
      · rw [if_neg (fun q => c ((nI_leI (by omega) (by omega)).mp q))]
        exact ⟨M', g2, g3, Or.inr ⟨fun h => c (h f hf), rfl⟩⟩
/-- the places are written down -/
def pls (T : sT) (P : sP) (f : Nat) (M : go_O) : Prop := ∀ j, j ≤ gp_l P f → mi M 19 j = nI (pl T P f j)
set_option maxHeartbeats 1000000 in
theorem m_w4 (hw : gp_wf P) (hTw : gs_wf T) (hfu : 300000 ≤ fu) (hf : f < gp_c P) : ∀ (d n i : Nat) (M : go_O), fs T P M → i + d = gp_l P f → d < n → (∀ j, j < i → mi M 19 j = nI (pl T P f j)) →
    ∃ M', gm_X6_weave_4 fu n z (nI f) (nI (pl T P f i)) (nI i) (go_k 6 z M X) = gm_X6_weave_84 fu fu z (nI f) (nI 0) (go_k 6 z M' X) ∧ fs T P M' ∧ pls T P f M' ∧ mi M' 5 (8 + f) = nI (pl T P f (gp_l P f)) ∧ mi M' 6 (8 + f) = nI (gp_h P f) ∧ wfr f M M'
  | d, 0, i, M, _, _, hn, _ => absurd hn (Nat.not_lt_zero _)
  | d, n + 1, i, M, hF, hd, hn, hb => by
    have hc := hw.1
    have l2 := (hw.2 f hf).1.2
    have b1 := (hF.2.1.2 f hf).1
    rw [show 8 * 0 + f = f by omega] at b1
    have b2 := (hF.2.1.2 f hf).2.1
    rw [show 8 * 0 + f = f by omega] at b2
    have r1 : f < 16 := by omega
    have r8 : 8 + f < 16 := by omega
    have rl : gp_l P f < 201 := by omega
    rw [gm_X6_weave_4]
    simp only [gq_6, r1, Option.bind_some, b1]
    by_cases e0 : d = 0
    · rw [if_pos ((nI_leI (by omega) (by omega)).mpr (by omega)), li8, nI_add, show i = gp_l P f by omega]
      have b2' : (go_ai (go_ai M 19 (gp_l P f) (nI (pl T P f (gp_l P f)))) 5 (8 + f) (nI (pl T P f (gp_l P f)))).2.2.2.1 6 f = nI (gp_h P f) := b2
      simp only [gq_6, r1, r8, rl, Option.bind_some, b2']
      have at' : ∀ a j, mi (go_ai (go_ai (go_ai M 19 (gp_l P f) (nI (pl T P f (gp_l P f)))) 5 (8 + f) (nI (pl T P f (gp_l P f)))) 6 (8 + f) (nI (gp_h P f))) a j = if a = 6 ∧ j = 8 + f then nI (gp_h P f) else if a = 5 ∧ j = 8 + f then nI (pl T P f (gp_l P f)) else if a = 19 ∧ j = gp_l P f then nI (pl T P f (gp_l P f)) else mi M a j := fun a j => by
        rw [mi_ai, mi_ai, mi_ai]
      refine ⟨_, rfl, hF.fr hw ⟨rfl, fun a j h => ?_, fun _ _ => rfl⟩, fun j hj => ?_, ?_, ?_, fun _ _ => rfl, fun a j _ q2 q3 _ _ => ?_⟩
      · rw [at', if_neg (by omega), if_neg (by omega), if_neg (by omega)]
      · rw [at', if_neg (by omega), if_neg (by omega)]
        by_cases e : j = gp_l P f
        · rw [if_pos ⟨rfl, e⟩, e]
        · rw [if_neg fun q => e q.2]
          exact hb j (by omega)
      · rw [at', if_neg (by omega), if_pos ⟨rfl, rfl⟩]
      · rw [at', if_pos ⟨rfl, rfl⟩]
      · rw [at', if_neg (by omega), if_neg (by omega), if_neg (by omega)]
    · rw [if_neg (fun q => absurd ((nI_leI (by omega) (by omega)).mp q) (by omega))]
      have ri : i < 201 := by omega
      simp only [gq_6, ri, Option.bind_some]
      rw [gx_ob6]
      have F1 : fs T P (go_ai M 19 i (nI (pl T P f i))) := hF.fr hw ⟨rfl, fun a j h => by rw [mi_ai, if_neg (by omega)], fun _ _ => rfl⟩
      obtain ⟨M', g1, g2, g3⟩ := m_lacks (fu := fu) (z := z) (X := X) (q := 0) (by omega) hw hTw hfu F1.1 F1.2.1 F1.2.2 hf (show i < gp_l P f by omega)
      rw [show gm_X6_lacks fu z 0 (nI f) (nI i) (go_k 6 z (go_ai M 19 i (nI (pl T P f i))) X) = _ from g1, gx_b2s]
      unfold gm_X6_weave_37
      rw [show nI i + 1 = nI (i + 1) from (nI_succ i).symm]
      obtain ⟨M'', k1, k2, k3, k4, k5, k6⟩ := m_w4 hw hTw hfu hf (d - 1) n (i + 1) M' (F1.rf g2 g3) (by omega) (by omega) (fun j hj => by
        rw [g2.1 19 j (by omega), mi_ai]
        by_cases e : j = i
        · rw [if_pos ⟨rfl, e⟩, e]
        · rw [if_neg fun q => e q.2]
          exact hb j (by omega))
      have w1 : wfr f M (go_ai M 19 i (nI (pl T P f i))) := ⟨fun _ _ => rfl, fun a j _ q2 _ _ _ => by rw [mi_ai, if_neg (by omega)]⟩
      refine ⟨M'', ?_, k2, k3, k4, k5, (w1.tr (wfr_of g2)).tr k6⟩
      rw [pl_s] at k1
      by_cases g : gp_lack T P f i
      · rw [gz_t g, if_neg (by decide), li2, nI_add]
        rw [lk_t g] at k1
        exact k1
      · rw [gz_f g, if_pos rfl, li1, nI_add]
        rw [lk_f g] at k1
        exact k1
/-- one INSTRUCTION is woven -/
def wdo (T : sT) (P : sP) (f : Nat) (M : go_O) (j : Nat) : Prop := mi M 7 (1600 + 200 * f + (pl T P f j + lk T P f j)) = nI (gp_k P f j) ∧ mi M 8 (1600 + 200 * f + (pl T P f j + lk T P f j)) = nI (tn T P f j) ∧ (gp_lack T P f j → mi M 7 (1600 + 200 * f + pl T P f j) = nI 5 ∧ mi M 8 (1600 + 200 * f + pl T P f j) = nI (gp_n P f j))
set_option maxHeartbeats 1000000 in
theorem m_w156 (hw : gp_wf P) (hf : f < gp_c P) (hfit : gp_l P f + lkn T P f ≤ 200) {i p : Nat} (hi : i < gp_l P f) (hp : p < 200) (hF : fs T P M) (hp' : pls T P f M) (K : Nat → Int32 → Int32 → gx_H → Option gx_H) :
    gm_X6_weave_156 fu K z (nI f) (nI i) (nI (200 * f + i)) (nI (1600 + 200 * f + p)) (go_k 6 z M X) = K z (nI f) (nI (i + 1)) (go_k 6 z (go_ai (go_ai M 7 (1600 + 200 * f + p) (nI (gp_k P f i))) 8 (1600 + 200 * f + p) (nI (tn T P f i))) X) := by
  have hc := hw.1
  obtain ⟨⟨-, l2⟩, -, hIw, -⟩ := hw.2 f hf
  obtain ⟨e1, e2⟩ := (hF.2.1.2 f hf).2.2.1 i hi
  rw [show 1600 * 0 + 200 * f + i = 200 * f + i by omega] at e1 e2
  have r1 : 200 * f + i < 3200 := by omega
  have r2 : 1600 + 200 * f + p < 3200 := by omega
  obtain ⟨k8, o1, -⟩ := hIw i hi
  unfold gm_X6_weave_156 gm_X6_weave_198 gm_X6_weave_220
  have e1' : (go_ai M 7 (1600 + 200 * f + p) (nI (gp_k P f i))).2.2.2.1 7 (200 * f + i) = nI (gp_k P f i) := by
    have := mi_ai M 7 (1600 + 200 * f + p) (nI (gp_k P f i)) 7 (200 * f + i)
    rw [if_neg (by omega)] at this
    exact this.trans e1
  have e2' : (go_ai M 7 (1600 + 200 * f + p) (nI (gp_k P f i))).2.2.2.1 8 (200 * f + i) = nI (gp_n P f i) := by
    have := mi_ai M 7 (1600 + 200 * f + p) (nI (gp_k P f i)) 8 (200 * f + i)
    rw [if_neg (by omega)] at this
    exact this.trans e2
  simp only [gq_6, r1, r2, Option.bind_some, e1, e1', e2']
  rw [show nI i + 1 = nI (i + 1) from (nI_succ i).symm]
  have e3 : (gp_k P f i = 1 ∨ gp_k P f i = 2) → gx_gai (go_k 6 z (go_ai M 7 (1600 + 200 * f + p) (nI (gp_k P f i))) X) (z + 16) 0 (nI (gp_n P f i)) = some (nI (pl T P f (gp_n P f i))) := fun h => by
    have r3 : gp_n P f i < 201 := by
      have := o1 h
      omega
    have := mi_ai M 7 (1600 + 200 * f + p) (nI (gp_k P f i)) 19 (gp_n P f i)
    rw [if_neg (by omega), hp' _ (by have := o1 h; omega)] at this
    simp only [gq_6, r3]
    rw [show (go_ai M 7 (1600 + 200 * f + p) (nI (gp_k P f i))).2.2.2.1 19 (gp_n P f i) = _ from this]
  unfold tn
  by_cases k1 : gp_k P f i = 1
  · rw [if_pos (by rw [k1]; rfl), e3 (Or.inl k1), if_pos (Or.inl k1)]
    simp only [gq_6, r2, Option.bind_some]
  · rw [if_neg (nI_nl 1 (x := 1) rfl (by omega) (by omega) k1)]
    by_cases k2 : gp_k P f i = 2
    · rw [if_pos (by rw [k2]; rfl), e3 (Or.inr k2), if_pos (Or.inr k2)]
      simp only [gq_6, r2, Option.bind_some]
    · rw [if_neg (nI_nl 2 (x := 2) rfl (by omega) (by omega) k2), if_neg (show ¬ (gp_k P f i = 1 ∨ gp_k P f i = 2) by omega)]
set_option maxHeartbeats 2000000 in
theorem m_w84 (hw : gp_wf P) (hTw : gs_wf T) (hfu : 300000 ≤ fu) (hf : f < gp_c P) (hfit : gp_l P f + lkn T P f ≤ 200) : ∀ (d n i : Nat) (M : go_O), fs T P M → pls T P f M → i + d = gp_l P f → d < n → (∀ j, j < i → wdo T P f M j) →
    ∃ M', gm_X6_weave_84 fu n z (nI f) (nI i) (go_k 6 z M X) = gm_X6_weave_229 fu fu z (nI f) (nI 0) (go_k 6 z M' X) ∧ fs T P M' ∧ pls T P f M' ∧ mi M' 5 (8 + f) = mi M 5 (8 + f) ∧ mi M' 6 (8 + f) = mi M 6 (8 + f) ∧ wfr f M M' ∧ ∀ j, j < gp_l P f → wdo T P f M' j
  | d, 0, i, M, _, _, _, hn, _ => absurd hn (Nat.not_lt_zero _)
  | d, n + 1, i, M, hF, hp, hd, hn, hb => by
    have hc := hw.1
    have l2 := (hw.2 f hf).1.2
    have b1 := (hF.2.1.2 f hf).1
    rw [show 8 * 0 + f = f by omega] at b1
    have r1 : f < 16 := by omega
    rw [gm_X6_weave_84]
    simp only [gq_6, r1, Option.bind_some, b1]
    by_cases e0 : d = 0
    · rw [if_pos ((nI_leI (by omega) (by omega)).mpr (by omega))]
      exact ⟨M, rfl, hF, hp, rfl, rfl, wfr_rf, fun j hj => hb j (by omega)⟩
    · rw [if_neg (fun q => absurd ((nI_leI (by omega) (by omega)).mp q) (by omega))]
      have hi : i < gp_l P f := by omega
      have ri : i < 201 := by omega
      have e19 : M.2.2.2.1 19 i = nI (pl T P f i) := hp i (by omega)
      simp only [gq_6, ri, Option.bind_some, e19]
      rw [gx_ob6]
      obtain ⟨M', g1, g2, g3⟩ := m_lacks (fu := fu) (z := z) (X := X) (q := 0) (by omega) hw hTw hfu hF.1 hF.2.1 hF.2.2 hf hi
      rw [show gm_X6_lacks fu z 0 (nI f) (nI i) (go_k 6 z M X) = _ from g1, gx_b2s]
      have pll := pl_lt (T := T) (P := P) (f := f) (i := i) (gp_l P f) hi
      rw [pl_l] at pll
      have F1 := hF.rf g2 g3
      have p1 : pls T P f M' := fun j hj => (g2.1 19 j (by omega)).trans (hp j hj)
      have hb1 : ∀ j, j < i → wdo T P f M' j := fun j hj => by
        obtain ⟨c1, c2, c3⟩ := hb j hj
        exact ⟨(g2.1 7 _ (by omega)).trans c1, (g2.1 8 _ (by omega)).trans c2, fun hl => ⟨(g2.1 7 _ (by omega)).trans (c3 hl).1, (g2.1 8 _ (by omega)).trans (c3 hl).2⟩⟩
      rw [show (200 : Int32) * nI f + nI i = nI (200 * f + i) by rw [li200, pk_mul, nI_add], show (1600 : Int32) + 200 * nI f + nI (pl T P f i) = nI (1600 + 200 * f + pl T P f i) by rw [li200, li1600, pk_mul, nI_add, nI_add]]
      -- the rest, from a state with the GUARD put where one lacks
      have go : ∀ (N : go_O), fs T P N → pls T P f N → wfr f M' N → mi N 5 (8 + f) = mi M' 5 (8 + f) → mi N 6 (8 + f) = mi M' 6 (8 + f) → (∀ j, j < i → wdo T P f N j) → (gp_lack T P f i → mi N 7 (1600 + 200 * f + pl T P f i) = nI 5 ∧ mi N 8 (1600 + 200 * f + pl T P f i) = nI (gp_n P f i)) →
          ∃ M'', gm_X6_weave_156 fu (gm_X6_weave_84 fu n) z (nI f) (nI i) (nI (200 * f + i)) (nI (1600 + 200 * f + (pl T P f i + lk T P f i))) (go_k 6 z N X) = gm_X6_weave_229 fu fu z (nI f) (nI 0) (go_k 6 z M'' X) ∧ fs T P M'' ∧ pls T P f M'' ∧ mi M'' 5 (8 + f) = mi M 5 (8 + f) ∧ mi M'' 6 (8 + f) = mi M 6 (8 + f) ∧ wfr f M M'' ∧ ∀ j, j < gp_l P f → wdo T P f M'' j := by
        intro N FN pN wN n5 n6 bN gN
        rw [m_w156 hw hf hfit hi (by omega) FN pN]
        generalize hN2 : go_ai (go_ai N 7 (1600 + 200 * f + (pl T P f i + lk T P f i)) (nI (gp_k P f i))) 8 (1600 + 200 * f + (pl T P f i + lk T P f i)) (nI (tn T P f i)) = N2
        have at' : ∀ a j, mi N2 a j = if a = 8 ∧ j = 1600 + 200 * f + (pl T P f i + lk T P f i) then nI (tn T P f i) else if a = 7 ∧ j = 1600 + 200 * f + (pl T P f i + lk T P f i) then nI (gp_k P f i) else mi N a j := fun a j => by rw [← hN2, mi_ai, mi_ai]
        have F2 : fs T P N2 := FN.fr hw ⟨by rw [← hN2]; rfl, fun a j h => by rw [at', if_neg (by omega), if_neg (by omega)], fun _ _ => by rw [← hN2]; rfl⟩
        have p2 : pls T P f N2 := fun j hj => by
          rw [at', if_neg (by omega), if_neg (by omega)]
          exact pN j hj
        have w2 : wfr f N N2 := ⟨fun _ _ => by rw [← hN2]; rfl, fun a j _ _ _ q4 _ => by rw [at', if_neg (by omega), if_neg (by omega)]⟩
        have b2 : ∀ j, j < i + 1 → wdo T P f N2 j := fun j hj => by
          by_cases e : j = i
          · subst e
            refine ⟨by rw [at', if_neg (by omega), if_pos ⟨rfl, rfl⟩], by rw [at', if_pos ⟨rfl, rfl⟩], fun hl => ?_⟩
            have := lk_t hl
            rw [at', at', if_neg (by omega), if_neg (by omega), if_neg (by omega), if_neg (by omega)]
            exact gN hl
          · have pj := pl_lt (T := T) (P := P) (f := f) (i := j) i (by omega)
            obtain ⟨c1, c2, c3⟩ := bN j (by omega)
            refine ⟨by rw [at', if_neg (by omega), if_neg (by omega)]; exact c1, by rw [at', if_neg (by omega), if_neg (by omega)]; exact c2, fun hl => ?_⟩
            rw [at', at', if_neg (by omega), if_neg (by omega), if_neg (by omega), if_neg (by omega)]
            exact c3 hl
        obtain ⟨M'', k1, k2, k3, k4, k5, k6, k7⟩ := m_w84 hw hTw hfu hf hfit (d - 1) n (i + 1) N2 F2 p2 (by omega) (by omega) b2
        refine ⟨M'', k1, k2, k3, ?_, ?_, (((wfr_of g2).tr wN).tr w2).tr k6, k7⟩
        · rw [k4, at', if_neg (by omega), if_neg (by omega), n5]
          exact g2.1 5 _ (by omega)
        · rw [k5, at', if_neg (by omega), if_neg (by omega), n6]
          exact g2.1 6 _ (by omega)
      by_cases g : gp_lack T P f i
      · rw [gz_t g, if_neg (by decide)]
        have lkt := lk_t g
        have e2 := ((F1.2.1.2 f hf).2.2.1 i hi).2
        rw [show 1600 * 0 + 200 * f + i = 200 * f + i by omega] at e2
        have r2 : 1600 + 200 * f + pl T P f i < 3200 := by omega
        have r3 : 200 * f + i < 3200 := by omega
        have e2' : (go_ai M' 7 (1600 + 200 * f + pl T P f i) 5).2.2.2.1 8 (200 * f + i) = nI (gp_n P f i) := by
          have := mi_ai M' 7 (1600 + 200 * f + pl T P f i) 5 8 (200 * f + i)
          rw [if_neg (by omega)] at this
          exact this.trans e2
        simp only [gq_6, r2, r3, Option.bind_some, e2']
        generalize hN : go_ai (go_ai M' 7 (1600 + 200 * f + pl T P f i) 5) 8 (1600 + 200 * f + pl T P f i) (nI (gp_n P f i)) = N
        have at' : ∀ a j, mi N a j = if a = 8 ∧ j = 1600 + 200 * f + pl T P f i then nI (gp_n P f i) else if a = 7 ∧ j = 1600 + 200 * f + pl T P f i then nI 5 else mi M' a j := fun a j => by
          rw [← hN, mi_ai, mi_ai]
          rfl
        rw [show nI (1600 + 200 * f + pl T P f i) + 1 = nI (1600 + 200 * f + (pl T P f i + lk T P f i)) by rw [lkt, ← nI_succ]; congr 1]
        refine go N (F1.fr hw ⟨by rw [← hN]; rfl, fun a j h => by rw [at', if_neg (by omega), if_neg (by omega)], fun _ _ => by rw [← hN]; rfl⟩) (fun j hj => by rw [at', if_neg (by omega), if_neg (by omega)]; exact p1 j hj) ⟨fun _ _ => by rw [← hN]; rfl, fun a j _ _ _ q4 _ => by rw [at', if_neg (by omega), if_neg (by omega)]⟩ (by rw [at', if_neg (by omega), if_neg (by omega)]) (by rw [at', if_neg (by omega), if_neg (by omega)]) (fun j hj => ?_) (fun _ => ⟨by rw [at', if_neg (by omega), if_pos ⟨rfl, rfl⟩], by rw [at', if_pos ⟨rfl, rfl⟩]⟩)
        have pj := pl_lt (T := T) (P := P) (f := f) (i := j) i (by omega)
        obtain ⟨c1, c2, c3⟩ := hb1 j hj
        refine ⟨by rw [at', if_neg (by omega), if_neg (by omega)]; exact c1, by rw [at', if_neg (by omega), if_neg (by omega)]; exact c2, fun hl => ?_⟩
        rw [at', at', if_neg (by omega), if_neg (by omega), if_neg (by omega), if_neg (by omega)]
        exact c3 hl
      · rw [gz_f g, if_pos rfl]
        have lkf := lk_f g
        have := go M' F1 p1 wfr_rf rfl rfl hb1 (fun h => absurd h g)
        rw [lkf] at this
        exact this
/-- the HANDLERS are woven -/
def wdh (T : sT) (P : sP) (f : Nat) (M : go_O) (h : Nat) : Prop := mi M 9 (48 + 6 * f + h) = nI (pl T P f (gp_a P f h)) ∧ mi M 10 (48 + 6 * f + h) = nI (pl T P f (gp_b P f h)) ∧ mi M 11 (48 + 6 * f + h) = nI (pl T P f (gp_g P f h))
set_option maxHeartbeats 2000000 in
theorem m_w229 (hw : gp_wf P) (hf : f < gp_c P) : ∀ (d n h : Nat) (M : go_O), fs T P M → pls T P f M → h + d = gp_h P f → d < n → (∀ k, k < h → wdh T P f M k) →
    ∃ M', gm_X6_weave_229 fu n z (nI f) (nI h) (go_k 6 z M X) = some (go_k 6 z M' X) ∧ fs T P M' ∧ (∀ a j, a ≠ 9 → a ≠ 10 → a ≠ 11 → mi M' a j = mi M a j) ∧ wfr f M M' ∧ ∀ k, k < gp_h P f → wdh T P f M' k
  | d, 0, h, M, _, _, _, hn, _ => absurd hn (Nat.not_lt_zero _)
  | d, n + 1, h, M, hF, hp, hd, hn, hb => by
    have hc := hw.1
    obtain ⟨⟨-, l2⟩, l6, -, hH⟩ := hw.2 f hf
    have b2 := (hF.2.1.2 f hf).2.1
    rw [show 8 * 0 + f = f by omega] at b2
    have r1 : f < 16 := by omega
    rw [gm_X6_weave_229]
    simp only [gq_6, r1, Option.bind_some, b2]
    by_cases e0 : d = 0
    · rw [if_pos ((nI_leI (by omega) (by omega)).mpr (by omega))]
      exact ⟨M, rfl, hF, fun _ _ _ _ _ => rfl, wfr_rf, fun k hk => hb k (by omega)⟩
    · rw [if_neg (fun q => absurd ((nI_leI (by omega) (by omega)).mp q) (by omega))]
      rw [show (6 : Int32) * nI f + nI h = nI (6 * f + h) by rw [li6, pk_mul, nI_add], show (48 : Int32) + 6 * nI f + nI h = nI (48 + 6 * f + h) by rw [li6, li48, pk_mul, nI_add, nI_add], show nI h + 1 = nI (h + 1) from (nI_succ h).symm]
      have r2 : 6 * f + h < 96 := by omega
      have r3 : 48 + 6 * f + h < 96 := by omega
      obtain ⟨e1, e2, e3⟩ := (hF.2.1.2 f hf).2.2.2 h (by omega)
      rw [show 6 * (8 * 0 + f) + h = 6 * f + h by omega] at e1 e2 e3
      obtain ⟨o1, o2, o3⟩ := hH h (by omega)
      have ra : gp_a P f h < 201 := by omega
      have rb : gp_b P f h < 201 := by omega
      have rg : gp_g P f h < 201 := by omega
      have q1 : M.2.2.2.1 19 (gp_a P f h) = nI (pl T P f (gp_a P f h)) := hp _ (by omega)
      simp only [gq_6, r2, r3, ra, Option.bind_some, e1, q1]
      have e2' : (go_ai M 9 (48 + 6 * f + h) (nI (pl T P f (gp_a P f h)))).2.2.2.1 10 (6 * f + h) = nI (gp_b P f h) := e2
      have q2 : (go_ai M 9 (48 + 6 * f + h) (nI (pl T P f (gp_a P f h)))).2.2.2.1 19 (gp_b P f h) = nI (pl T P f (gp_b P f h)) := hp _ (by omega)
      simp only [gq_6, r2, r3, rb, Option.bind_some, e2', q2]
      have e3' : (go_ai (go_ai M 9 (48 + 6 * f + h) (nI (pl T P f (gp_a P f h)))) 10 (48 + 6 * f + h) (nI (pl T P f (gp_b P f h)))).2.2.2.1 11 (6 * f + h) = nI (gp_g P f h) := e3
      have q3 : (go_ai (go_ai M 9 (48 + 6 * f + h) (nI (pl T P f (gp_a P f h)))) 10 (48 + 6 * f + h) (nI (pl T P f (gp_b P f h)))).2.2.2.1 19 (gp_g P f h) = nI (pl T P f (gp_g P f h)) := hp _ (by omega)
      simp only [gq_6, r2, r3, rg, Option.bind_some, e3', q3]
      generalize hN : go_ai (go_ai (go_ai M 9 (48 + 6 * f + h) (nI (pl T P f (gp_a P f h)))) 10 (48 + 6 * f + h) (nI (pl T P f (gp_b P f h)))) 11 (48 + 6 * f + h) (nI (pl T P f (gp_g P f h))) = N
      have at' : ∀ a j, mi N a j = if a = 11 ∧ j = 48 + 6 * f + h then nI (pl T P f (gp_g P f h)) else if a = 10 ∧ j = 48 + 6 * f + h then nI (pl T P f (gp_b P f h)) else if a = 9 ∧ j = 48 + 6 * f + h then nI (pl T P f (gp_a P f h)) else mi M a j := fun a j => by rw [← hN, mi_ai, mi_ai, mi_ai]
      have w1 : wfr f M N := ⟨fun _ _ => by rw [← hN]; rfl, fun a j _ _ _ _ q5 => by rw [at', if_neg (by omega), if_neg (by omega), if_neg (by omega)]⟩
      obtain ⟨M', k1, k2, k3, k4, k5⟩ := m_w229 hw hf (d - 1) n (h + 1) N (hF.fr hw ⟨by rw [← hN]; rfl, fun a j hh => by rw [at', if_neg (by omega), if_neg (by omega), if_neg (by omega)], fun _ _ => by rw [← hN]; rfl⟩) (fun j hj => by rw [at', if_neg (by omega), if_neg (by omega), if_neg (by omega)]; exact hp j hj) (by omega) (by omega) (fun k hk => by
        by_cases e : k = h
        · subst e
          exact ⟨by rw [at', if_neg (by omega), if_neg (by omega), if_pos ⟨rfl, rfl⟩], by rw [at', if_neg (by omega), if_pos ⟨rfl, rfl⟩], by rw [at', if_pos ⟨rfl, rfl⟩]⟩
        · obtain ⟨c1, c2, c3⟩ := hb k (by omega)
          exact ⟨by rw [at', if_neg (by omega), if_neg (by omega), if_neg (by omega)]; exact c1, by rw [at', if_neg (by omega), if_neg (by omega), if_neg (by omega)]; exact c2, by rw [at', if_neg (by omega), if_neg (by omega), if_neg (by omega)]; exact c3⟩)
      exact ⟨M', k1, k2, fun a j q1 q2 q3 => by rw [k3 a j q1 q2 q3, at', if_neg (by omega), if_neg (by omega), if_neg (by omega)], w1.tr k4, k5⟩
/-- one FUNCTION's row of the forged program -/
def row1 (P1 : sP) (f : Nat) (M : go_O) : Prop := mi M 5 (8 * 1 + f) = nI (gp_l P1 f) ∧ mi M 6 (8 * 1 + f) = nI (gp_h P1 f) ∧ (∀ i, i < gp_l P1 f → mi M 7 (1600 * 1 + 200 * f + i) = nI (gp_k P1 f i) ∧ mi M 8 (1600 * 1 + 200 * f + i) = nI (gp_n P1 f i)) ∧
  ∀ h, h < gp_h P1 f → mi M 9 (6 * (8 * 1 + f) + h) = nI (gp_a P1 f h) ∧ mi M 10 (6 * (8 * 1 + f) + h) = nI (gp_b P1 f h) ∧ mi M 11 (6 * (8 * 1 + f) + h) = nI (gp_g P1 f h)
set_option maxHeartbeats 1000000 in
theorem m_weave (hw : gp_wf P) (hTw : gs_wf T) (hfu : 300000 ≤ fu) (hf : f < gp_c P) (hfit : fit T P) (hF : fs T P M) : ∃ M', gm_X6_weave fu z (nI f) (go_k 6 z M X) = some (go_k 6 z M' X) ∧ fs T P M' ∧ wfr f M M' ∧ ∀ P1, isF T P P1 → row1 P1 f M' := by
  have hc := hw.1
  obtain ⟨⟨-, l2⟩, l6, -, hH⟩ := hw.2 f hf
  unfold gm_X6_weave
  obtain ⟨M1, a1, a2, a3, a4, a5, a6⟩ := m_w4 (fu := fu) (z := z) (X := X) hw hTw hfu hf (gp_l P f) fu 0 M hF (by omega) (by omega) (fun j h => absurd h (Nat.not_lt_zero _))
  obtain ⟨M2, b1, b2, b3, b4, b5, b6, b7⟩ := m_w84 (fu := fu) (z := z) (X := X) hw hTw hfu hf (hfit f hf) (gp_l P f) fu 0 M1 a2 a3 (by omega) (by omega) (fun j h => absurd h (Nat.not_lt_zero _))
  obtain ⟨M3, c1, c2, c3, c4, c5⟩ := m_w229 (fu := fu) (z := z) (X := X) hw hf (gp_h P f) fu 0 M2 b2 b3 (by omega) (by omega) (fun j h => absurd h (Nat.not_lt_zero _))
  refine ⟨M3, ?_, c2, (a6.tr b6).tr c4, fun P1 h1 => ?_⟩
  · rw [show gm_X6_weave_4 fu fu z (nI f) 0 0 (go_k 6 z M X) = _ from a1, b1, c1]
  · obtain ⟨f1, f2, f3, f4⟩ := h1.2 f hf
    refine ⟨?_, ?_, fun p hp => ?_, fun h hh => ?_⟩
    · rw [show 8 * 1 + f = 8 + f by omega, c3 5 _ (by omega) (by omega) (by omega), b4, a4, f1]
    · rw [show 8 * 1 + f = 8 + f by omega, c3 6 _ (by omega) (by omega) (by omega), b5, a5, f2]
    · rw [f1] at hp
      rw [c3 7 _ (by omega) (by omega) (by omega), c3 8 _ (by omega) (by omega) (by omega)]
      obtain ⟨i, hi, e | ⟨hl, e⟩⟩ := cover _ hp
      · subst e
        obtain ⟨d1, d2, -⟩ := f3 i hi
        obtain ⟨w1, w2, -⟩ := b7 i hi
        rw [d1, d2, show 1600 * 1 + 200 * f = 1600 + 200 * f by omega]
        exact ⟨w1, w2⟩
      · subst e
        obtain ⟨-, -, d3⟩ := f3 i hi
        obtain ⟨-, -, w3⟩ := b7 i hi
        rw [(d3 hl).1, (d3 hl).2, show 1600 * 1 + 200 * f = 1600 + 200 * f by omega]
        exact w3 hl
    · rw [f2] at hh
      obtain ⟨d1, d2, d3⟩ := f4 h hh
      obtain ⟨w1, w2, w3⟩ := c5 h hh
      rw [d1, d2, d3, show 6 * (8 * 1 + f) + h = 48 + 6 * f + h by omega]
      exact ⟨w1, w2, w3⟩
theorem row1_fr {g : Nat} (hw : gp_wf P1) (hg : g < gp_c P1) (hne : g ≠ f) (hr : wfr f M M') (h : row1 P1 g M) : row1 P1 g M' := by
  have hc := hw.1
  obtain ⟨⟨-, l2⟩, l6, -, -⟩ := hw.2 g hg
  obtain ⟨a1, a2, a3, a4⟩ := h
  exact ⟨(hr.2 5 _ (by omega) (by omega) (by omega) (by omega) (by omega)).trans a1, (hr.2 6 _ (by omega) (by omega) (by omega) (by omega) (by omega)).trans a2, fun i hi => ⟨(hr.2 7 _ (by omega) (by omega) (by omega) (by omega) (by omega)).trans (a3 i hi).1, (hr.2 8 _ (by omega) (by omega) (by omega) (by omega) (by omega)).trans (a3 i hi).2⟩,
    fun h hh => ⟨(hr.2 9 _ (by omega) (by omega) (by omega) (by omega) (by omega)).trans (a4 h hh).1, (hr.2 10 _ (by omega) (by omega) (by omega) (by omega) (by omega)).trans (a4 h hh).2.1, (hr.2 11 _ (by omega) (by omega) (by omega) (by omega) (by omega)).trans (a4 h hh).2.2⟩⟩
theorem m_f78 (hw : gp_wf P) (hTw : gs_wf T) (hfu : 300000 ≤ fu) (hfit : fit T P) (x : Int32) : ∀ (d n f : Nat) (M : go_O), fs T P M → mi M 4 1 = nI (gp_c P) → mi M 13 1 = 0 → f + d = gp_c P → d < n → (∀ P1, isF T P P1 → ∀ g, g < f → row1 P1 g M) →
    ∃ M', gm_X6_forge_78 fu n z x (nI f) (go_k 6 z M X) = some (x, go_k 6 z M' X) ∧ ∀ P1, isF T P P1 → MI T P True P1 M'
  | d, 0, f, M, _, _, _, _, hn, _ => absurd hn (Nat.not_lt_zero _)
  | d, n + 1, f, M, hF, h4, h13, hd, hn, hb => by
    have hc := hw.1
    have r0 : 0 < 2 := by omega
    have e4 : M.2.2.2.1 4 0 = nI (gp_c P) := hF.2.1.1
    rw [gm_X6_forge_78, show gx_gai (go_k 6 z M X) = gx_gai (go_k 6 z M X) from rfl, li0]
    simp only [gq_6, r0, Option.bind_some, e4]
    by_cases e0 : d = 0
    · rw [if_pos ((nI_leI (by omega) (by omega)).mpr (by omega))]
      refine ⟨_, rfl, fun P1 h1 => ⟨hF.1, hF.2.1, hF.2.2, by rw [gz_t trivial]; rfl, fun _ => ⟨⟨?_, fun g hg => ?_⟩, Or.inl h13⟩⟩⟩
      · rw [h1.1]
        exact h4
      · rw [h1.1] at hg
        exact hb P1 h1 g (by omega)
    · rw [if_neg (fun q => absurd ((nI_leI (by omega) (by omega)).mp q) (by omega)), gx_ob6]
      obtain ⟨M', g1, g2, g3, g4⟩ := m_weave (fu := fu) (z := z) (X := X) hw hTw hfu (show f < gp_c P by omega) hfit hF
      rw [g1, Option.bind_some, show nI f + 1 = nI (f + 1) from (nI_succ f).symm]
      exact m_f78 hw hTw hfu hfit x (d - 1) n (f + 1) M' g2 ((g3.2 4 1 (by omega) (by omega) (by omega) (by omega) (by omega)).trans h4) ((g3.2 13 1 (by omega) (by omega) (by omega) (by omega) (by omega)).trans h13) (by omega) (by omega) (fun P1 h1 g hg => by
        by_cases e : g = f
        · subst e
          exact g4 P1 h1
        · exact row1_fr (isF_wf hw hfit h1) (by rw [h1.1]; omega) e g3 (hb P1 h1 g (by omega)))
theorem m_forge (hI : MI T P fg P1 M) (hS : SI T P fg P1) (hfu : 300000 ≤ fu) : ∃ M' a, gm_X6_forge fu z (go_k 6 z M X) = some (a, go_k 6 z M' X) ∧ ((fit T P ∧ a = nI (gn_s (lkn T P) (gp_c P)) ∧ ∀ P1, isF T P P1 → MI T P True P1 M') ∨ (¬ fit T P ∧ a = -2 ∧ MI T P False P1 M')) := by
  have hw := hS.2.1
  have hc := hw.1
  unfold gm_X6_forge
  simp only [gq_6, Option.bind_some]
  have F0 : fs T P (go_si (go_si M 0 0) 12 0) := ⟨hI.1, hI.2.1, hI.2.2.1⟩
  obtain ⟨M1, a1, a2, ⟨a3, a4⟩ | ⟨a3, a4⟩⟩ := m_f14 (fu := fu) (z := z) (X := X) hw hS.1 hfu (gp_c P) fu 0 _ F0 (by omega) (by omega) (fun g h => absurd h (Nat.not_lt_zero _))
  · have F1 : fs T P (go_ai (go_ai M1 4 1 (nI (gp_c P))) 13 1 0) := a2.fr hw ⟨rfl, fun a j h => by rw [mi_ai, if_neg (by omega), mi_ai, if_neg (by omega)], fun _ _ => rfl⟩
    obtain ⟨M2, b1, b2⟩ := m_f78 (fu := fu) (z := z) (X := X) hw hS.1 hfu a3 (nI (gn_s (lkn T P) (gp_c P))) (gp_c P) fu 0 _ F1 (by rw [mi_ai, if_neg (by omega), mi_ai, if_pos ⟨rfl, rfl⟩]) (by rw [mi_ai, if_pos ⟨rfl, rfl⟩]) (by omega) (by omega) (fun P1 _ g h => absurd h (Nat.not_lt_zero _))
    refine ⟨M2, _, ?_, Or.inl ⟨a3, rfl, b2⟩⟩
    rw [show gm_X6_forge_14 fu fu z 0 0 (go_k 6 z (go_si (go_si M 0 0) 12 0) X) = _ from a4, b1]
  · refine ⟨M1, _, (show gm_X6_forge_14 fu fu z 0 0 (go_k 6 z (go_si (go_si M 0 0) 12 0) X) = _ from a4), Or.inr ⟨a3, rfl, a2.1, a2.2.1, a2.2.2, ?_, False.elim⟩⟩
    rw [a1.2.1 12 (by omega), gz_f (fun h => h)]
    rfl
end MF
