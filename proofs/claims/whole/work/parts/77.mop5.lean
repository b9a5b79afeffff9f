/-! the model: look, certify -/
/-- not as it should be -/
def badI (T : sT) (R : sP) (f i : Nat) : Prop := (gp_k R f i = 5 ∧ ¬ (i + 1 < gp_l R f ∧ gp_gd R f (i + 1))) ∨ gp_lack T R f i
def cv (T : sT) (R : sP) (a : Int32) : Prop := (a = 0 ∧ ∀ f i, f < gp_c R → i < gp_l R f → ¬ badI T R f i) ∨
  ∃ f i, f < gp_c R ∧ i < gp_l R f ∧ badI T R f i ∧ (∀ f' i', f' < f → i' < gp_l R f' → ¬ badI T R f' i') ∧ (∀ i', i' < i → ¬ badI T R f i') ∧ a = nI (256 * f + i + 1)
theorem cv_un {T : sT} {R : sP} {a b : Int32} (h : cv T R a) (h' : cv T R b) : a = b := by
  rcases h with ⟨rfl, h1⟩ | ⟨f, i, h1, h2, h3, h4, h5, rfl⟩ <;> rcases h' with ⟨rfl, h1'⟩ | ⟨f', i', h1', h2', h3', h4', h5', rfl⟩
  · rfl
  · exact absurd h3' (h1 f' i' h1' h2')
  · exact absurd h3 (h1' f i h1 h2)
  · have ef : f = f' := by
      apply Classical.byContradiction
      intro q
      by_cases c : f < f'
      · exact h4' f i c h2 h3
      · exact h4 f' i' (by omega) h2' h3'
    subst ef
    have ei : i = i' := by
      apply Classical.byContradiction
      intro q
      by_cases c : i < i'
      · exact h5' i c h3
      · exact h5 i' (by omega) h3'
    subst ei
    rfl
section MS
variable {fu z : Nat} {T : sT} {P P1 : sP} {fg : Prop} {M : go_O} {X : gx_H} {v : Bool} {q : Nat} {R : sP}
theorem m_ins4 (hq : q < 2) (hP : rm_P q R M) (hw : gp_wf R) : ∀ (d n f : Nat), f + d = gp_c R → d < n → gm_X6_instructions_4 fu n z (nI q) (nI (gn_s (gp_l R) f)) (nI f) (go_k 6 z M X) = some (nI (gn_s (gp_l R) (gp_c R)), go_k 6 z M X)
  | d, 0, f, _, hn => absurd hn (Nat.not_lt_zero _)
  | d, n + 1, f, hd, hn => by
    have hc := hw.1
    rw [gm_X6_instructions_4]
    simp only [gq_6, hq, Option.bind_some, hP.1]
    by_cases e0 : d = 0
    · rw [if_pos ((nI_leI (by omega) (by omega)).mpr (by omega)), show f = gp_c R by omega]
    · rw [if_neg (fun q => absurd ((nI_leI (by omega) (by omega)).mp q) (by omega))]
      have r1 : 8 * q + f < 16 := by omega
      rw [show (8 : Int32) * nI q + nI f = nI (8 * q + f) by rw [li8, pk_mul, nI_add]]
      have e1 := (hP.2 f (by omega)).1
      simp only [gq_6, r1, Option.bind_some, e1]
      rw [show nI f + 1 = nI (f + 1) from (nI_succ f).symm, nI_add]
      have ih := m_ins4 hq hP hw (d - 1) n (f + 1) (by omega) (by omega)
      rw [gn_ss] at ih
      exact ih
theorem m_wM4 (hT : rm_T T M) : ∀ (d n k : Nat), k + d = 58560 → d < n → gm_X6_wayMany_4 fu n z (nI (gn_s (fun k => if gs_w T (k / 3660) (k / 61 % 60) (k % 61) = true then 1 else 0) k)) (nI k) (go_k 6 z M X) = some (nI (wc T), go_k 6 z M X)
  | d, 0, k, _, hn => absurd hn (Nat.not_lt_zero _)
  | d, n + 1, k, hd, hn => by
    rw [gm_X6_wayMany_4, li58560]
    by_cases e0 : d = 0
    · rw [if_pos ((nI_leI (by omega) (by omega)).mpr (by omega)), show k = 58560 by omega]
      rfl
    · rw [if_neg (fun q => absurd ((nI_leI (by omega) (by omega)).mp q) (by omega))]
      have r1 : k < 58560 := by omega
      have e1 := hT.2.1 (k / 3660) (k / 61 % 60) (k % 61) (by omega) (by omega) (by omega)
      rw [show 61 * (60 * (k / 3660) + k / 61 % 60) + k % 61 = k by omega] at e1
      simp only [gq_6, r1, Option.bind_some, e1]
      unfold gm_X6_wayMany_25
      rw [show nI k + 1 = nI (k + 1) from (nI_succ k).symm]
      have ih := m_wM4 hT (d - 1) n (k + 1) (by omega) (by omega)
      rw [gn_ss] at ih
      by_cases w : gs_w T (k / 3660) (k / 61 % 60) (k % 61) = true
      · rw [if_pos w, if_neg (by decide), li1, nI_add]
        rw [if_pos w] at ih
        exact ih
      · rw [if_neg w, if_pos rfl, li0, nI_add]
        rw [if_neg w] at ih
        exact ih
theorem m_nM4 (hT : rm_T T M) : ∀ (d n c : Nat), c + d = 16 → d < n → gm_X6_neededMany_4 fu n z (nI (gn_s (fun c => if gs_n T c = true then 1 else 0) c)) (nI c) (go_k 6 z M X) = some (nI (nl T), go_k 6 z M X)
  | d, 0, c, _, hn => absurd hn (Nat.not_lt_zero _)
  | d, n + 1, c, hd, hn => by
    rw [gm_X6_neededMany_4, li16]
    by_cases e0 : d = 0
    · rw [if_pos ((nI_leI (by omega) (by omega)).mpr (by omega)), show c = 16 by omega]
      rfl
    · rw [if_neg (fun q => absurd ((nI_leI (by omega) (by omega)).mp q) (by omega))]
      have r1 : c < 16 := by omega
      have e1 := hT.2.2 c r1
      simp only [gq_6, r1, Option.bind_some, e1]
      unfold gm_X6_neededMany_25
      rw [show nI c + 1 = nI (c + 1) from (nI_succ c).symm]
      have ih := m_nM4 hT (d - 1) n (c + 1) (by omega) (by omega)
      rw [gn_ss] at ih
      by_cases w : gs_n T c = true
      · rw [if_pos w, if_neg (by decide), li1, nI_add]
        rw [if_pos w] at ih
        exact ih
      · rw [if_neg w, if_pos rfl, li0, nI_add]
        rw [if_neg w] at ih
        exact ih
/-- what look answers -/
noncomputable def lkv (T : sT) (P : sP) (fg : Prop) (P1 : sP) (w : Int32) : Int32 := if w = 0 then nI (gs_S T) else if w = 1 then nI (wc T) else if w = 2 then nI (gp_c P) else if w = 3 then gz fg else if w = 4 then nI (gn_s (gp_l P) (gp_c P)) else if w = 5 then @ite Int32 fg (Classical.propDecidable _) (nI (gn_s (gp_l P1) (gp_c P1))) (-1) else if w = 6 then nI (nl T) else -1
set_option maxHeartbeats 1000000 in
theorem m_look (hI : MI T P fg P1 M) (hS : SI T P fg P1) (hfu : 60000 ≤ fu) (w : Int32) : gm_X6_look fu z w (go_k 6 z M X) = some (lkv T P fg P1 w, go_k 6 z (go_si M 0 0) X) := by
  have hI := hI.s0 0
  have r0 : 0 < 2 := by omega
  unfold gm_X6_look lkv
  simp only [gq_6, Option.bind_some, hI.2.2.2.1]
  by_cases w0 : w = 0
  · rw [if_pos w0, if_pos w0, hI.1.1]
  · rw [if_neg w0, if_neg w0]
    by_cases w1 : w = 1
    · rw [if_pos w1, if_pos w1, gx_ob6]
      unfold gm_X6_wayMany
      rw [show gm_X6_wayMany_4 fu fu z 0 0 (go_k 6 z (go_si M 0 0) X) = _ from m_wM4 hI.1 58560 fu 0 (by omega) (by omega), gx_b2s]
    · rw [if_neg w1, if_neg w1]
      by_cases w2 : w = 2
      · rw [if_pos w2, if_pos w2, show gx_gai (go_k 6 z (go_si M 0 0) X) (z + 3) 0 0 = gx_gai (go_k 6 z (go_si M 0 0) X) (z + 3) 0 (nI 0) from rfl]
        simp only [gq_6, r0, Option.bind_some]
        rw [show (go_si M 0 0).2.2.2.1 4 0 = _ from hI.2.1.1]
      · rw [if_neg w2, if_neg w2]
        by_cases w3 : w = 3
        · rw [if_pos w3, if_pos w3]
          by_cases g : fg
          · rw [gz_t g, if_neg (by decide)]
          · rw [gz_f g, if_pos rfl]
        · rw [if_neg w3, if_neg w3]
          by_cases w4 : w = 4
          · rw [if_pos w4, if_pos w4, gx_ob6]
            unfold gm_X6_instructions
            rw [show gm_X6_instructions_4 fu fu z 0 0 0 (go_k 6 z (go_si M 0 0) X) = _ from m_ins4 (q := 0) r0 hI.2.1 hS.2.1 (gp_c P) fu 0 (by omega) (by have := hS.2.1.1; omega), gx_b2s]
          · rw [if_neg w4, if_neg w4]
            by_cases w5 : w = 5
            · rw [if_pos w5, if_pos w5]
              by_cases g : fg
              · rw [gz_t g, if_neg (by decide), if_pos g, gx_ob6]
                unfold gm_X6_instructions
                rw [show gm_X6_instructions_4 fu fu z 1 0 0 (go_k 6 z (go_si M 0 0) X) = _ from m_ins4 (q := 1) (by omega) (hI.2.2.2.2 g).1 (hS.2.2 g).1 (gp_c P1) fu 0 (by omega) (by have := (hS.2.2 g).1.1; omega), gx_b2s]
              · rw [gz_f g, if_pos rfl, if_neg g]
            · rw [if_neg w5, if_neg w5]
              by_cases w6 : w = 6
              · rw [if_pos w6, if_pos w6, gx_ob6]
                unfold gm_X6_neededMany
                rw [show gm_X6_neededMany_4 fu fu z 0 0 (go_k 6 z (go_si M 0 0) X) = _ from m_nM4 hI.1 16 fu 0 (by omega) (by omega), gx_b2s]
              · rw [if_neg w6, if_neg w6]
theorem m_c190 (f i : Nat) : gm_X6_certify_190 fu (nI f) (nI i) X = some (nI (256 * f + i + 1), X) := by
  unfold gm_X6_certify_190
  rw [li256, li1, pk_mul, nI_add, nI_add, show 1 + 256 * f + i = 256 * f + i + 1 by omega]
theorem m_c172 (hq : q < 2) (hw : gp_wf R) (hTw : gs_wf T) (hfu : 300000 ≤ fu) (hT : rm_T T M) (hP : rm_P q R M) (hm : mf q T R M) {f i : Nat} (hf : f < gp_c R) (hi : i < gp_l R f) (K30 : Nat → Int32 → Int32 → gx_H → Option (Int32 × gx_H)) (K43 : Nat → Int32 → Int32 → Int32 → gx_H → Option (Int32 × gx_H)) :
    ∃ M', rf q M M' ∧ mf q T R M' ∧ ((gm_X6_certify_172 fu K30 K43 z (nI q) (nI f) (nI i) 0 (go_k 6 z M X) = K43 z (nI q) (nI f) (nI (i + 1)) (go_k 6 z M' X) ∧ ¬ gp_lack T R f i) ∨ (gm_X6_certify_172 fu K30 K43 z (nI q) (nI f) (nI i) 0 (go_k 6 z M X) = some (nI (256 * f + i + 1), go_k 6 z M' X) ∧ gp_lack T R f i)) := by
  unfold gm_X6_certify_172
  obtain ⟨M', g1, g2, g3⟩ := m_lacks (fu := fu) (z := z) (X := X) hq hw hTw hfu hT hP hm hf hi
  refine ⟨M', g2, g3, ?_⟩
  rw [if_pos rfl, gx_ob6, g1, gx_b2s]
  by_cases g : gp_lack T R f i
  · rw [gz_t g, if_neg (by decide), m_c190]
    exact Or.inr ⟨rfl, g⟩
  · rw [gz_f g, if_pos rfl, show nI i + 1 = nI (i + 1) from (nI_succ i).symm]
    exact Or.inl ⟨rfl, g⟩
set_option maxHeartbeats 2000000 in
theorem m_c43 (hq : q < 2) (hw : gp_wf R) (hTw : gs_wf T) (hfu : 300000 ≤ fu) {f : Nat} (hf : f < gp_c R) (K30 : Nat → Int32 → Int32 → gx_H → Option (Int32 × gx_H)) : ∀ (d n i : Nat) (M : go_O), rm_T T M → rm_P q R M → mf q T R M → i + d = gp_l R f → d < n → (∀ i', i' < i → ¬ badI T R f i') →
    ∃ M', rf q M M' ∧ mf q T R M' ∧ ((gm_X6_certify_43 fu K30 n z (nI q) (nI f) (nI i) (go_k 6 z M X) = K30 z (nI q) (nI (f + 1)) (go_k 6 z M' X) ∧ ∀ i', i' < gp_l R f → ¬ badI T R f i') ∨ ∃ i', i' < gp_l R f ∧ badI T R f i' ∧ (∀ j, j < i' → ¬ badI T R f j) ∧ gm_X6_certify_43 fu K30 n z (nI q) (nI f) (nI i) (go_k 6 z M X) = some (nI (256 * f + i' + 1), go_k 6 z M' X))
  | d, 0, i, M, _, _, _, _, hn, _ => absurd hn (Nat.not_lt_zero _)
  | d, n + 1, i, M, hT, hP, hm, hd, hn, hb => by
    have hc := hw.1
    obtain ⟨⟨-, l2⟩, -, hI, -⟩ := hw.2 f hf
    obtain ⟨b1, -, b3, -⟩ := hP.2 f hf
    have r1 : 8 * q + f < 16 := by omega
    rw [gm_X6_certify_43, show (8 : Int32) * nI q + nI f = nI (8 * q + f) by rw [li8, pk_mul, nI_add]]
    simp only [gq_6, r1, Option.bind_some, b1]
    by_cases e0 : d = 0
    · rw [if_pos ((nI_leI (by omega) (by omega)).mpr (by omega)), show nI f + 1 = nI (f + 1) from (nI_succ f).symm]
      exact ⟨M, rf_rf, hm, Or.inl ⟨rfl, fun i' h => hb i' (by omega)⟩⟩
    · rw [if_neg (fun q => absurd ((nI_leI (by omega) (by omega)).mp q) (by omega))]
      have hi : i < gp_l R f := by omega
      have r2 : 1600 * q + 200 * f + i < 3200 := by omega
      rw [show (1600 : Int32) * nI q + 200 * nI f + nI i = nI (1600 * q + 200 * f + i) by rw [li1600, li200, pk_mul, pk_mul, nI_add, nI_add], show nI i + 1 = nI (i + 1) from (nI_succ i).symm]
      obtain ⟨e1, e2⟩ := b3 i hi
      have k8 := (hI i hi).1
      -- once it is not an idle GUARD
      have cont : (gp_k R f i = 5 → i + 1 < gp_l R f ∧ gp_gd R f (i + 1)) → ∃ M', rf q M M' ∧ mf q T R M' ∧ ((gm_X6_certify_172 fu K30 (gm_X6_certify_43 fu K30 n) z (nI q) (nI f) (nI i) 0 (go_k 6 z M X) = K30 z (nI q) (nI (f + 1)) (go_k 6 z M' X) ∧ ∀ i', i' < gp_l R f → ¬ badI T R f i') ∨ ∃ i', i' < gp_l R f ∧ badI T R f i' ∧ (∀ j, j < i' → ¬ badI T R f j) ∧ gm_X6_certify_172 fu K30 (gm_X6_certify_43 fu K30 n) z (nI q) (nI f) (nI i) 0 (go_k 6 z M X) = some (nI (256 * f + i' + 1), go_k 6 z M' X)) := by
        intro h5
        obtain ⟨M', g1, g2, ⟨g3, g4⟩ | ⟨g3, g4⟩⟩ := m_c172 (fu := fu) (z := z) (X := X) hq hw hTw hfu hT hP hm hf hi K30 (gm_X6_certify_43 fu K30 n)
        · obtain ⟨M'', k1, k2, k3⟩ := m_c43 hq hw hTw hfu hf K30 (d - 1) n (i + 1) M' (g1.rT hT) (g1.rP hP) g2 (by omega) (by omega) (fun i' h => by
            by_cases e : i' = i
            · subst e
              rintro (⟨h1, h2⟩ | h)
              · exact h2 (h5 h1)
              · exact g4 h
            · exact hb i' (by omega))
          rw [g3]
          exact ⟨M'', g1.tr k1, k2, k3⟩
        · exact ⟨M', g1, g2, Or.inr ⟨i, hi, Or.inr g4, hb, g3⟩⟩
      have stop : (gp_k R f i = 5 ∧ ¬ (i + 1 < gp_l R f ∧ gp_gd R f (i + 1))) → ∃ M', rf q M M' ∧ mf q T R M' ∧ ((gm_X6_certify_172 fu K30 (gm_X6_certify_43 fu K30 n) z (nI q) (nI f) (nI i) 1 (go_k 6 z M X) = K30 z (nI q) (nI (f + 1)) (go_k 6 z M' X) ∧ ∀ i', i' < gp_l R f → ¬ badI T R f i') ∨ ∃ i', i' < gp_l R f ∧ badI T R f i' ∧ (∀ j, j < i' → ¬ badI T R f j) ∧ gm_X6_certify_172 fu K30 (gm_X6_certify_43 fu K30 n) z (nI q) (nI f) (nI i) 1 (go_k 6 z M X) = some (nI (256 * f + i' + 1), go_k 6 z M' X)) := by
        intro h5
        refine ⟨M, rf_rf, hm, Or.inr ⟨i, hi, Or.inl h5, hb, ?_⟩⟩
        unfold gm_X6_certify_172
        rw [if_neg (by decide), m_c190]
      have e98 : ∀ s : Int32, gm_X6_certify_98 fu K30 (gm_X6_certify_43 fu K30 n) z (nI q) (nI f) (nI i) (nI (1600 * q + 200 * f + i)) s (go_k 6 z M X) = if nI (gp_k R f i) = 5 then (if s = 0 then gm_X6_certify_132 fu K30 (gm_X6_certify_43 fu K30 n) z (nI q) (nI f) (nI i) (nI (1600 * q + 200 * f + i)) s (z + 7) (nI (1600 * q + 200 * f + i)) 1 (go_k 6 z M X) else gm_X6_certify_167 fu K30 (gm_X6_certify_43 fu K30 n) z (nI q) (nI f) (nI i) (go_k 6 z M X)) else gm_X6_certify_171 fu K30 (gm_X6_certify_43 fu K30 n) z (nI q) (nI f) (nI i) (go_k 6 z M X) := fun s => by
        unfold gm_X6_certify_98
        simp only [gq_6, r2, Option.bind_some, e1]
        by_cases h : s = 0
        · rw [if_pos h, if_pos h, if_pos h]
        · rw [if_neg h, if_neg h]
      by_cases ei : i + 1 = gp_l R f
      · rw [if_pos (by rw [ei]), e98]
        by_cases k5 : gp_k R f i = 5
        · rw [if_pos (by rw [k5]; rfl), if_neg (by decide)]
          exact stop ⟨k5, fun h => by omega⟩
        · rw [if_neg (nI_nl 5 (x := 5) rfl (by omega) (by omega) k5)]
          exact cont fun h => absurd h k5
      · rw [if_neg (nI_ne (by omega) (by omega) ei), e98]
        by_cases k5 : gp_k R f i = 5
        · rw [if_pos (by rw [k5]; rfl), if_pos rfl]
          unfold gm_X6_certify_132
          have r3 : 1600 * q + 200 * f + i + 1 < 3200 := by omega
          have e4 := (b3 (i + 1) (by omega)).2
          rw [show 1600 * q + 200 * f + (i + 1) = 1600 * q + 200 * f + i + 1 by omega] at e4
          rw [show nI (1600 * q + 200 * f + i) + 1 = nI (1600 * q + 200 * f + i + 1) from (nI_succ _).symm]
          simp only [gq_6, r2, r3, Option.bind_some, e2, e4]
          have n1 := gp_nb hw hf hi
          have n2 := gp_nb hw hf (i := i + 1) (by omega)
          by_cases en : gp_n R f (i + 1) = gp_n R f i
          · rw [if_pos (by rw [en]), if_pos trivial]
            unfold gm_X6_certify_161
            rw [gx_ob6, show nI i + 1 = nI (i + 1) from (nI_succ i).symm, m_isGuarded hq hP hw hf (by omega) (by omega), gx_b2s]
            by_cases g : gp_gd R f (i + 1)
            · rw [gz_t g, if_neg (by decide)]
              exact cont fun _ => ⟨by omega, g⟩
            · rw [gz_f g, if_pos rfl]
              exact stop ⟨k5, fun h => g h.2⟩
          · rw [if_neg (nI_ne (by omega) (by omega) en)]
            exact stop ⟨k5, fun h => en (by
              have := h.2.2.2.2.1
              rw [show i + 1 - 1 = i by omega] at this
              exact this.symm)⟩
        · rw [if_neg (nI_nl 5 (x := 5) rfl (by omega) (by omega) k5)]
          exact cont fun h => absurd h k5
theorem m_c30 (hq : q < 2) (hw : gp_wf R) (hTw : gs_wf T) (hfu : 300000 ≤ fu) : ∀ (d n f : Nat) (M : go_O), rm_T T M → rm_P q R M → mf q T R M → f + d = gp_c R → d < n → (∀ f' i', f' < f → i' < gp_l R f' → ¬ badI T R f' i') →
    ∃ M' a, gm_X6_certify_30 fu n z (nI q) (nI f) (go_k 6 z M X) = some (a, go_k 6 z M' X) ∧ rf q M M' ∧ mf q T R M' ∧ cv T R a
  | d, 0, f, M, _, _, _, _, hn, _ => absurd hn (Nat.not_lt_zero _)
  | d, n + 1, f, M, hT, hP, hm, hd, hn, hb => by
    have hc := hw.1
    rw [gm_X6_certify_30]
    simp only [gq_6, hq, Option.bind_some, hP.1]
    by_cases e0 : d = 0
    · rw [if_pos ((nI_leI (by omega) (by omega)).mpr (by omega))]
      exact ⟨M, 0, rfl, rf_rf, hm, Or.inl ⟨rfl, fun f' i' h1 h2 => hb f' i' (by omega) h2⟩⟩
    · rw [if_neg (fun q => absurd ((nI_leI (by omega) (by omega)).mp q) (by omega))]
      have hl := (hw.2 f (by omega)).1.2
      obtain ⟨M', g1, g2, ⟨g3, g4⟩ | ⟨i', g3, g4, g5, g6⟩⟩ := m_c43 (fu := fu) (z := z) (X := X) hq hw hTw hfu (f := f) (by omega) (gm_X6_certify_30 fu n) (gp_l R f) fu 0 M hT hP hm (by omega) (by omega) (fun _ h => absurd h (Nat.not_lt_zero _))
      · rw [show (0 : Int32) = nI 0 from rfl, g3]
        obtain ⟨M'', a, k1, k2, k3, k4⟩ := m_c30 hq hw hTw hfu (d - 1) n (f + 1) M' (g1.rT hT) (g1.rP hP) g2 (by omega) (by omega) (fun f' i' h1 h2 => by
          by_cases e : f' = f
          · subst e
            exact g4 i' h2
          · exact hb f' i' (by omega) h2)
        exact ⟨M'', a, k1, g1.tr k2, k3, k4⟩
      · rw [show (0 : Int32) = nI 0 from rfl, g6]
        exact ⟨M', _, rfl, g1, g2, Or.inr ⟨f, i', by omega, g3, g4, hb, g5, rfl⟩⟩
theorem m_certify (hI : MI T P fg P1 M) (hS : SI T P fg P1) (hfu : 300000 ≤ fu) : ∃ M' a, gm_X6_certify fu z (b32 v) (go_k 6 z M X) = some (a, go_k 6 z M' X) ∧ MI T P fg P1 M' ∧ ((∃ q R, sl P fg P1 v q R ∧ cv T R a) ∨ ((∀ q R, ¬ sl P fg P1 v q R) ∧ a = -1)) := by
  have hI := hI.s0 0
  have go : ∀ {q R}, sl P fg P1 v q R → ∃ M' a, gm_X6_certify_27 fu z (nI q) (go_k 6 z (go_si M 0 0) X) = some (a, go_k 6 z M' X) ∧ MI T P fg P1 M' ∧ ((∃ q R, sl P fg P1 v q R ∧ cv T R a) ∨ ((∀ q R, ¬ sl P fg P1 v q R) ∧ a = -1)) := by
    intro q R s
    obtain ⟨q2, hP, hm, hw⟩ := hI.sq hS s
    unfold gm_X6_certify_27
    have hc := hw.1
    obtain ⟨M', a, g1, g2, g3, g4⟩ := m_c30 (fu := fu) (z := z) (X := X) q2 hw hS.1 hfu (gp_c R) fu 0 _ hI.1 hP hm (by omega) (by omega) (fun _ _ h => absurd h (Nat.not_lt_zero _))
    exact ⟨M', a, g1, hI.fd hS s g2 g3, Or.inl ⟨q, R, s, g4⟩⟩
  unfold gm_X6_certify gm_X6_certify_18
  simp only [gq_6, Option.bind_some]
  cases v
  · rw [show b32 false = 0 from rfl, if_pos rfl, if_pos rfl]
    exact go (Or.inl ⟨rfl, rfl, rfl⟩)
  · rw [show b32 true = 1 from rfl, if_neg (by decide), show (go_si M 0 0).1 12 = _ from hI.2.2.2.1]
    by_cases g : fg
    · rw [gz_t g, if_neg (by decide), if_neg (by decide)]
      exact go (Or.inr ⟨rfl, g, rfl, rfl⟩)
    · rw [gz_f g, if_pos rfl]
      refine ⟨_, _, rfl, hI, Or.inr ⟨fun q R h => ?_, rfl⟩⟩
      rcases h with ⟨h, -⟩ | ⟨-, h, -⟩
      · cases h
      · exact absurd h g
end MS
