/-! the model: code, handler, which -/
def bel (P : sP) (f k : Nat) : Nat := if k = 1 ∨ k = 2 then gp_l P f else if k = 3 then 8 else if k = 4 ∨ k = 5 then 16 else 1
theorem ok_iff {P : sP} {f k n : Nat} (hk : k ≤ 8) : gp_ok P f k n ↔ n < bel P f k := by
  unfold gp_ok bel
  constructor
  · rintro ⟨-, h1, h2, h3, h4⟩
    split
    · exact h1 (by assumption)
    · split
      · exact h2 (by assumption)
      · split
        · exact h3 (by assumption)
        · have := h4 (by omega)
          omega
  · intro h
    refine ⟨hk, fun q => ?_, fun q => ?_, fun q => ?_, fun q => ?_⟩
    · rw [if_pos q] at h
      exact h
    · rw [if_neg (by omega), if_pos q] at h
      exact h
    · rw [if_neg (by omega), if_neg (by omega), if_pos q] at h
      exact h
    · rw [if_neg (by omega), if_neg (by omega), if_neg (by omega)] at h
      omega
theorem bel_le {P : sP} {f k : Nat} (hw : gp_wf P) (hf : f < gp_c P) : bel P f k ≤ 200 := by
  have := (hw.2 f hf).1.2
  unfold bel
  split
  · exact this
  · split
    · omega
    · split <;> omega
/-- the numbers of a code call that is taken -/
def cd (P : sP) (x y v w : Int32) (f i k n : Nat) : Prop := x = nI f ∧ f < gp_c P ∧ y = nI i ∧ i < gp_l P f ∧ v = nI k ∧ w = nI n ∧ gp_ok P f k n
/-- the numbers of a handler call that is taken -/
def hd (P : sP) (x y v w : Int32) (f a b g : Nat) : Prop := x = nI f ∧ f < gp_c P ∧ gp_h P f < 6 ∧ y = nI a ∧ v = nI b ∧ a < b ∧ b ≤ gp_l P f ∧ w = nI g ∧ g < gp_l P f
theorem cd_un {P : sP} {x y v w : Int32} {f i k n f' i' k' n' : Nat} (hw : gp_wf P) (h : cd P x y v w f i k n) (h' : cd P x y v w f' i' k' n') : f = f' ∧ i = i' ∧ k = k' ∧ n = n' := by
  obtain ⟨rfl, h2, rfl, h4, rfl, rfl, h7⟩ := h
  obtain ⟨e1, h2', e3, h4', e5, e6, h7'⟩ := h'
  have hc := hw.1
  have e1 := nI_inj (by omega) (by omega) e1
  subst e1
  have hl := (hw.2 f h2).1.2
  have a1 := (ok_iff h7.1).mp h7
  have a2 := (ok_iff h7'.1).mp h7'
  have a3 := bel_le (k := k) hw h2
  have a4 := bel_le (k := k') hw h2
  exact ⟨rfl, nI_inj (by omega) (by omega) e3, nI_inj (by have := h7.1; omega) (by have := h7'.1; omega) e5, nI_inj (by omega) (by omega) e6⟩
theorem hd_un {P : sP} {x y v w : Int32} {f i k n f' i' k' n' : Nat} (hw : gp_wf P) (h : hd P x y v w f i k n) (h' : hd P x y v w f' i' k' n') : f = f' ∧ i = i' ∧ k = k' ∧ n = n' := by
  obtain ⟨rfl, h2, h3, rfl, rfl, h6, h7, rfl, h9⟩ := h
  obtain ⟨e1, h2', h3', e4, e5, h6', h7', e8, h9'⟩ := h'
  have hc := hw.1
  have e1 := nI_inj (by omega) (by omega) e1
  subst e1
  have hl := (hw.2 f h2).1.2
  exact ⟨rfl, nI_inj (by omega) (by omega) e4, nI_inj (by omega) (by omega) e5, nI_inj (by omega) (by omega) e8⟩
section MQ
variable {fu z : Nat} {T : sT} {P P1 : sP} {fg : Prop} {M : go_O} {X : gx_H}
theorem m_below {f k : Nat} (hP : rm_P 0 P M) (hw : gp_wf P) (hf : f < gp_c P) (hk : k ≤ 8) : gm_X6_below fu z (nI f) (nI k) (go_k 6 z M X) = some (nI (bel P f k), go_k 6 z M X) := by
  have hc := hw.1
  have e5 : M.2.2.2.1 5 f = nI (gp_l P f) := by
    have := (hP.2 f hf).1
    rw [show 8 * 0 + f = f by omega] at this
    exact this
  have r : f < 16 := by omega
  unfold gm_X6_below gm_X6_below_10 gm_X6_below_39 bel
  simp only [gq_6, r, Option.bind_some, e5]
  by_cases k1 : k = 1
  · rw [if_pos (by rw [k1]; rfl), if_pos (Or.inl k1)]
  · rw [if_neg (nI_nl 1 (x := 1) rfl (by omega) (by omega) k1)]
    by_cases k2 : k = 2
    · rw [if_pos (by rw [k2]; rfl), if_pos (Or.inr k2)]
    · rw [if_neg (nI_nl 2 (x := 2) rfl (by omega) (by omega) k2), if_neg (show ¬ (k = 1 ∨ k = 2) by omega)]
      by_cases k3 : k = 3
      · rw [if_pos (by rw [k3]; rfl), if_pos k3]
        rfl
      · rw [if_neg (nI_nl 3 (x := 3) rfl (by omega) (by omega) k3), if_neg k3]
        by_cases k4 : k = 4
        · rw [if_pos (by rw [k4]; rfl), if_pos (Or.inl k4)]
          rfl
        · rw [if_neg (nI_nl 4 (x := 4) rfl (by omega) (by omega) k4)]
          by_cases k5 : k = 5
          · rw [if_pos (by rw [k5]; rfl), if_pos (Or.inr k5)]
            rfl
          · rw [if_neg (nI_nl 5 (x := 5) rfl (by omega) (by omega) k5), if_neg (show ¬ (k = 4 ∨ k = 5) by omega)]
            rfl
set_option maxHeartbeats 2000000 in
theorem m_code (hI : MI T P fg P1 M) (hp : gp_wf P) (x y v w : Int32) : ∃ M', gm_X6_code fu z x y v w (go_k 6 z M X) = some (gz (∃ f i k n, cd P x y v w f i k n), go_k 6 z M' X) ∧ ((¬ ∃ f i k n, cd P x y v w f i k n) → MI T P fg P1 M') ∧ ∀ f i k n, cd P x y v w f i k n → MI T (pC P f i k n) False P1 M' := by
  have hc8 := hp.1
  have no : (¬ ∃ f i k n, cd P x y v w f i k n) → ∃ M', some ((0 : Int32), go_k 6 z (go_si M 0 0) X) = some (gz (∃ f i k n, cd P x y v w f i k n), go_k 6 z M' X) ∧ ((¬ ∃ f i k n, cd P x y v w f i k n) → MI T P fg P1 M') ∧ ∀ f i k n, cd P x y v w f i k n → MI T (pC P f i k n) False P1 M' := fun h =>
    ⟨go_si M 0 0, by rw [gz_f h], fun _ => hI.s0 0, fun f i k n h1 => absurd ⟨f, i, k, n, h1⟩ h⟩
  have hP : rm_P 0 P (go_si M 0 0) := (hI.s0 0).2.1
  unfold gm_X6_code
  simp only [gq_6, Option.bind_some]
  rw [gx_ob6, show gm_X6_isThere fu z (0 : Int32) x y (go_k 6 z (go_si M 0 0) X) = _ from m_isThere (q := 0) (by omega) hP hp x y, gx_b2s]
  by_cases h1 : ∃ a b, x = nI a ∧ y = nI b ∧ a < gp_c P ∧ b < gp_l P a
  · rw [gz_t h1, if_neg (by decide)]
    obtain ⟨f, i, rfl, rfl, hf, hi⟩ := h1
    have hl := (hp.2 f hf).1.2
    by_cases v0 : v < 0
    · rw [if_pos v0]
      refine no ?_
      rintro ⟨f, i, k, n, -, -, -, -, rfl, -, h7⟩
      exact absurd v0 (nI_pos (by have := h7.1; omega))
    · rw [if_neg v0]
      obtain ⟨k, hk, rfl⟩ := nI_of v0
      by_cases v8 : (8 : Int32) < nI k
      · rw [if_pos v8]
        refine no ?_
        rintro ⟨f, i, k', n, -, -, -, -, e, -, h7⟩
        have := nI_inj hk (by have := h7.1; omega) e
        rw [li8] at v8
        have := (nI_ltI (by omega) hk).mp v8
        have := h7.1
        omega
      · rw [if_neg v8]
        have k8 : k ≤ 8 := by
          apply Classical.byContradiction
          intro q
          exact v8 (by rw [li8]; exact (nI_ltI (by omega) hk).mpr (by omega))
        by_cases w0 : w < 0
        · rw [if_pos w0]
          refine no ?_
          rintro ⟨f', i, k', n, -, h2, -, -, -, rfl, h7⟩
          have a1 := (ok_iff h7.1).mp h7
          have a2 := bel_le (k := k') hp h2
          exact absurd w0 (nI_pos (by omega))
        · rw [if_neg w0]
          obtain ⟨n, hn, rfl⟩ := nI_of w0
          have b200 := bel_le (k := k) hp hf
          rw [gx_ob6, m_below hP hp hf k8, gx_b2s]
          by_cases nb : n < bel P f k
          · rw [if_pos ((nI_ltI hn (by omega)).mpr nb), gx_ob6, m_change, Option.bind_some]
            have r : 200 * f + i < 3200 := by omega
            rw [li200, pk_mul, nI_add]
            simp only [gq_6, r, Option.bind_some]
            have yes : cd P (nI f) (nI i) (nI k) (nI n) f i k n := ⟨rfl, hf, rfl, hi, rfl, rfl, (ok_iff k8).mpr nb⟩
            refine ⟨_, by rw [gz_t ⟨f, i, k, n, yes⟩], fun q => absurd ⟨f, i, k, n, yes⟩ q, fun f' i' k' n' h' => ?_⟩
            obtain ⟨rfl, rfl, rfl, rfl⟩ := cd_un hp yes h'
            have fr : ∀ a j, ((a ≠ 7 ∧ a ≠ 8) ∨ j ≠ 200 * f + i) → (a ≠ 13 ∨ (j ≠ 0 ∧ j ≠ 1)) → mi (go_ai (go_ai (chg (go_si M 0 0)) 7 (200 * f + i) (nI k)) 8 (200 * f + i) (nI n)) a j = mi M a j := fun a j q1 q2 => by
              rw [mi_ai, if_neg (by omega), mi_ai, if_neg (by omega), chg_i, if_neg (by omega)]
              rfl
            refine MI_chg (rmT_fr (M := M) rfl (fun a j ha => fr a j (by omega) (by omega)) hI.1) ?_ ?_ rfl
            · refine ⟨(fr 4 0 (by omega) (by omega)).trans hI.2.1.1, fun g hg => ?_⟩
              have hg : g < gp_c P := hg
              obtain ⟨b1, b2, b3, b4⟩ := hI.2.1.2 g hg
              obtain ⟨⟨-, l2⟩, l3, -, -⟩ := hp.2 g hg
              refine ⟨(fr 5 _ (by omega) (by omega)).trans b1, (fr 6 _ (by omega) (by omega)).trans b2, fun j hj => ?_, fun k hk => ⟨(fr 9 _ (by omega) (by omega)).trans (b4 k hk).1, (fr 10 _ (by omega) (by omega)).trans (b4 k hk).2.1, (fr 11 _ (by omega) (by omega)).trans (b4 k hk).2.2⟩⟩
              have hj : j < gp_l P g := hj
              have ek : gp_k (pC P f i k n) g j = if g = f ∧ j = i then k else gp_k P g j := go_w_e _ _ _ _ _ _
              have en : gp_n (pC P f i k n) g j = if g = f ∧ j = i then n else gp_n P g j := go_w_e _ _ _ _ _ _
              rw [ek, en]
              by_cases e : g = f ∧ j = i
              · rw [if_pos e, if_pos e, mi_ai, if_neg (by omega), mi_ai, if_pos ⟨rfl, by omega⟩, mi_ai, if_pos ⟨rfl, by omega⟩]
                exact ⟨rfl, rfl⟩
              · rw [if_neg e, if_neg e, fr 7 _ (by omega) (by omega), fr 8 _ (by omega) (by omega)]
                exact b3 j hj
            · rw [mi_ai, if_neg (by omega), mi_ai, if_neg (by omega), chg_i, if_pos (by omega)]
          · rw [if_neg (fun q => nb ((nI_ltI hn (by omega)).mp q))]
            refine no ?_
            rintro ⟨f', i', k', n', e1, h2, -, -, e5, e6, h7⟩
            have e1 := nI_inj (by omega) (by omega) e1
            subst e1
            have e5 := nI_inj hk (by have := h7.1; omega) e5
            subst e5
            have a1 := (ok_iff h7.1).mp h7
            have e6 := nI_inj hn (by omega) e6
            subst e6
            exact nb a1
  · rw [gz_f h1, if_pos rfl]
    exact no fun ⟨f, i, k, n, e1, h2, e3, h4, _⟩ => h1 ⟨f, i, e1, e3, h2, h4⟩
set_option maxHeartbeats 2000000 in
theorem m_handler (hI : MI T P fg P1 M) (hp : gp_wf P) (x y v w : Int32) : ∃ M', gm_X6_handler fu z x y v w (go_k 6 z M X) = some (gz (∃ f a b g, hd P x y v w f a b g), go_k 6 z M' X) ∧ ((¬ ∃ f a b g, hd P x y v w f a b g) → MI T P fg P1 M') ∧ ∀ f a b g, hd P x y v w f a b g → MI T (pH P f a b g) False P1 M' := by
  have hc8 := hp.1
  have no : (¬ ∃ f a b g, hd P x y v w f a b g) → ∃ M', some ((0 : Int32), go_k 6 z (go_si M 0 0) X) = some (gz (∃ f a b g, hd P x y v w f a b g), go_k 6 z M' X) ∧ ((¬ ∃ f a b g, hd P x y v w f a b g) → MI T P fg P1 M') ∧ ∀ f a b g, hd P x y v w f a b g → MI T (pH P f a b g) False P1 M' := fun h =>
    ⟨go_si M 0 0, by rw [gz_f h], fun _ => hI.s0 0, fun f i k n h1 => absurd ⟨f, i, k, n, h1⟩ h⟩
  have hP : rm_P 0 P (go_si M 0 0) := (hI.s0 0).2.1
  unfold gm_X6_handler
  simp only [gq_6, Option.bind_some]
  rw [gx_ob6, show gm_X6_isThere fu z (0 : Int32) x (0 : Int32) (go_k 6 z (go_si M 0 0) X) = _ from m_isThere (q := 0) (by omega) hP hp x 0, gx_b2s]
  by_cases h1 : ∃ a b, x = nI a ∧ (0 : Int32) = nI b ∧ a < gp_c P ∧ b < gp_l P a
  · rw [gz_t h1, if_neg (by decide)]
    obtain ⟨f, -, rfl, -, hf, -⟩ := h1
    obtain ⟨⟨l1, l2⟩, l3, -, -⟩ := hp.2 f hf
    have e5 : (go_si M 0 0).2.2.2.1 5 f = nI (gp_l P f) := by
      have := (hP.2 f hf).1
      rw [show 8 * 0 + f = f by omega] at this
      exact this
    have e6 : (go_si M 0 0).2.2.2.1 6 f = nI (gp_h P f) := by
      have := (hP.2 f hf).2.1
      rw [show 8 * 0 + f = f by omega] at this
      exact this
    have r : f < 16 := by omega
    have un : ∀ {f' a b g}, hd P (nI f) y v w f' a b g → f = f' := fun h => nI_inj (by omega) (by have := h.2.1; omega) h.1
    simp only [gq_6, r, Option.bind_some, e5, e6]
    by_cases h6 : gp_h P f = 6
    · rw [if_pos (by rw [h6]; rfl)]
      refine no ?_
      rintro ⟨f', a, b, g, h⟩
      have := un h
      subst this
      have := h.2.2.1
      omega
    · rw [if_neg (nI_nl 6 (x := 6) rfl (by omega) (by omega) h6)]
      by_cases y0 : y < 0
      · rw [if_pos y0]
        refine no ?_
        rintro ⟨f', a, b, g, h⟩
        have := un h
        subst this
        obtain ⟨-, -, -, rfl, -, q1, q2, -⟩ := h
        exact absurd y0 (nI_pos (by omega))
      · rw [if_neg y0]
        obtain ⟨a, ha, rfl⟩ := nI_of y0
        by_cases va : v ≤ nI a
        · rw [if_pos va]
          refine no ?_
          rintro ⟨f', a', b, g, h⟩
          have := un h
          subst this
          obtain ⟨-, -, -, e, rfl, q1, q2, -⟩ := h
          have := nI_inj ha (by omega) e
          subst this
          exact absurd ((nI_leI (by omega) ha).mp va) (by omega)
        · rw [if_neg va]
          have v0 : ¬ v < 0 := fun q => va (by
            rw [Int32.le_iff_toInt_le]
            rw [Int32.lt_iff_toInt_lt, show ((0 : Int32)).toInt = 0 from rfl] at q
            rw [nI_toInt ha]
            omega)
          obtain ⟨b, hb, rfl⟩ := nI_of v0
          have ab : a < b := by
            apply Classical.byContradiction
            intro q
            exact va ((nI_leI hb ha).mpr (by omega))
          by_cases bl : nI (gp_l P f) < nI b
          · rw [if_pos bl]
            refine no ?_
            rintro ⟨f', a', b', g, h⟩
            have := un h
            subst this
            obtain ⟨-, -, -, -, e, q1, q2, -⟩ := h
            have := nI_inj hb (by omega) e
            have := (nI_ltI (by omega) hb).mp bl
            omega
          · rw [if_neg bl]
            have bl : b ≤ gp_l P f := by
              apply Classical.byContradiction
              intro q
              exact bl ((nI_ltI (by omega) hb).mpr (by omega))
            by_cases w0 : w < 0
            · rw [if_pos w0]
              refine no ?_
              rintro ⟨f', a', b', g, h⟩
              have := un h
              subst this
              obtain ⟨-, -, -, -, -, -, -, rfl, q⟩ := h
              exact absurd w0 (nI_pos (by omega))
            · rw [if_neg w0]
              obtain ⟨g, hg, rfl⟩ := nI_of w0
              by_cases gl : g < gp_l P f
              · rw [if_pos ((nI_ltI hg (by omega)).mpr gl), gx_ob6, m_change, Option.bind_some]
                have e6' : (chg (go_si M 0 0)).2.2.2.1 6 f = nI (gp_h P f) := e6
                have r6 : 6 * f + gp_h P f < 96 := by omega
                simp only [gq_6, r, Option.bind_some, e6']
                rw [show (6 : Int32) * nI f + nI (gp_h P f) = nI (6 * f + gp_h P f) by rw [li6, pk_mul, nI_add]]
                have e6'' : (go_ai (go_ai (go_ai (chg (go_si M 0 0)) 9 (6 * f + gp_h P f) (nI a)) 10 (6 * f + gp_h P f) (nI b)) 11 (6 * f + gp_h P f) (nI g)).2.2.2.1 6 f = nI (gp_h P f) := e6
                simp only [gq_6, r, r6, Option.bind_some, e6'', nI_1]
                have yes : hd P (nI f) (nI a) (nI b) (nI g) f a b g := ⟨rfl, hf, by omega, rfl, rfl, ab, bl, rfl, gl⟩
                refine ⟨_, by rw [gz_t ⟨f, a, b, g, yes⟩], fun q => absurd ⟨f, a, b, g, yes⟩ q, fun f' a' b' g' h' => ?_⟩
                obtain ⟨rfl, rfl, rfl, rfl⟩ := hd_un hp yes h'
                generalize hM : go_ai (go_ai (go_ai (go_ai (chg (go_si M 0 0)) 9 (6 * f + gp_h P f) (nI a)) 10 (6 * f + gp_h P f) (nI b)) 11 (6 * f + gp_h P f) (nI g)) 6 f (nI (gp_h P f + 1)) = M'
                have at' : ∀ aa j, mi M' aa j = if aa = 6 ∧ j = f then nI (gp_h P f + 1) else if aa = 11 ∧ j = 6 * f + gp_h P f then nI g else if aa = 10 ∧ j = 6 * f + gp_h P f then nI b else if aa = 9 ∧ j = 6 * f + gp_h P f then nI a else if aa = 13 ∧ (j = 0 ∨ j = 1) then 0 else mi M aa j := fun aa j => by
                  rw [← hM, mi_ai, mi_ai, mi_ai, mi_ai, chg_i]
                  rfl
                have fr : ∀ aa j, (aa ≠ 6 ∨ j ≠ f) → ((aa ≠ 9 ∧ aa ≠ 10 ∧ aa ≠ 11) ∨ j ≠ 6 * f + gp_h P f) → (aa ≠ 13 ∨ (j ≠ 0 ∧ j ≠ 1)) → mi M' aa j = mi M aa j := fun aa j q1 q2 q3 => by
                  rw [at', if_neg (by omega), if_neg (by omega), if_neg (by omega), if_neg (by omega), if_neg (by omega)]
                refine MI_chg (rmT_fr (by rw [← hM]; rfl) (fun aa j ha => fr aa j (by omega) (by omega) (by omega)) hI.1) ?_ ?_ (by rw [← hM]; rfl)
                · refine ⟨(fr 4 0 (by omega) (by omega) (by omega)).trans hI.2.1.1, fun k hk => ?_⟩
                  have hk : k < gp_c P := hk
                  obtain ⟨b1, b2, b3, b4⟩ := hI.2.1.2 k hk
                  obtain ⟨⟨-, k2⟩, k3, -, -⟩ := hp.2 k hk
                  refine ⟨(fr 5 _ (by omega) (by omega) (by omega)).trans b1, ?_, fun j hj => ?_, fun h hh => ?_⟩
                  · show mi M' 6 (8 * 0 + k) = nI (go_u (gp_h P) f (gp_h P f + 1) k)
                    by_cases e : k = f
                    · rw [at', if_pos (by omega), e, go_u_s]
                    · rw [fr 6 _ (by omega) (by omega) (by omega), go_u_n e]
                      exact b2
                  · have hj : j < gp_l P k := hj
                    exact ⟨(fr 7 _ (by omega) (by omega) (by omega)).trans (b3 j hj).1, (fr 8 _ (by omega) (by omega) (by omega)).trans (b3 j hj).2⟩
                  · have hh : h < go_u (gp_h P) f (gp_h P f + 1) k := hh
                    show mi M' 9 (6 * (8 * 0 + k) + h) = nI (go_w (gp_a P) f (gp_h P f) a k h) ∧ mi M' 10 (6 * (8 * 0 + k) + h) = nI (go_w (gp_b P) f (gp_h P f) b k h) ∧ mi M' 11 (6 * (8 * 0 + k) + h) = nI (go_w (gp_g P) f (gp_h P f) g k h)
                    rw [go_w_e, go_w_e, go_w_e]
                    by_cases e : k = f
                    · subst e
                      rw [go_u_s] at hh
                      by_cases e2 : h = gp_h P k
                      · rw [if_pos ⟨rfl, e2⟩, if_pos ⟨rfl, e2⟩, if_pos ⟨rfl, e2⟩, at', at', at']
                        refine ⟨?_, ?_, ?_⟩
                        · rw [if_neg (by omega), if_neg (by omega), if_neg (by omega), if_pos (by omega)]
                        · rw [if_neg (by omega), if_neg (by omega), if_pos (by omega)]
                        · rw [if_neg (by omega), if_pos (by omega)]
                      · rw [if_neg fun q => e2 q.2, if_neg fun q => e2 q.2, if_neg fun q => e2 q.2, fr 9 _ (by omega) (by omega) (by omega), fr 10 _ (by omega) (by omega) (by omega), fr 11 _ (by omega) (by omega) (by omega)]
                        exact b4 h (by omega)
                    · rw [go_u_n e] at hh
                      rw [if_neg fun q => e q.1, if_neg fun q => e q.1, if_neg fun q => e q.1, fr 9 _ (by omega) (by omega) (by omega), fr 10 _ (by omega) (by omega) (by omega), fr 11 _ (by omega) (by omega) (by omega)]
                      exact b4 h hh
                · rw [at', if_neg (by omega), if_neg (by omega), if_neg (by omega), if_neg (by omega), if_pos (by omega)]
              · rw [if_neg (fun q => gl ((nI_ltI hg (by omega)).mp q))]
                refine no ?_
                rintro ⟨f', a', b', g', h⟩
                have := un h
                subst this
                obtain ⟨-, -, -, -, -, -, -, e, q⟩ := h
                have := nI_inj hg (by omega) e
                omega
  · rw [gz_f h1, if_pos rfl]
    refine no ?_
    rintro ⟨f, a, b, g, e1, h2, -⟩
    exact h1 ⟨f, 0, e1, rfl, h2, (hp.2 f h2).1.1⟩
end MQ
