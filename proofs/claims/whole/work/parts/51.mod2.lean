/-! the reference: which INSTRUCTIONS are gone to, which HOSTS are GUARDED, where WAYS lead -/
theorem nI_inj {a b : Nat} (ha : a < 2 ^ 31) (hb : b < 2 ^ 31) (h : nI a = nI b) : a = b := (nI_eq ha hb).mp h
theorem nI_ne {a b : Nat} (ha : a < 2 ^ 31) (hb : b < 2 ^ 31) (h : a ≠ b) : ¬ nI a = nI b := fun e => h (nI_inj ha hb e)
theorem nI_lit {a : Nat} (k : Nat) {x : Int32} (hx : x = nI k) (ha : a < 2 ^ 31) (hk : k < 2 ^ 31) : nI a = x ↔ a = k := by
  rw [hx]
  exact nI_eq ha hk
theorem nI_nl {a : Nat} (k : Nat) {x : Int32} (hx : nI k = x) (ha : a < 2 ^ 31) (hk : k < 2 ^ 31) (h : a ≠ k) : ¬ nI a = x := by
  rw [← hx]
  exact nI_ne ha hk h
theorem nI_m1 {a : Nat} (ha : a < 2 ^ 31) : ¬ nI a = (-1 : Int32) := by
  intro h
  have h1 := nI_pos ha
  rw [h] at h1
  exact h1 (by decide)
theorem gx_b2s {α β γ : Type} (a : α) (b : β) (k : α → β → Option γ) : gx_b2 (some (a, b)) k = k a b := rfl
theorem gx_ob6 {α : Type} (ci a : Nat) (M : go_O) (X : gx_H) (k : Option α) : gx_ob (go_k ci a M X) a ci k = k := by
  unfold gx_ob
  rw [if_pos go_is0]
section MGoal
variable {fu z q f i : Nat} {P : sP} {M : go_O} {X : gx_H}
set_option maxHeartbeats 1000000 in
theorem m_goal93 (hq : q < 2) (hP : rm_P q P M) (hw : gp_wf P) (hf : f < gp_c P) (hi : i < 2 ^ 31) (hj : ¬ ∃ j, j < gp_l P f ∧ (gp_k P f j = 1 ∨ gp_k P f j = 2) ∧ gp_n P f j = i) : ∀ (d n h : Nat), h + d = gp_h P f → d < n → (∀ h', h' < h → gp_g P f h' ≠ i) →
    gm_X6_isGoal_93 fu n z (nI q) (nI f) (nI i) (nI (6 * (8 * q + f) + h)) (go_k 6 z M X) = some (gz (gp_goal P f i), go_k 6 z M X)
  | d, 0, h, _, hn, _ => absurd hn (Nat.not_lt_zero _)
  | d, n + 1, h, hd, hn, hno => by
    obtain ⟨-, hh, -, hH⟩ := hP.2 f hf
    obtain ⟨-, h6, -, hHw⟩ := hw.2 f hf
    have hc := hw.1
    have r1 : 8 * q + f < 16 := by omega
    rw [gm_X6_isGoal_93]
    simp only [gq_6, li8, li6, pk_mul, nI_add, r1, Option.bind_some, hh]
    by_cases e : d = 0
    · rw [if_pos ((nI_leI (by omega) (by omega)).mpr (by omega)), gz_f]
      rintro (h1 | ⟨h', h1, h2⟩)
      · exact hj h1
      · exact hno h' (by omega) h2
    · rw [if_neg (fun c => absurd ((nI_leI (by omega) (by omega)).mp c) (by omega))]
      have r2 : 6 * (8 * q + f) + h < 96 := by omega
      obtain ⟨-, -, hg⟩ := hH h (by omega)
      obtain ⟨-, -, hgl⟩ := hHw h (by omega)
      have hl := (hw.2 f hf).1.2
      simp only [gq_6, r2, Option.bind_some, hg]
      by_cases e2 : gp_g P f h = i
      · rw [if_pos (by rw [e2]), gz_t (p := gp_goal P f i) (Or.inr ⟨h, by omega, e2⟩)]
      · rw [if_neg (nI_ne (by omega) hi e2), nI_1]
        exact m_goal93 hq hP hw hf hi hj (d - 1) n (h + 1) (by omega) (by omega) (fun h' hlt => by
          by_cases e3 : h' = h
          · subst e3; exact e2
          · exact hno h' (by omega))
set_option maxHeartbeats 1000000 in
theorem m_goal16 (hq : q < 2) (hP : rm_P q P M) (hw : gp_wf P) (hf : f < gp_c P) (hi : i < 2 ^ 31) (hfu : 7 ≤ fu) : ∀ (d n j : Nat), j + d = gp_l P f → d < n → (∀ j', j' < j → ¬ ((gp_k P f j' = 1 ∨ gp_k P f j' = 2) ∧ gp_n P f j' = i)) →
    gm_X6_isGoal_16 fu n z (nI q) (nI f) (nI i) (nI (1600 * q + 200 * f)) (nI j) (go_k 6 z M X) = some (gz (gp_goal P f i), go_k 6 z M X)
  | d, 0, j, _, hn, _ => absurd hn (Nat.not_lt_zero _)
  | d, n + 1, j, hd, hn, hno => by
    obtain ⟨hl, hh, hI, -⟩ := hP.2 f hf
    obtain ⟨⟨-, hl2⟩, h6, hIw, -⟩ := hw.2 f hf
    have hc := hw.1
    have r1 : 8 * q + f < 16 := by omega
    rw [gm_X6_isGoal_16]
    simp only [gq_6, li8, li6, pk_mul, nI_add, r1, Option.bind_some, hl]
    by_cases e : d = 0
    · rw [if_pos ((nI_leI (by omega) (by omega)).mpr (by omega))]
      refine m_goal93 hq hP hw hf hi ?_ (gp_h P f) fu 0 (by omega) (by omega) (fun h' hlt => by omega)
      intro ⟨j', h1, h2⟩
      exact hno j' (by omega) h2
    · rw [if_neg (fun c => absurd ((nI_leI (by omega) (by omega)).mp c) (by omega))]
      have r2 : 1600 * q + 200 * f + j < 3200 := by omega
      obtain ⟨hk, hn2⟩ := hI j (by omega)
      obtain ⟨hk8, hn12, hn3, hn45, hn0⟩ := hIw j (by omega)
      have hnb : gp_n P f j < 2 ^ 31 := by
        rcases (show gp_k P f j = 0 ∨ gp_k P f j = 1 ∨ gp_k P f j = 2 ∨ gp_k P f j = 3 ∨ gp_k P f j = 4 ∨ gp_k P f j = 5 ∨ gp_k P f j = 6 ∨ gp_k P f j = 7 ∨ gp_k P f j = 8 by omega) with h | h | h | h | h | h | h | h | h <;> omega
      have go : ¬ ((gp_k P f j = 1 ∨ gp_k P f j = 2) ∧ gp_n P f j = i) → gm_X6_isGoal_76 fu (gm_X6_isGoal_16 fu n) z (nI q) (nI f) (nI i) (nI (1600 * q + 200 * f)) (nI j) (go_k 6 z M X) = some (gz (gp_goal P f i), go_k 6 z M X) := by
        intro hne
        unfold gm_X6_isGoal_76
        rw [nI_1]
        exact m_goal16 hq hP hw hf hi hfu (d - 1) n (j + 1) (by omega) (by omega) (fun j' hlt => by
          by_cases e3 : j' = j
          · subst e3; exact hne
          · exact hno j' (by omega))
      have yes : (gp_k P f j = 1 ∨ gp_k P f j = 2) → gm_X6_isGoal_60 fu (gm_X6_isGoal_16 fu n) z (nI q) (nI f) (nI i) (nI (1600 * q + 200 * f)) (nI j) (go_k 6 z M X) = some (gz (gp_goal P f i), go_k 6 z M X) := by
        intro hk12
        unfold gm_X6_isGoal_60
        simp only [gq_6, nI_add, r2, Option.bind_some, hn2]
        by_cases e2 : gp_n P f j = i
        · rw [if_pos (by rw [e2]), gz_t (p := gp_goal P f i) (Or.inl ⟨j, by omega, hk12, e2⟩)]
        · rw [if_neg (nI_ne hnb hi e2)]
          exact go fun hh => e2 hh.2
      simp only [gq_6, nI_add, r2, Option.bind_some, hk]
      by_cases k1 : gp_k P f j = 1
      · rw [if_pos (by rw [k1]; rfl)]
        exact yes (Or.inl k1)
      · rw [if_neg (nI_nl 1 (x := 1) rfl (by omega) (by omega) k1)]
        by_cases k2 : gp_k P f j = 2
        · rw [if_pos (by rw [k2]; rfl)]
          exact yes (Or.inr k2)
        · rw [if_neg (nI_nl 2 (x := 2) rfl (by omega) (by omega) k2)]
          exact go fun hh => by omega
theorem m_isGoal (hq : q < 2) (hP : rm_P q P M) (hw : gp_wf P) (hf : f < gp_c P) (hi : i < 2 ^ 31) (hfu : 300 ≤ fu) : gm_X6_isGoal fu z (nI q) (nI f) (nI i) (go_k 6 z M X) = some (gz (gp_goal P f i), go_k 6 z M X) := by
  unfold gm_X6_isGoal
  rw [li1600, li200, pk_mul, pk_mul, nI_add]
  have := (hw.2 f hf).1.2
  exact m_goal16 hq hP hw hf hi (by omega) (gp_l P f) fu 0 (by omega) (by omega) (fun j' hlt => by omega)
theorem gp_nb (hw : gp_wf P) (hf : f < gp_c P) (hi : i < gp_l P f) : gp_n P f i < 200 := by
  obtain ⟨⟨-, hl2⟩, -, hIw, -⟩ := hw.2 f hf
  obtain ⟨hk8, hn12, hn3, hn45, hn0⟩ := hIw i hi
  rcases (show gp_k P f i = 0 ∨ gp_k P f i = 1 ∨ gp_k P f i = 2 ∨ gp_k P f i = 3 ∨ gp_k P f i = 4 ∨ gp_k P f i = 5 ∨ gp_k P f i = 6 ∨ gp_k P f i = 7 ∨ gp_k P f i = 8 by omega) with h | h | h | h | h | h | h | h | h <;> omega
set_option maxHeartbeats 1000000 in
theorem m_isGuarded (hq : q < 2) (hP : rm_P q P M) (hw : gp_wf P) (hf : f < gp_c P) (hi : i < gp_l P f) (hfu : 300 ≤ fu) : gm_X6_isGuarded fu z (nI q) (nI f) (nI i) (go_k 6 z M X) = some (gz (gp_gd P f i), go_k 6 z M X) := by
  obtain ⟨hl, hh, hI, -⟩ := hP.2 f hf
  obtain ⟨⟨-, hl2⟩, h6, hIw, -⟩ := hw.2 f hf
  have hc := hw.1
  have no : ∀ {p : Prop}, (¬ p) → gm_X6_isGuarded_92 fu (go_k 6 z M X) = some (gz p, go_k 6 z M X) := fun h => by rw [gz_f h]; rfl
  have r2 : 1600 * q + 200 * f + i < 3200 := by omega
  obtain ⟨hk, hn2⟩ := hI i hi
  have hk8 := (hIw i hi).1
  unfold gm_X6_isGuarded
  simp only [gq_6, li1600, li200, pk_mul, nI_add, r2, Option.bind_some, hk]
  by_cases k4 : gp_k P f i = 4
  · rw [if_pos (by rw [k4]; rfl)]
    by_cases i0 : i = 0
    · rw [if_pos (by rw [i0]; decide)]
      exact no fun h => absurd h.2.1 (by omega)
    · have hle : ¬ nI i ≤ 0 := nI_nle (by omega) (by omega)
      obtain ⟨hk', hn'⟩ := hI (i - 1) (by omega)
      have e1 : nI (1600 * q + 200 * f + i) - 1 = nI (1600 * q + 200 * f + (i - 1)) := by
        have : 1600 * q + 200 * f + i = (1600 * q + 200 * f + (i - 1)) + 1 := by omega
        rw [this, nI_pred]
      have r3 : 1600 * q + 200 * f + (i - 1) < 3200 := by omega
      have hk8' := (hIw (i - 1) (by omega)).1
      rw [if_neg hle, if_neg hle]
      unfold gm_X6_isGuarded_45
      simp only [gq_6, e1, r3, Option.bind_some, hk']
      by_cases k5 : gp_k P f (i - 1) = 5
      · rw [if_pos (by rw [k5]; rfl), if_neg hle]
        unfold gm_X6_isGuarded_66
        simp only [gq_6, e1, r3, r2, Option.bind_some, hn', hn2]
        have b1 := gp_nb hw hf (i := i - 1) (by omega)
        have b2 := gp_nb hw hf hi
        by_cases en : gp_n P f (i - 1) = gp_n P f i
        · rw [if_pos (by rw [en]), gx_ob6, m_isGoal hq hP hw hf (by omega) hfu, gx_b2s]
          by_cases hg : gp_goal P f i
          · rw [gz_t hg, if_neg (by decide)]
            exact no fun h => h.2.2.2.2 hg
          · rw [gz_f hg, if_pos rfl, gz_t (p := gp_gd P f i) ⟨k4, by omega, k5, en, hg⟩]
        · rw [if_neg (nI_ne (by omega) (by omega) en)]
          exact no fun h => en h.2.2.2.1
      · rw [if_neg (nI_nl 5 (x := 5) rfl (by omega) (by omega) k5)]
        exact no fun h => k5 h.2.2.1
  · rw [if_neg (nI_nl 4 (x := 4) rfl (by omega) (by omega) k4)]
    exact no fun h => k4 h.1
end MGoal
theorem m_wayAt {fu c s t : Nat} {X : gx_H} (ht : t < 2 ^ 31) : gm_X6_wayAt fu (nI c) (nI s) (nI t) X = some (nI (61 * (60 * c + s) + t), X) := by
  unfold gm_X6_wayAt
  rw [if_neg (nI_m1 ht), li61, li60, pk_mul, nI_add, pk_mul, nI_add]
theorem m_wayAtN {fu c s : Nat} {X : gx_H} : gm_X6_wayAt fu (nI c) (nI s) (-1) X = some (nI (61 * (60 * c + s) + 60), X) := by
  unfold gm_X6_wayAt
  rw [if_pos rfl, li61, li60, pk_mul, nI_add, pk_mul, nI_add]
