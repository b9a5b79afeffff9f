/-! the model: begin, always, function, code, handler -/
section MP
variable {fu z : Nat} {T : sT} {P P1 : sP} {fg : Prop} {M : go_O} {X : gx_H}
theorem m_b57 : ∀ (d n c : Nat) (M : go_O), c + d = 16 → d < n → ∃ M', gm_X6_begin_57 fu n z (nI c) (go_k 6 z M X) = some (1, go_k 6 z M' X) ∧ M'.1 = M.1 ∧ (∀ j, c ≤ j → j < 16 → mi M' 3 j = 0) ∧ ∀ a j, (a ≠ 3 ∨ j < c) → mi M' a j = mi M a j
  | d, 0, c, M, _, hn => absurd hn (Nat.not_lt_zero _)
  | d, n + 1, c, M, hd, hn => by
    rw [gm_X6_begin_57, li16]
    by_cases e0 : d = 0
    · rw [if_pos ((nI_leI (by omega) (by omega)).mpr (by omega))]
      exact ⟨M, rfl, rfl, fun j h1 h2 => by omega, fun _ _ _ => rfl⟩
    · rw [if_neg (fun q => absurd ((nI_leI (by omega) (by omega)).mp q) (by omega))]
      have r : c < 16 := by omega
      simp only [gq_6, r, nar0, Option.bind_some, nI_1]
      obtain ⟨M', a1, a2, a3, a4⟩ := m_b57 (d - 1) n (c + 1) (go_ai M 3 c 0) (by omega) (by omega)
      refine ⟨M', a1, a2, fun j h1 h2 => ?_, fun a j h => ?_⟩
      · by_cases e : j = c
        · rw [a4 3 j (by omega), mi_ai, if_pos ⟨rfl, e⟩]
        · exact a3 j (by omega) h2
      · rw [a4 a j (by omega), mi_ai, if_neg (by omega)]
theorem m_b36 (hfu : 20 ≤ fu) : ∀ (d n c : Nat) (M : go_O), c + d = 58560 → d < n → ∃ M', gm_X6_begin_36 fu n z (nI c) (go_k 6 z M X) = some (1, go_k 6 z M' X) ∧ M'.1 = M.1 ∧ (∀ j, c ≤ j → j < 58560 → mi M' 2 j = 0) ∧ (∀ j, j < 16 → mi M' 3 j = 0) ∧ ∀ a j, ((a ≠ 2 ∧ a ≠ 3) ∨ (a = 2 ∧ j < c)) → mi M' a j = mi M a j
  | d, 0, c, M, _, hn => absurd hn (Nat.not_lt_zero _)
  | d, n + 1, c, M, hd, hn => by
    rw [gm_X6_begin_36, li58560]
    by_cases e0 : d = 0
    · rw [if_pos ((nI_leI (by omega) (by omega)).mpr (by omega)), li0]
      obtain ⟨M', a1, a2, a3, a4⟩ := m_b57 (fu := fu) (z := z) (X := X) 16 fu 0 M (by omega) (by omega)
      exact ⟨M', a1, a2, fun j h1 h2 => by omega, fun j h => a3 j (by omega) h, fun a j h => a4 a j (by omega)⟩
    · rw [if_neg (fun q => absurd ((nI_leI (by omega) (by omega)).mp q) (by omega))]
      have r : c < 58560 := by omega
      simp only [gq_6, r, nar0, Option.bind_some, nI_1]
      obtain ⟨M', a1, a2, a3, a5, a4⟩ := m_b36 hfu (d - 1) n (c + 1) (go_ai M 2 c 0) (by omega) (by omega)
      refine ⟨M', a1, a2, fun j h1 h2 => ?_, a5, fun a j h => ?_⟩
      · by_cases e : j = c
        · rw [a4 2 j (by omega), mi_ai, if_pos ⟨rfl, e⟩]
        · exact a3 j (by omega) h2
      · rw [a4 a j (by omega), mi_ai, if_neg (by omega)]
/-- a number within bounds -/
def rg (x : Int32) (a b n : Nat) : Prop := x = nI n ∧ a ≤ n ∧ n ≤ b
theorem rg_no {x : Int32} {b : Nat} (hb : b < 2 ^ 31) : (x < (1 : Int32) → ¬ ∃ n, rg x 1 b n) ∧ (nI b < x → ¬ ∃ n, rg x 1 b n) ∧ (¬ x < (1 : Int32) → x ≤ nI b → ∃ n, rg x 1 b n) := by
  refine ⟨?_, ?_, fun h1 h2 => ?_⟩
  · rintro h ⟨n, rfl, h1, h2⟩
    rw [li1] at h
    exact absurd ((nI_ltI (by omega) (by omega)).mp h) (by omega)
  · rintro h ⟨n, rfl, h1, h2⟩
    exact absurd ((nI_ltI (by omega) (by omega)).mp h) (by omega)
  · have h0 : ¬ x < 0 := fun h => h1 (by
      rw [Int32.lt_iff_toInt_lt] at h ⊢
      rw [show ((0 : Int32)).toInt = 0 from rfl] at h
      rw [show ((1 : Int32)).toInt = 1 from rfl]
      omega)
    obtain ⟨j, hj, rfl⟩ := nI_of h0
    rw [li1] at h1
    have := (nI_leI hj hb).mp h2
    refine ⟨j, rfl, ?_, this⟩
    apply Classical.byContradiction
    intro q
    exact h1 ((nI_ltI hj (by omega)).mpr (by omega))
theorem rg_un {x : Int32} {a b n n' : Nat} (hb : b < 2 ^ 31) (h : rg x a b n) (h' : rg x a b n') : n = n' := by
  obtain ⟨rfl, h1, h2⟩ := h
  obtain ⟨e, h1', h2'⟩ := h'
  exact nI_inj (by omega) (by omega) e
set_option maxHeartbeats 1000000 in
theorem m_begin (hI : MI T P fg P1 M) (hfu : 60000 ≤ fu) (x : Int32) : ∃ M', gm_X6_begin fu z x (go_k 6 z M X) = some (gz (∃ n, rg x 1 60 n), go_k 6 z M' X) ∧ ((¬ ∃ n, rg x 1 60 n) → MI T P fg P1 M') ∧ ∀ n, rg x 1 60 n → MI (t0 n) (pZ P) False P1 M' := by
  unfold gm_X6_begin
  simp only [gq_6, Option.bind_some]
  have r := rg_no (x := x) (b := 60) (by omega)
  rw [li60]
  by_cases h1 : x < 1
  · rw [if_pos h1]
    exact ⟨go_si M 0 0, by rw [gz_f (r.1 h1)], fun _ => hI.s0 0, fun n hn => absurd ⟨n, hn⟩ (r.1 h1)⟩
  · rw [if_neg h1]
    by_cases h2 : x ≤ nI 60
    · have hx := r.2.2 h1 h2
      rw [if_pos h2, gx_ob6, m_change, Option.bind_some]
      have r0 : 0 < 2 := by omega
      rw [gz_t hx, li0]
      simp only [gq_6, r0, Option.bind_some]
      obtain ⟨M', a1, a2, a3, a4, a5⟩ := m_b36 (fu := fu) (z := z) (X := X) (by omega) 58560 fu 0 (go_ai (go_si (chg (go_si M 0 (nI 0))) 1 x) 4 0 (nI 0)) (by omega) (by omega)
      refine ⟨M', a1, fun no => absurd hx no, fun n hn => ?_⟩
      obtain ⟨rfl, hn1, hn2⟩ := hn
      refine MI_chg ⟨by rw [a2]; rfl, fun c s t hc hs ht => ?_, fun c hc => ?_⟩ ⟨?_, fun f hf => absurd hf (Nat.not_lt_zero _)⟩ ?_ (by rw [a2]; rfl)
      · rw [a3 _ (by omega) (by omega)]
        exact (if_neg (by intro q; cases q)).symm
      · rw [a4 c hc]
        exact (if_neg (by intro q; cases q)).symm
      · rw [a5 4 0 (by omega), mi_ai, if_pos ⟨rfl, rfl⟩]
        rfl
      · rw [a5 13 0 (by omega), mi_ai, if_neg (by omega)]
        exact (chg_i 13 0).trans (if_pos (by omega))
    · rw [if_neg h2]
      have no : ¬ ∃ n, rg x 1 60 n := fun ⟨n, e, _, h⟩ => h2 (by rw [e]; exact (nI_leI (by omega) (by omega)).mpr h)
      exact ⟨go_si M 0 0, by rw [gz_f no], fun _ => hI.s0 0, fun n hn => absurd ⟨n, hn⟩ no⟩
/-- a table with one TOLD -/
def ta (T : sT) (c : Nat) (b : Bool) : sT := (T.1, T.2.1, go_u T.2.2 c b)
def b32 (b : Bool) : Int32 := if b = true then 1 else 0
theorem b32_inj {a b : Bool} (h : b32 a = b32 b) : a = b := by
  cases a <;> cases b
  · rfl
  · exact absurd h (by decide)
  · exact absurd h (by decide)
  · rfl
theorem b32_nar (b : Bool) : vp_nar .boolean (b32 b) = b32 b := by cases b <;> rfl
set_option maxHeartbeats 1000000 in
theorem m_always (hI : MI T P fg P1 M) (hp : gp_wf P) (x : Int32) (b : Bool) : ∃ M', gm_X6_always fu z x (b32 b) (go_k 6 z M X) = some (gz (∃ c, x = nI c ∧ c < 16 ∧ gs_n T c ≠ b), go_k 6 z M' X) ∧ ((¬ ∃ c, x = nI c ∧ c < 16 ∧ gs_n T c ≠ b) → MI T P fg P1 M') ∧ ∀ c, x = nI c → c < 16 → gs_n T c ≠ b → MI (ta T c b) P False P1 M' := by
  unfold gm_X6_always
  simp only [gq_6, Option.bind_some]
  have r := in_rng (x := x) (n := 16) (by omega)
  have no : (¬ ∃ c, x = nI c ∧ c < 16) → ∃ M', some ((0 : Int32), go_k 6 z (go_si M 0 0) X) = some (gz (∃ c, x = nI c ∧ c < 16 ∧ gs_n T c ≠ b), go_k 6 z M' X) ∧ ((¬ ∃ c, x = nI c ∧ c < 16 ∧ gs_n T c ≠ b) → MI T P fg P1 M') ∧ ∀ c, x = nI c → c < 16 → gs_n T c ≠ b → MI (ta T c b) P False P1 M' := fun h =>
    ⟨go_si M 0 0, by rw [gz_f (fun ⟨c, h1, h2, _⟩ => h ⟨c, h1, h2⟩)], fun _ => hI.s0 0, fun c h1 h2 _ => absurd ⟨c, h1, h2⟩ h⟩
  by_cases x0 : x < 0
  · rw [if_pos x0]
    exact no (r.1 x0)
  · rw [if_neg x0, li15]
    by_cases x1 : nI 15 < x
    · rw [if_pos x1]
      refine no ?_
      rintro ⟨c, rfl, hc⟩
      exact absurd ((nI_ltI (by omega) (by omega)).mp x1) (by omega)
    · rw [if_neg x1]
      obtain ⟨c, hc, rfl⟩ := nI_of x0
      have c16 : c < 16 := by
        apply Classical.byContradiction
        intro q
        exact x1 ((nI_ltI (by omega) (by omega)).mpr (by omega))
      simp only [gq_6, c16, Option.bind_some]
      have e1 : (go_si M 0 0).2.2.2.1 3 c = b32 (gs_n T c) := hI.1.2.2 c c16
      rw [e1]
      by_cases eb : gs_n T c = b
      · rw [if_pos (by rw [eb])]
        have no : ¬ ∃ c', nI c = nI c' ∧ c' < 16 ∧ gs_n T c' ≠ b := by
          rintro ⟨c', h1, h2, h3⟩
          have := nI_inj (by omega) (by omega) h1
          subst this
          exact h3 eb
        exact ⟨go_si M 0 0, by rw [gz_f no], fun _ => hI.s0 0, fun c' h1 h2 h3 => absurd ⟨c', h1, h2, h3⟩ no⟩
      · rw [if_neg (fun h => eb (b32_inj h)), gx_ob6, m_change, Option.bind_some]
        simp only [gq_6, c16, b32_nar, Option.bind_some]
        refine ⟨_, by rw [gz_t ⟨c, rfl, c16, eb⟩], fun no => absurd ⟨c, rfl, c16, eb⟩ no, fun c' h1 h2 h3 => ?_⟩
        have := nI_inj (by omega) (by omega) h1
        subst this
        refine MI_chg ⟨hI.1.1, fun c' s t q1 q2 q3 => ?_, fun c' hc' => ?_⟩ ?_ ?_ rfl
        · rw [mi_ai, if_neg (by omega), chg_i, if_neg (by omega)]
          exact hI.1.2.1 c' s t q1 q2 q3
        · rw [mi_ai]
          show _ = if go_u T.2.2 c b c' = true then 1 else 0
          by_cases e : c' = c
          · rw [if_pos ⟨rfl, e⟩, e, go_u_s]
            rfl
          · rw [if_neg fun q => e q.2, go_u_n e, chg_i, if_neg (by omega)]
            exact hI.1.2.2 c' hc'
        · refine rmP_fr ?_ ?_ ?_ ?_ hp hI.2.1
          · rw [mi_ai, if_neg (by omega), chg_i, if_neg (by omega)]; rfl
          · intro a j ha _ _
            rw [mi_ai, if_neg (by omega), chg_i, if_neg (by omega)]; rfl
          · intro a j ha _ _
            rw [mi_ai, if_neg (by omega), chg_i, if_neg (by omega)]; rfl
          · intro a j ha _ _
            rw [mi_ai, if_neg (by omega), chg_i, if_neg (by omega)]; rfl
        · rw [mi_ai, if_neg (by omega), chg_i, if_pos (by omega)]
theorem m_f57 {c l : Nat} (hc : c < 8) (hl : l ≤ 200) {y : Int32} (hy : y = nI c) : ∀ (d n i : Nat) (M : go_O), i + d = l → d < n → mi M 4 0 = y → ∃ M', gm_X6_function_57 fu n z (nI l) (nI c) (nI i) (go_k 6 z M X) = some (nI c, go_k 6 z M' X) ∧ M'.1 = M.1 ∧ mi M' 4 0 = nI (c + 1) ∧ (∀ a j, (a = 7 ∨ a = 8) → i ≤ j → j < l → mi M' a (200 * c + j) = 0) ∧ ∀ a j, (a ≠ 4 ∨ j ≠ 0) → ((a ≠ 7 ∧ a ≠ 8) ∨ j < 200 * c + i ∨ 200 * c + l ≤ j) → mi M' a j = mi M a j
  | d, 0, i, M, _, hn, _ => absurd hn (Nat.not_lt_zero _)
  | d, n + 1, i, M, hd, hn, h4 => by
    rw [gm_X6_function_57]
    by_cases e0 : d = 0
    · rw [if_pos ((nI_leI (by omega) (by omega)).mpr (by omega)), li0]
      have r : 0 < 2 := by omega
      simp only [gq_6, r, Option.bind_some]
      refine ⟨_, rfl, rfl, ?_, fun a j _ h1 h2 => by omega, fun a j h1 h2 => by rw [mi_ai, if_neg (by omega)]⟩
      rw [mi_ai, if_pos ⟨rfl, rfl⟩, show M.2.2.2.1 4 0 = nI c from h4.trans hy, li1, nI_add]
    · rw [if_neg (fun q => absurd ((nI_leI (by omega) (by omega)).mp q) (by omega))]
      have r : 200 * c + i < 3200 := by omega
      rw [li200, pk_mul, nI_add, nI_1]
      simp only [gq_6, r, Option.bind_some]
      obtain ⟨M', a1, a2, a3, a4, a5⟩ := m_f57 hc hl hy (d - 1) n (i + 1) (go_ai (go_ai M 7 (200 * c + i) 0) 8 (200 * c + i) 0) (by omega) (by omega) h4
      refine ⟨M', a1, a2, a3, fun a j ha h1 h2 => ?_, fun a j h1 h2 => ?_⟩
      · by_cases e : j = i
        · rw [a5 a _ (by omega) (by omega), mi_ai]
          rcases ha with rfl | rfl
          · rw [if_neg (by omega), mi_ai, if_pos ⟨rfl, by rw [e]⟩]
          · rw [if_pos ⟨rfl, by rw [e]⟩]
        · exact a4 a j ha (by omega) h2
      · rw [a5 a j h1 (by omega), mi_ai, if_neg (by omega), mi_ai, if_neg (by omega)]
set_option maxHeartbeats 1000000 in
theorem m_function (hI : MI T P fg P1 M) (hp : gp_wf P) (hfu : 300 ≤ fu) (x : Int32) : ∃ M', (∃ v, gm_X6_function fu z x (go_k 6 z M X) = some (v, go_k 6 z M' X) ∧ (((¬ ∃ n, rg x 1 200 n ∧ gp_c P < 8) ∧ v = -1) ∨ ((∃ n, rg x 1 200 n ∧ gp_c P < 8) ∧ v = nI (gp_c P)))) ∧ ((¬ ∃ n, rg x 1 200 n ∧ gp_c P < 8) → MI T P fg P1 M') ∧ ∀ n, rg x 1 200 n → gp_c P < 8 → MI T (pF P n) False P1 M' := by
  have hc8 := hp.1
  have r := rg_no (x := x) (b := 200) (by omega)
  have no : (¬ ∃ n, rg x 1 200 n ∧ gp_c P < 8) → ∃ M', (∃ v, some ((-1 : Int32), go_k 6 z (go_si M 0 0) X) = some (v, go_k 6 z M' X) ∧ (((¬ ∃ n, rg x 1 200 n ∧ gp_c P < 8) ∧ v = -1) ∨ ((∃ n, rg x 1 200 n ∧ gp_c P < 8) ∧ v = nI (gp_c P)))) ∧ ((¬ ∃ n, rg x 1 200 n ∧ gp_c P < 8) → MI T P fg P1 M') ∧ ∀ n, rg x 1 200 n → gp_c P < 8 → MI T (pF P n) False P1 M' := fun h =>
    ⟨go_si M 0 0, ⟨-1, rfl, Or.inl ⟨h, rfl⟩⟩, fun _ => hI.s0 0, fun n h1 h2 => absurd ⟨n, h1, h2⟩ h⟩
  unfold gm_X6_function
  simp only [gq_6, Option.bind_some]
  rw [li200]
  by_cases h1 : x < 1
  · rw [if_pos h1]
    exact no fun ⟨n, h, _⟩ => r.1 h1 ⟨n, h⟩
  · rw [if_neg h1]
    by_cases h2 : nI 200 < x
    · rw [if_pos h2]
      exact no fun ⟨n, h, _⟩ => r.2.1 h2 ⟨n, h⟩
    · rw [if_neg h2]
      obtain ⟨n, hn⟩ := r.2.2 h1 (by
        rw [Int32.le_iff_toInt_le]
        rw [Int32.lt_iff_toInt_lt] at h2
        omega)
      have r0 : 0 < 2 := by omega
      have h4 : (go_si M 0 0).2.2.2.1 4 0 = nI (gp_c P) := hI.2.1.1
      rw [show (0 : Int32) = nI 0 from rfl] at h4 ⊢
      simp only [gq_6, r0, Option.bind_some, h4]
      rw [show (8 : Int32) = nI 8 from rfl]
      by_cases c8 : gp_c P = 8
      · rw [if_pos (by rw [c8])]
        exact no fun ⟨n, _, h⟩ => by omega
      · rw [if_neg (nI_ne (by omega) (by omega) c8), gx_ob6, m_change, Option.bind_some]
        have h4' : (chg (go_si M 0 (nI 0))).2.2.2.1 4 0 = nI (gp_c P) := hI.2.1.1
        have r8 : gp_c P < 16 := by omega
        simp only [gq_6, r0, r8, Option.bind_some, h4']
        have yes : ∃ n, rg x 1 200 n ∧ gp_c P < 8 := ⟨n, hn, by omega⟩
        obtain ⟨rfl, n1, n2⟩ := hn
        obtain ⟨M', a1, a2, a3, a4, a5⟩ := m_f57 (fu := fu) (z := z) (X := X) (c := gp_c P) (l := n) (by omega) n2 rfl n fu 0 (go_ai (go_ai (chg (go_si M 0 (nI 0))) 5 (gp_c P) (nI n)) 6 (gp_c P) (nI 0)) (by omega) (by omega) h4'
        refine ⟨M', ⟨_, a1, Or.inr ⟨yes, rfl⟩⟩, fun q => absurd yes q, fun n' hn' _ => ?_⟩
        have := rg_un (by omega) hn' ⟨rfl, n1, n2⟩
        subst this
        have fr : ∀ a j, (a ≠ 4 ∨ j ≠ 0) → ((a ≠ 7 ∧ a ≠ 8) ∨ j < 200 * gp_c P ∨ 200 * gp_c P + n' ≤ j) → ((a ≠ 5 ∧ a ≠ 6) ∨ j ≠ gp_c P) → (a ≠ 13 ∨ (j ≠ 0 ∧ j ≠ 1)) → mi M' a j = mi M a j := fun a j q1 q2 q3 q4 => by
          rw [a5 a j q1 (by omega), mi_ai, if_neg (by omega), mi_ai, if_neg (by omega), chg_i, if_neg (by omega)]
          rfl
        refine MI_chg (rmT_fr (by rw [a2]; rfl) (fun a j ha => fr a j (by omega) (by omega) (by omega) (by omega)) hI.1) ?_ ?_ (by rw [a2]; rfl)
        · refine ⟨a3, fun g hg => ?_⟩
          have hg : g < gp_c P + 1 := hg
          by_cases e : g = gp_c P
          · subst e
            refine ⟨?_, ?_, fun i hi => ?_, fun h hh => ?_⟩
            · rw [a5 5 _ (by omega) (by omega), mi_ai, if_neg (by omega), mi_ai, if_pos ⟨rfl, by omega⟩]
              exact (congrArg nI (go_u_s (f := gp_l P) (k := gp_c P) (v := n'))).symm
            · rw [a5 6 _ (by omega) (by omega), mi_ai, if_pos ⟨rfl, by omega⟩]
              exact (congrArg nI (go_u_s (f := gp_h P) (k := gp_c P) (v := 0))).symm
            · have hi : i < go_u (gp_l P) (gp_c P) n' (gp_c P) := hi
              rw [go_u_s] at hi
              have ek : gp_k (pF P n') (gp_c P) i = 0 := congrFun (go_u_s (f := gp_k P) (k := gp_c P) (v := fun _ => 0)) i
              have en : gp_n (pF P n') (gp_c P) i = 0 := congrFun (go_u_s (f := gp_n P) (k := gp_c P) (v := fun _ => 0)) i
              rw [ek, en, show 1600 * 0 + 200 * gp_c P + i = 200 * gp_c P + i by omega]
              exact ⟨a4 7 i (by omega) (by omega) hi, a4 8 i (by omega) (by omega) hi⟩
            · have hh : h < go_u (gp_h P) (gp_c P) 0 (gp_c P) := hh
              rw [go_u_s] at hh
              omega
          · obtain ⟨b1, b2, b3, b4⟩ := hI.2.1.2 g (by omega)
            obtain ⟨⟨-, l2⟩, l3, -, -⟩ := hp.2 g (by omega)
            have e1 : gp_l (pF P n') g = gp_l P g := go_u_n e
            have e2 : gp_h (pF P n') g = gp_h P g := go_u_n e
            have e3 : gp_k (pF P n') g = gp_k P g := go_u_n e
            have e4 : gp_n (pF P n') g = gp_n P g := go_u_n e
            rw [e1, e2, e3, e4]
            exact ⟨(fr 5 _ (by omega) (by omega) (by omega) (by omega)).trans b1, (fr 6 _ (by omega) (by omega) (by omega) (by omega)).trans b2, fun i hi => ⟨(fr 7 _ (by omega) (by omega) (by omega) (by omega)).trans (b3 i hi).1, (fr 8 _ (by omega) (by omega) (by omega) (by omega)).trans (b3 i hi).2⟩,
              fun k hk => ⟨(fr 9 _ (by omega) (by omega) (by omega) (by omega)).trans (b4 k hk).1, (fr 10 _ (by omega) (by omega) (by omega) (by omega)).trans (b4 k hk).2.1, (fr 11 _ (by omega) (by omega) (by omega) (by omega)).trans (b4 k hk).2.2⟩⟩
        · rw [a5 13 0 (by omega) (by omega), mi_ai, if_neg (by omega), mi_ai, if_neg (by omega), chg_i, if_pos (by omega)]
end MP
