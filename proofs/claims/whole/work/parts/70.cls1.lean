/-! the class's Table: its simple methods -/
/-- a WAY's three numbers -/
def cb (T : sT) (x y z : Int32) (c s t : Nat) : Prop := x = nI c ∧ c < 16 ∧ y = nI s ∧ s < gs_S T ∧ ((z = -1 ∧ t = 60) ∨ (z = nI t ∧ t < gs_S T))
theorem in_rng {x : Int32} {n : Nat} (hn : n < 2 ^ 31) : (x < 0 → ¬ ∃ j, x = nI j ∧ j < n) ∧ (¬ x < 0 → nI n ≤ x → ¬ ∃ j, x = nI j ∧ j < n) ∧ (¬ x < 0 → ¬ nI n ≤ x → ∃ j, x = nI j ∧ j < n) := by
  refine ⟨?_, ?_, fun h0 h1 => ?_⟩
  · rintro h ⟨j, rfl, hj⟩
    exact absurd h (nI_pos (by omega))
  · rintro h0 h ⟨j, rfl, hj⟩
    exact absurd ((nI_leI (by omega) (by omega)).mp h) (by omega)
  · obtain ⟨j, hj, rfl⟩ := nI_in0 h0 hn h1
    exact ⟨j, rfl, hj⟩
section CT1
variable {fu aT : Nat} {T : sT} {O : go_O} {X : gx_H}
theorem c_isCall (x : Int32) : gm_X4_isCall fu aT x X = some (gz (∃ c, x = nI c ∧ c < 16), X) := by
  unfold gm_X4_isCall gm_X4_isCall_14
  have r := in_rng (x := x) (n := 16) (by omega)
  rw [li16]
  by_cases x0 : x < 0
  · rw [if_pos x0, gz_f (r.1 x0)]
  · rw [if_neg x0]
    by_cases x1 : nI 16 ≤ x
    · rw [if_pos x1, gz_f (r.2.1 x0 x1)]
    · rw [if_neg x1, gz_t (r.2.2 x0 x1)]
theorem c_isState (e : go_k 4 aT O X = X) (hT : rt T O) (hw : gs_wf T) (x : Int32) : gm_X4_isState fu aT x X = some (gz (∃ c, x = nI c ∧ c < gs_S T), X) := by
  have h60 := hw.2.1
  have q := gq_4 aT O X
  rw [e] at q
  unfold gm_X4_isState gm_X4_isState_16
  have r := in_rng (x := x) (n := gs_S T) (by omega)
  by_cases x0 : x < 0
  · rw [if_pos x0, gz_f (r.1 x0)]
  · rw [if_neg x0]
    simp only [q, Option.bind_some, hT.1]
    by_cases x1 : nI (gs_S T) ≤ x
    · rw [if_pos x1, gz_f (r.2.1 x0 x1)]
    · rw [if_neg x1, gz_t (r.2.2 x0 x1)]
theorem c_canBe (e : go_k 4 aT O X = X) (hT : rt T O) (hw : gs_wf T) (x y z : Int32) : gm_X4_canBe fu aT x y z X = some (gz (∃ c s t, cb T x y z c s t), X) := by
  unfold gm_X4_canBe gm_X4_canBe_29 gm_X4_canBe_33
  rw [gx_obT e, c_isCall, gx_b2s]
  by_cases h1 : ∃ c, x = nI c ∧ c < 16
  · rw [gz_t h1, if_neg (by decide), gx_obT e, c_isState e hT hw, gx_b2s]
    by_cases h2 : ∃ c, y = nI c ∧ c < gs_S T
    · rw [gz_t h2, if_neg (by decide)]
      obtain ⟨c, a1, a2⟩ := h1
      obtain ⟨s, b1, b2⟩ := h2
      by_cases h3 : z = -1
      · rw [if_pos h3, gz_t ⟨c, s, 60, a1, a2, b1, b2, Or.inl ⟨h3, rfl⟩⟩]
      · rw [if_neg h3, gx_obT e, c_isState e hT hw, gx_b2s]
        by_cases h4 : ∃ c, z = nI c ∧ c < gs_S T
        · rw [gz_t h4, if_neg (by decide)]
          obtain ⟨t, d1, d2⟩ := h4
          rw [gz_t ⟨c, s, t, a1, a2, b1, b2, Or.inr ⟨d1, d2⟩⟩]
        · rw [gz_f h4, if_pos rfl, gz_f]
          rintro ⟨c, s, t, -, -, -, -, ⟨h, -⟩ | ⟨h, h'⟩⟩
          · exact h3 h
          · exact h4 ⟨t, h, h'⟩
    · rw [gz_f h2, if_pos rfl, gz_f]
      rintro ⟨c, s, t, -, -, h, h', -⟩
      exact h2 ⟨s, h, h'⟩
  · rw [gz_f h1, if_pos rfl, gz_f]
    rintro ⟨c, s, t, h, h', -⟩
    exact h1 ⟨c, h, h'⟩
theorem cb_t (hw : gs_wf T) {x y z : Int32} {c s t : Nat} (h : cb T x y z c s t) : s < 60 ∧ t < 61 ∧ (t < gs_S T ∨ t = 60) := by
  have h60 := hw.2.1
  obtain ⟨-, -, -, h2, h3⟩ := h
  omega
theorem c_bitOf (hw : gs_wf T) {z : Int32} {t : Nat} (h : (z = -1 ∧ t = 60) ∨ (z = nI t ∧ t < gs_S T)) : ∃ v, gm_X4_bitOf fu z X = some (v, X) ∧ ∀ s, gb v s = decide (t = s) := by
  have h60 := hw.2.1
  unfold gm_X4_bitOf
  rcases h with ⟨h1, h2⟩ | ⟨h1, h2⟩
  · rw [if_pos h1]
    exact ⟨_, rfl, fun s => by rw [li60, gb_shl (by omega), h2]⟩
  · rw [if_neg (by rw [h1]; exact nI_m1 (by omega))]
    exact ⟨_, rfl, fun s => by rw [h1, gb_shl (by omega)]⟩
theorem c_hasWay (e : go_k 4 aT O X = X) (hT : rt T O) (hw : gs_wf T) {x y z : Int32} {c s t : Nat} (h : cb T x y z c s t) : gm_X4_hasWay fu aT x y z X = some (gz (gs_w T c s t = true), X) := by
  obtain ⟨b1, b2, b3⟩ := cb_t hw h
  obtain ⟨rfl, h2, rfl, h4, h5⟩ := h
  unfold gm_X4_hasWay
  obtain ⟨v, v1, v2⟩ := c_bitOf (fu := fu) (X := X) hw h5
  rw [gx_obT e, c_waysFrom e h2 b1, gx_b2s, v1, gx_b2s]
  have k : (ml O 1 (60 * c + s) &&& v) = 0 ↔ ¬ gs_w T c s t = true := by
    rw [gb_z]
    constructor
    · intro q w
      have := q t
      rw [gb_and, v2, (hT.2.1 c s t h2 b1).mpr w, decide_eq_true rfl] at this
      cases this
    · intro q r
      rw [gb_and, v2]
      by_cases er : t = r
      · subst er
        have : gb (ml O 1 (60 * c + s)) t = false := by
          cases g : gb (ml O 1 (60 * c + s)) t
          · rfl
          · exact absurd ((hT.2.1 c s t h2 b1).mp g) q
        rw [this, Bool.false_and]
      · rw [decide_eq_false er, Bool.and_false]
  by_cases w : gs_w T c s t = true
  · rw [if_neg (fun q => k.mp (gb_cmp.mp q) w), gz_t w]
  · rw [if_pos (gb_cmp.mpr (k.mpr w)), gz_f w]
/-- a table with one WAY more -/
def tw (T : sT) (c s t : Nat) : sT := (T.1, fun c' s' t' => if c' = c ∧ s' = s ∧ t' = t then true else T.2.1 c' s' t', T.2.2)
theorem tw_wf (hw : gs_wf T) {x y z : Int32} {c s t : Nat} (h : cb T x y z c s t) : gs_wf (tw T c s t) := by
  obtain ⟨b1, b2, b3⟩ := cb_t hw h
  obtain ⟨rfl, h2, rfl, h4, h5⟩ := h
  refine ⟨hw.1, hw.2.1, fun c' s' t' q => ?_⟩
  unfold tw gs_w at q
  dsimp only at q
  by_cases cc : c' = c ∧ s' = s ∧ t' = t
  · obtain ⟨rfl, rfl, rfl⟩ := cc
    exact ⟨h2, h4, b3⟩
  · rw [if_neg cc] at q
    exact hw.2.2 c' s' t' q
set_option maxHeartbeats 1000000 in
theorem c_addWay (e : go_k 4 aT O X = X) (hT : rt T O) (hw : gs_wf T) {x y z : Int32} {c s t : Nat} (h : cb T x y z c s t) : ∃ O', gm_X4_addWay fu aT x y z X = some (go_k 4 aT O' X) ∧ rt (tw T c s t) O' ∧ O'.1 3 = O.1 3 + 1 := by
  obtain ⟨b1, b2, b3⟩ := cb_t hw h
  obtain ⟨rfl, h2, rfl, h4, h5⟩ := h
  have q := gq_4 aT O X
  rw [e] at q
  have r : 60 * c + s < 960 := by omega
  unfold gm_X4_addWay
  obtain ⟨v, v1, v2⟩ := c_bitOf (fu := fu) (X := X) hw h5
  rw [li60, pk_mul, nI_add, show c * 60 + s = 60 * c + s by omega]
  simp only [q, r, Option.bind_some, v1, gx_b2s, gq_4]
  refine ⟨_, rfl, ⟨hT.1, fun c' s' t' q1 q2 => ?_, hT.2.2⟩, rfl⟩
  show gb (ml (go_al O 1 (60 * c + s) (ml O 1 (60 * c + s) ||| v)) 1 (60 * c' + s')) t' = true ↔ _
  rw [ml_al]
  by_cases cc : c' = c ∧ s' = s
  · obtain ⟨rfl, rfl⟩ := cc
    rw [if_pos ⟨rfl, rfl⟩, gb_or, v2]
    show _ ↔ (if c' = c' ∧ s' = s' ∧ t' = t then true else T.2.1 c' s' t') = true
    have := hT.2.1 c' s' t' q1 q2
    by_cases ct : t' = t
    · rw [if_pos ⟨rfl, rfl, ct⟩, decide_eq_true ct.symm, Bool.or_true]
    · rw [if_neg fun q => ct q.2.2, decide_eq_false (fun q => ct q.symm), Bool.or_false]
      exact this
  · rw [if_neg (by omega)]
    show _ ↔ (if c' = c ∧ s' = s ∧ t' = t then true else T.2.1 c' s' t') = true
    rw [if_neg fun q => cc ⟨q.1, q.2.1⟩]
    exact hT.2.1 c' s' t' q1 q2
/-- how many are TOLD always -/
def nl (T : sT) : Nat := gn_s (fun c => if gs_n T c = true then 1 else 0) 16
theorem c_cntA4 (e : go_k 4 aT O X = X) (hT : rt T O) : ∀ (d n c : Nat), c + d = 16 → d < n → gm_X4_countAlways_4 fu n aT (nI (gn_s (fun c => if gs_n T c = true then 1 else 0) c)) (nI c) X = some (nI (nl T), X)
  | d, 0, c, _, hn => absurd hn (Nat.not_lt_zero _)
  | d, n + 1, c, hd, hn => by
    have q := gq_4 aT O X
    rw [e] at q
    rw [gm_X4_countAlways_4, li16]
    by_cases e0 : d = 0
    · rw [if_pos ((nI_leI (by omega) (by omega)).mpr (by omega)), show c = 16 by omega]
      rfl
    · rw [if_neg (fun q => absurd ((nI_leI (by omega) (by omega)).mp q) (by omega))]
      have r : c < 16 := by omega
      have h := hT.2.2 c r
      have ih := c_cntA4 e hT (d - 1) n (c + 1) (by omega) (by omega)
      unfold gm_X4_countAlways_25
      simp only [q, r, Option.bind_some]
      rw [show O.2.2.2.1 0 c = _ from h, nI_1]
      rw [gn_s] at ih
      by_cases w : gs_n T c = true
      · rw [if_pos w, if_neg (by decide), li1, nI_add]
        rw [if_pos w] at ih
        exact ih
      · rw [if_neg w, if_pos rfl, li0, nI_add]
        rw [if_neg w] at ih
        exact ih
theorem c_countAlways (e : go_k 4 aT O X = X) (hT : rt T O) (hfu : 20 ≤ fu) : gm_X4_countAlways fu aT X = some (nI (nl T), X) := c_cntA4 e hT 16 fu 0 (by omega) (by omega)
theorem c_ren36 : ∀ (d n c : Nat) (O : go_O), c + d = 16 → d < n → ∃ O', gm_X4_renew_36 fu n aT (nI c) (go_k 4 aT O X) = some (go_k 4 aT O' X) ∧ O'.1 = O.1 ∧ (∀ j, ml O' 1 j = ml O 1 j) ∧ ∀ j, mi O' 0 j = if c ≤ j ∧ j < 16 then 0 else mi O 0 j
  | d, 0, c, O, _, hn => absurd hn (Nat.not_lt_zero _)
  | d, n + 1, c, O, hd, hn => by
    rw [gm_X4_renew_36, li16]
    by_cases e0 : d = 0
    · rw [if_pos ((nI_leI (by omega) (by omega)).mpr (by omega))]
      exact ⟨O, rfl, rfl, fun _ => rfl, fun j => by rw [if_neg (by omega)]⟩
    · rw [if_neg (fun q => absurd ((nI_leI (by omega) (by omega)).mp q) (by omega))]
      have r : c < 16 := by omega
      simp only [gq_4, r, nar0, Option.bind_some, nI_1]
      obtain ⟨O', a1, a2, a3, a4⟩ := c_ren36 (d - 1) n (c + 1) (go_ai O 0 c 0) (by omega) (by omega)
      refine ⟨O', a1, a2, a3, fun j => ?_⟩
      rw [a4, mi_ai]
      by_cases c1 : c + 1 ≤ j ∧ j < 16
      · rw [if_pos c1, if_pos (by omega)]
      · rw [if_neg c1]
        by_cases c2 : j = c
        · rw [if_pos ⟨rfl, c2⟩, if_pos (by omega)]
        · rw [if_neg fun q => c2 q.2, if_neg (by omega)]
theorem c_ren12 (hfu : 20 ≤ fu) : ∀ (d n c : Nat) (O : go_O), c + d = 960 → d < n → ∃ O', gm_X4_renew_12 fu n aT (nI c) (go_k 4 aT O X) = some (go_k 4 aT O' X) ∧ O'.1 = O.1 ∧ (∀ j, ml O' 1 j = if c ≤ j ∧ j < 960 then 0 else ml O 1 j) ∧ ∀ j, j < 16 → mi O' 0 j = 0
  | d, 0, c, O, _, hn => absurd hn (Nat.not_lt_zero _)
  | d, n + 1, c, O, hd, hn => by
    rw [gm_X4_renew_12]
    simp only [gq_4, Option.bind_some]
    by_cases e0 : d = 0
    · rw [if_pos ((nI_leI (by omega) (by omega)).mpr (by omega)), li0]
      obtain ⟨O', a1, a2, a3, a4⟩ := c_ren36 (fu := fu) (aT := aT) (X := X) 16 fu 0 O (by omega) (by omega)
      exact ⟨O', a1, a2, fun j => by rw [a3, if_neg (by omega)], fun j hj => by rw [a4, if_pos (by omega)]; rfl⟩
    · rw [if_neg (fun q => absurd ((nI_leI (by omega) (by omega)).mp q) (by omega))]
      have r : c < 960 := by omega
      simp only [gq_4, r, Option.bind_some, nI_1]
      obtain ⟨O', a1, a2, a3, a4⟩ := c_ren12 hfu (d - 1) n (c + 1) (go_al O 1 c 0) (by omega) (by omega)
      refine ⟨O', a1, a2, fun j => ?_, a4⟩
      rw [a3, ml_al]
      by_cases c1 : c + 1 ≤ j ∧ j < 960
      · rw [if_pos c1, if_pos (by omega)]
      · rw [if_neg c1]
        by_cases c2 : j = c
        · rw [if_pos ⟨rfl, c2⟩, if_pos (by omega)]
        · rw [if_neg fun q => c2 q.2, if_neg (by omega)]
/-- a fresh table -/
def t0 (n : Nat) : sT := (n, fun _ _ _ => false, fun _ => false)
theorem t0_wf {n : Nat} (h1 : 1 ≤ n) (h2 : n ≤ 60) : gs_wf (t0 n) := ⟨h1, h2, fun c s t h => by cases h⟩
theorem c_renew (hfu : 1000 ≤ fu) {n : Nat} : ∃ O', gm_X4_renew fu aT (nI n) (go_k 4 aT O X) = some (go_k 4 aT O' X) ∧ rt (t0 n) O' ∧ O'.1 3 = 0 := by
  unfold gm_X4_renew
  simp only [gq_4, Option.bind_some]
  obtain ⟨O', a1, a2, a3, a4⟩ := c_ren12 (fu := fu) (aT := aT) (X := X) (by omega) 960 fu 0 (go_si (go_si O 2 (nI n)) 3 0) (by omega) (by omega)
  refine ⟨O', a1, ⟨by rw [a2]; rfl, fun c s t hc hs => ?_, fun c hc => ?_⟩, by rw [a2]; rfl⟩
  · rw [a3, if_pos (by omega), gb_0]
    exact Iff.rfl
  · rw [a4 c hc]
    exact (if_neg (by intro q; cases q)).symm
end CT1
