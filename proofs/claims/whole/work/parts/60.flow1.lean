/-! THE CLASS'S FLOW: a program's bodies B and the Flow object F in a world -/
def fw (W0 : gw_T) (ip c aF : Nat) (ad : Nat → Nat) (B : Nat → go_O) (F : go_O) : gw_T := fun j => if j = 2 then some (1, aF, F) else if 8 * ip ≤ j ∧ j < 8 * ip + c then some (0, ad (j - 8 * ip), B (j - 8 * ip)) else W0 j
section FW
variable {W0 : gw_T} {ip c aF : Nat} {ad : Nat → Nat} {B : Nat → go_O} {F : go_O} {X : gx_H} {fu f i : Nat}
theorem fw_F : fw W0 ip c aF ad B F 2 = some (1, aF, F) := by simp [fw]
theorem fw_B (hip : 4 ≤ ip) (hf : f < c) : fw W0 ip c aF ad B F (8 * ip + f) = some (0, ad f, B f) := by
  unfold fw
  rw [if_neg (by omega), if_pos ⟨by omega, by omega⟩, show 8 * ip + f - 8 * ip = f by omega]
theorem fw_o {j : Nat} (h2 : j ≠ 2) (h : j < 8 * ip ∨ 8 * ip + c ≤ j) : fw W0 ip c aF ad B F j = W0 j := by
  unfold fw
  rw [if_neg h2, if_neg (by omega)]
theorem fw_upF (F' : go_O) : go_u (fw W0 ip c aF ad B F) 2 (some (1, aF, F')) = fw W0 ip c aF ad B F' := by
  funext j
  unfold go_u fw
  by_cases e : j = 2
  · rw [if_pos e, if_pos e]
  · rw [if_neg e, if_neg e, if_neg e]
theorem fw_upB (hip : 4 ≤ ip) (hf : f < c) (b : go_O) : go_u (fw W0 ip c aF ad B F) (8 * ip + f) (some (0, ad f, b)) = fw W0 ip c aF ad (go_u B f b) F := by
  funext j
  by_cases e : j = 8 * ip + f
  · subst e
    rw [go_u_s, fw_B hip hf, go_u_s]
  · rw [go_u_n e]
    unfold fw
    by_cases e2 : j = 2
    · rw [if_pos e2, if_pos e2]
    · rw [if_neg e2, if_neg e2]
      by_cases e3 : 8 * ip ≤ j ∧ j < 8 * ip + c
      · rw [if_pos e3, if_pos e3, go_u_n (by omega)]
      · rw [if_neg e3, if_neg e3]
theorem fd_F (h : gw_D (fw W0 ip c aF ad B F) X) (F' : go_O) : gw_D (fw W0 ip c aF ad B F') (go_k 1 aF F' X) := by
  have := h.up fw_F F'
  rw [fw_upF] at this
  exact this
theorem fd_B (hip : 4 ≤ ip) (h : gw_D (fw W0 ip c aF ad B F) X) (hf : f < c) (b : go_O) : gw_D (fw W0 ip c aF ad (go_u B f b) F) (go_k 0 (ad f) b X) := by
  have := h.up (fw_B hip hf) b
  rw [fw_upB hip hf] at this
  exact this
theorem kF (h : gw_D (fw W0 ip c aF ad B F) X) : go_k 1 aF F X = X := h.k fw_F
theorem kB (hip : 4 ≤ ip) (h : gw_D (fw W0 ip c aF ad B F) X) (hf : f < c) : go_k 0 (ad f) (B f) X = X := h.k (fw_B hip hf)
theorem gx_obT {α : Type} {ci a : Nat} {O : go_O} (e : go_k ci a O X = X) (k : Option α) : gx_ob X a ci k = k := by
  have := gx_ob6 ci a O X k
  rw [e] at this
  exact this
theorem go_u_id {α : Type} (g : Nat → α) (k : Nat) : go_u g k (g k) = g := by
  funext j
  unfold go_u
  by_cases e : j = k
  · rw [if_pos e, e]
  · rw [if_neg e]
/-- the still part of a body -/
def bs (P : sP) (f : Nat) (b : go_O) : Prop := b.1 0 = nI f ∧ b.1 6 = nI (gp_l P f) ∧ b.1 7 = nI (gp_h P f) ∧ (∀ i, i < gp_l P f → mi b 1 i = nI (gp_k P f i) ∧ mi b 2 i = nI (gp_n P f i)) ∧ ∀ h, h < gp_h P f → mi b 3 h = nI (gp_a P f h) ∧ mi b 4 h = nI (gp_b P f h) ∧ mi b 5 h = nI (gp_g P f h)
def ba (P : sP) (f : Nat) (b : go_O) : Prop := ∀ i, i < gp_l P f → mi b 10 i = gz (gp_goal P f i)
theorem c_hasI {a l : Nat} {b : go_O} (hl : b.1 6 = nI l) (hl2 : l ≤ 200) (e : go_k 0 a b X = X) (x : Int32) : gm_X0_hasInstruction fu a x X = some (gz (∃ j, x = nI j ∧ j < l), X) := by
  have q := gq_0 a b X
  rw [e] at q
  unfold gm_X0_hasInstruction gm_X0_hasInstruction_16
  by_cases x0 : x < 0
  · rw [if_pos x0, gz_f]
    rintro ⟨j, rfl, hj⟩
    exact absurd x0 (nI_pos (by omega))
  · rw [if_neg x0]
    simp only [q, Option.bind_some, hl]
    by_cases x1 : nI l ≤ x
    · rw [if_pos x1, gz_f]
      rintro ⟨j, rfl, hj⟩
      exact absurd ((nI_leI (by omega) (by omega)).mp x1) (by omega)
    · rw [if_neg x1]
      obtain ⟨j, hj, rfl⟩ := nI_in0 x0 (by omega) x1
      rw [gz_t ⟨j, rfl, hj⟩]
theorem c_hasI_t {a l : Nat} {b : go_O} (hl : b.1 6 = nI l) (hl2 : l ≤ 200) (e : go_k 0 a b X = X) (hi : i < l) : gm_X0_hasInstruction fu a (nI i) X = some (1, X) := by rw [c_hasI hl hl2 e, gz_t ⟨i, rfl, hi⟩]
theorem c_hasI_f {a l : Nat} {b : go_O} (hl : b.1 6 = nI l) (hl2 : l ≤ 200) (e : go_k 0 a b X = X) (hi : l ≤ i) (hi2 : i < 2 ^ 31) : gm_X0_hasInstruction fu a (nI i) X = some (0, X) := by
  rw [c_hasI hl hl2 e, gz_f]
  rintro ⟨j, hj, h2⟩
  have := nI_inj hi2 (by omega) hj
  omega
theorem c_goesTo {a : Nat} {b : go_O} {k : Nat} (hk : mi b 1 i = nI k) (hk2 : k ≤ 8) (hi : i < 200) (e : go_k 0 a b X = X) : gm_X0_goesToNumber fu a (nI i) X = some (gz (k = 1 ∨ k = 2), X) := by
  have q := gq_0 a b X
  rw [e] at q
  unfold gm_X0_goesToNumber gm_X0_goesToNumber_20
  simp only [q, hi, Option.bind_some, hk]
  by_cases k1 : k = 1
  · rw [if_pos (by rw [k1]; rfl), gz_t (Or.inl k1)]
  · rw [if_neg (nI_nl 1 (x := 1) rfl (by omega) (by omega) k1)]
    by_cases k2 : k = 2
    · rw [if_pos (by rw [k2]; rfl), gz_t (Or.inr k2)]
    · rw [if_neg (nI_nl 2 (x := 2) rfl (by omega) (by omega) k2), gz_f (by omega)]
set_option maxHeartbeats 1000000 in
theorem c_isGuarded {a : Nat} {b : go_O} {P : sP} (hw : gp_wf P) (hf : f < gp_c P) (hs : bs P f b) (ha : ba P f b) (hi : i < 2 ^ 31) (e : go_k 0 a b X = X) : gm_X0_isGuarded fu a (nI i) X = some (gz (i < gp_l P f ∧ gp_gd P f i), X) := by
  have q := gq_0 a b X
  rw [e] at q
  obtain ⟨-, hl, -, hI, -⟩ := hs
  obtain ⟨⟨-, hl2⟩, -, hIw, -⟩ := hw.2 f hf
  unfold gm_X0_isGuarded
  have no : ∀ {p : Prop}, (¬ p) → gm_X0_isGuarded_64 fu X = some (gz p, X) := fun h => by rw [gz_f h]; rfl
  by_cases i0 : i = 0
  · rw [if_pos (by rw [i0]; decide)]
    exact no fun h => absurd h.2.2.1 (by omega)
  · rw [if_neg (nI_nle (by omega) hi)]
    simp only [q, Option.bind_some, hl]
    by_cases c1 : gp_l P f ≤ i
    · rw [if_pos ((nI_leI (by omega) hi).mpr c1)]
      exact no fun h => by omega
    · rw [if_neg (fun c => c1 ((nI_leI (by omega) hi).mp c))]
      have r1 : i < 200 := by omega
      obtain ⟨hk, hn⟩ := hI i (by omega)
      obtain ⟨hk', hn'⟩ := hI (i - 1) (by omega)
      have k8 := (hIw i (by omega)).1
      have k8' := (hIw (i - 1) (by omega)).1
      have e1 : nI i - 1 = nI (i - 1) := by
        have : i = (i - 1) + 1 := by omega
        rw [this, nI_pred]
        rfl
      have r2 : i - 1 < 200 := by omega
      simp only [q, r1, r2, e1, Option.bind_some, hk, hk', hn, hn']
      by_cases k4 : gp_k P f i = 4
      · rw [if_pos (by rw [k4]; rfl)]
        by_cases k5 : gp_k P f (i - 1) = 5
        · rw [if_pos (by rw [k5]; rfl)]
          have b1 := gp_nb hw hf (i := i - 1) (by omega)
          have b2 := gp_nb hw hf (i := i) (by omega)
          by_cases en : gp_n P f i = gp_n P f (i - 1)
          · rw [if_pos (by rw [en]), show b.2.2.2.1 10 i = gz (gp_goal P f i) from ha i (by omega)]
            by_cases hg : gp_goal P f i
            · rw [gz_t hg, if_neg (by decide)]
              exact no fun h => h.2.2.2.2.2 hg
            · rw [gz_f hg, if_pos rfl, gz_t ⟨by omega, k4, by omega, k5, en.symm, hg⟩]
          · rw [if_neg (nI_ne (by omega) (by omega) en)]
            exact no fun h => en h.2.2.2.2.1.symm
        · rw [if_neg (nI_nl 5 (x := 5) rfl (by omega) (by omega) k5)]
          exact no fun h => k5 h.2.2.2.1
      · rw [if_neg (nI_nl 4 (x := 4) rfl (by omega) (by omega) k4)]
        exact no fun h => k4 h.2.1
set_option maxHeartbeats 1000000 in
theorem c_waitAt {t : Nat} (hip : 4 ≤ ip) (h : gw_D (fw W0 ip c aF ad B F) X) (hf : f < c) (hf8 : f < 8) (hi : i < 200) (hp : (B f).1 0 = nI f) (hF : F.1 2 = nI t) (ht : mi (B f) 9 i = 0 → t < 1600) :
    ∃ X', gm_X1_waitAt fu aF (ad f) (nI i) X = some X' ∧ ((¬ mi (B f) 9 i = 0 ∧ X' = X) ∨ (mi (B f) 9 i = 0 ∧ gw_D (fw W0 ip c aF ad (go_u B f (go_ai (B f) 9 i 1)) (go_si (go_ai F 1 t (nI (200 * f + i))) 2 (nI (t + 1)))) X')) := by
  have q := gq_0 (ad f) (B f) X
  rw [kB hip h hf] at q
  have qF := gq_1 aF F X
  rw [kF h] at qF
  unfold gm_X1_waitAt
  simp only [q, hi, Option.bind_some]
  by_cases e : mi (B f) 9 i = 0
  · have ht := ht e
    rw [if_pos e]
    simp only [qF, Option.bind_some, hF]
    rw [if_neg (fun c => absurd ((nI_leI (by omega) (by omega)).mp c) (by omega))]
    have h1 := fd_B hip h hf (go_ai (B f) 9 i 1)
    have q1 := gq_0 (ad f) (go_ai (B f) 9 i 1) X
    have qF1 := gq_1 aF F (go_k 0 (ad f) (go_ai (B f) 9 i 1) X)
    rw [kF h1] at qF1
    simp only [q, hi, nar1, Option.bind_some, q1, qF1, hF, show (go_ai (B f) 9 i 1).1 0 = nI f from hp, li200, pk_mul, nI_add, ht]
    have h2 := fd_F h1 (go_ai F 1 t (nI (f * 200 + i)))
    have qF2 := gq_1 aF (go_ai F 1 t (nI (f * 200 + i))) (go_k 0 (ad f) (go_ai (B f) 9 i 1) X)
    simp only [qF2, Option.bind_some, show (go_ai F 1 t (nI (f * 200 + i))).1 2 = nI t from hF, nI_1]
    have h3 := fd_F h1 (go_si (go_ai F 1 t (nI (f * 200 + i))) 2 (nI (t + 1)))
    refine ⟨_, rfl, Or.inr ⟨e, ?_⟩⟩
    rw [show 200 * f + i = f * 200 + i by omega]
    exact h3
  · rw [if_neg e]
    exact ⟨X, rfl, Or.inl ⟨e, rfl⟩⟩
end FW
