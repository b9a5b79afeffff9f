/-! OBJECTS: a block of cells: an object, and behind it the arrays that its fields hold -/
abbrev go_O : Type := (Nat → Int32) × (Nat → Int64) × (Nat → Option Nat) × (Nat → Nat → Int32) × (Nat → Nat → Int64) × (Nat → Nat → Option Nat)
def go_l : List (List (Nat × Nat × Nat × Nat)) := [[(0, 0, 0, 0), (3, 1, 0, 200), (3, 2, 0, 200), (3, 3, 0, 6), (3, 4, 0, 6), (3, 5, 0, 6), (0, 0, 0, 0), (0, 0, 0, 0), (4, 6, 1, 200), (3, 7, 2, 200), (3, 8, 2, 200), (1, 0, 0, 0), (1, 0, 0, 0), (1, 0, 0, 0), (0, 0, 0, 0)], [(2, 0, 0, 0), (3, 1, 0, 1600), (0, 0, 0, 0), (0, 0, 0, 0)], [(2, 0, 0, 0), (3, 1, 0, 201)], [(5, 1, 3, 8), (0, 0, 0, 0), (0, 0, 0, 0)], [(3, 1, 2, 16), (4, 2, 1, 960), (0, 0, 0, 0), (0, 0, 0, 0)], [(2, 0, 0, 0), (2, 0, 0, 0), (2, 0, 0, 0), (2, 0, 0, 0), (2, 0, 0, 0), (0, 0, 0, 0)], [(0, 0, 0, 0), (0, 0, 0, 0), (3, 1, 2, 58560), (3, 2, 2, 16), (3, 3, 0, 2), (3, 4, 0, 16), (3, 5, 0, 16), (3, 6, 0, 3200), (3, 7, 0, 3200), (3, 8, 0, 96), (3, 9, 0, 96), (3, 10, 0, 96), (0, 0, 0, 0), (3, 11, 2, 2), (4, 12, 1, 3200), (4, 13, 1, 16), (4, 14, 1, 16), (4, 15, 1, 16), (0, 0, 0, 0), (3, 16, 0, 201)]]
def go_fl : List (List Nat) := [[1, 2, 3, 4, 5, 8, 9, 10], [1], [1], [0], [0, 1], [], [2, 3, 4, 5, 6, 7, 8, 9, 10, 11, 13, 14, 15, 16, 17, 19]]
def go_d (ci k : Nat) : Nat × Nat × Nat × Nat := (go_l.getD ci []).getD k (0, 0, 0, 0)
def go_f (ci o : Nat) : Nat := (go_fl.getD ci []).getD (o - 1) 0
def go_n (ci : Nat) : Nat := (go_l.getD ci []).length
def go_z (ci : Nat) : Nat := (go_fl.getD ci []).length + 1
theorem go_z0 (ci : Nat) : 0 < go_z ci := Nat.succ_pos _
def go_v (ci a : Nat) (O : go_O) (k : Nat) : Value := match (go_d ci k).1 with
  | 0 => .int (O.1 k)
  | 1 => .long (O.2.1 k)
  | 2 => va_rf (O.2.2.1 k)
  | _ => .ref (a + (go_d ci k).2.1)
def go_fs (ci a : Nat) (O : go_O) : List Value := (List.range (go_n ci)).map (go_v ci a O)
def go_a (ci : Nat) (O : go_O) (k : Nat) : vp_A := match (go_d ci k).1 with
  | 3 => ((go_d ci k).2.2.2, .inl (O.2.2.2.1 k))
  | 4 => ((go_d ci k).2.2.2, .inr (.inl (O.2.2.2.2.1 k)))
  | _ => ((go_d ci k).2.2.2, .inr (.inr (.inr (.inr (O.2.2.2.2.2 k)))))
def go_c (ci a : Nat) (O : go_O) (q : Nat) : gx_E := if q = a then .inr (ci, go_fs ci a O) else .inl ((go_d ci (go_f ci (q - a))).2.2.1, go_a ci O (go_f ci (q - a)))
def go_k (ci a : Nat) (O : go_O) (X : gx_H) : gx_H := (fun q => if a ≤ q ∧ q < a + go_z ci then some (go_c ci a O q) else X.1 q, X.2)
/-- one place of a function of one or two numbers -/
def go_u {α : Type} (f : Nat → α) (k : Nat) (v : α) : Nat → α := fun j => if j = k then v else f j
def go_w {α : Type} (f : Nat → Nat → α) (k i : Nat) (v : α) : Nat → Nat → α := fun j => if j = k then go_u (f j) i v else f j
theorem go_u_s {α : Type} {f : Nat → α} {k : Nat} {v : α} : go_u f k v k = v := by simp [go_u]
theorem go_u_n {α : Type} {f : Nat → α} {k j : Nat} {v : α} (h : j ≠ k) : go_u f k v j = f j := by simp [go_u, h]
theorem go_w_n {α : Type} {f : Nat → Nat → α} {k i j : Nat} {v : α} (h : j ≠ k) : go_w f k i v j = f j := by simp [go_w, h]
theorem go_w_s {α : Type} {f : Nat → Nat → α} {k i : Nat} {v : α} : go_w f k i v k = go_u (f k) i v := by simp [go_w]
def go_si (O : go_O) (k : Nat) (v : Int32) : go_O := (go_u O.1 k v, O.2)
def go_sl (O : go_O) (k : Nat) (v : Int64) : go_O := (O.1, go_u O.2.1 k v, O.2.2)
def go_sr (O : go_O) (k : Nat) (v : Option Nat) : go_O := (O.1, O.2.1, go_u O.2.2.1 k v, O.2.2.2)
def go_ai (O : go_O) (k i : Nat) (v : Int32) : go_O := (O.1, O.2.1, O.2.2.1, go_w O.2.2.2.1 k i v, O.2.2.2.2)
def go_al (O : go_O) (k i : Nat) (v : Int64) : go_O := (O.1, O.2.1, O.2.2.1, O.2.2.2.1, go_w O.2.2.2.2.1 k i v, O.2.2.2.2.2)
def go_ar (O : go_O) (k i : Nat) (v : Option Nat) : go_O := (O.1, O.2.1, O.2.2.1, O.2.2.2.1, O.2.2.2.2.1, go_w O.2.2.2.2.2 k i v)
section GO
variable {ci a k : Nat} {O : go_O} {X : gx_H}
theorem go_at0 : (go_k ci a O X).1 a = some (.inr (ci, go_fs ci a O)) := by
  have := go_z0 ci
  simp [go_k, go_c]
  omega
theorem go_is0 : gx_is (go_k ci a O X) a ci = true := by simp [gx_is, go_at0]
theorem go_fs_at (hk : k < go_n ci) : (go_fs ci a O)[k]? = some (go_v ci a O k) := by simp [go_fs, hk]
theorem go_fs_len : (go_fs ci a O).length = go_n ci := by simp [go_fs]
theorem go_gf (hk : k < go_n ci) : gx_gf (go_k ci a O X) a ci k = some (go_v ci a O k) := by simp [gx_gf, go_at0, go_fs_at hk]
theorem go_ri (hk : k < go_n ci) (hd : (go_d ci k).1 = 0) : gx_gi (go_k ci a O X) a ci k = some (O.1 k) := by simp [gx_gi, go_gf hk, go_v, hd]
theorem go_rl (hk : k < go_n ci) (hd : (go_d ci k).1 = 1) : gx_gl (go_k ci a O X) a ci k = some (O.2.1 k) := by simp [gx_gl, go_gf hk, go_v, hd]
theorem go_rr (hk : k < go_n ci) (hd : (go_d ci k).1 = 2) : gx_gd (go_k ci a O X) a ci k = O.2.2.1 k := by
  simp only [gx_gd, go_gf hk, go_v, hd]
  cases O.2.2.1 k <;> rfl
theorem go_rd (hk : k < go_n ci) {o : Nat} (hd : 3 ≤ (go_d ci k).1) (ho : (go_d ci k).2.1 = o) : gx_gd (go_k ci a O X) a ci k = some (a + o) := by
  have e : go_v ci a O k = .ref (a + o) := by
    unfold go_v
    rw [ho]
    split <;> first | omega | rfl
  simp [gx_gd, go_gf hk, e]
theorem go_atA {o t n : Nat} (h0 : 0 < o) (hz : o < go_z ci) (hf : go_f ci o = k) (hd : (go_d ci k).2 = (o, t, n)) : (go_k ci a O X).1 (a + o) = some (.inl (t, go_a ci O k)) := by
  have e : a + o ≠ a := by omega
  have e2 : a + o - a = o := by omega
  simp only [go_k, go_c]
  rw [if_pos ⟨by omega, by omega⟩, if_neg e, e2, hf, hd]
theorem go_rai {o t n i : Nat} (h0 : 0 < o) (hz : o < go_z ci) (hf : go_f ci o = k) (hd : go_d ci k = (3, o, t, n)) (hn : n < 2 ^ 31) (hi : i < n) : gx_gai (go_k ci a O X) (a + o) t (nI i) = some (O.2.2.2.1 k i) := by
  have e : go_a ci O k = (n, .inl (O.2.2.2.1 k)) := by simp [go_a, hd]
  simp only [gx_gai, go_atA (a := a) (O := O) (X := X) h0 hz hf (by rw [hd]), e]
  rw [if_pos trivial, if_neg (nI_in hi hn), nI_clamp (by omega)]
theorem go_ral {o t n i : Nat} (h0 : 0 < o) (hz : o < go_z ci) (hf : go_f ci o = k) (hd : go_d ci k = (4, o, t, n)) (hn : n < 2 ^ 31) (hi : i < n) : gx_gal (go_k ci a O X) (a + o) t (nI i) = some (O.2.2.2.2.1 k i) := by
  have e : go_a ci O k = (n, .inr (.inl (O.2.2.2.2.1 k))) := by simp [go_a, hd]
  simp only [gx_gal, go_atA (a := a) (O := O) (X := X) h0 hz hf (by rw [hd]), e]
  rw [if_pos trivial, if_neg (nI_in hi hn), nI_clamp (by omega)]
theorem go_rar {o t n i : Nat} (h0 : 0 < o) (hz : o < go_z ci) (hf : go_f ci o = k) (hd : go_d ci k = (5, o, t, n)) (hn : n < 2 ^ 31) (hi : i < n) : gx_gar (go_k ci a O X) (a + o) t (nI i) = some (O.2.2.2.2.2 k i) := by
  have e : go_a ci O k = (n, .inr (.inr (.inr (.inr (O.2.2.2.2.2 k))))) := by simp [go_a, hd]
  simp only [gx_gar, go_atA (a := a) (O := O) (X := X) h0 hz hf (by rw [hd]), e]
  rw [if_pos trivial, if_neg (nI_in hi hn), nI_clamp (by omega)]
theorem go_rlen {o t n : Nat} (h0 : 0 < o) (hz : o < go_z ci) (hf : go_f ci o = k) (hd : (go_d ci k).2 = (o, t, n)) : gx_len (go_k ci a O X) (a + o) t = some (nI n) := by
  have e : (go_a ci O k).1 = n := by
    unfold go_a
    rw [hd]
    split <;> rfl
  simp only [gx_len, go_atA (a := a) (O := O) (X := X) h0 hz hf hd, e]
  rfl
/-- a field is written: the same block, with one value more -/
theorem go_pf {O' : go_O} {v : Value} (hk : k < go_n ci) (hv : go_v ci a O' k = v) (ho : ∀ j, j ≠ k → go_v ci a O' j = go_v ci a O j) (ha : ∀ j, go_a ci O' j = go_a ci O j) : gx_pf (go_k ci a O X) a ci k v = some (go_k ci a O' X) := by
  simp only [gx_pf, go_at0]
  rw [if_pos ⟨trivial, by rw [go_fs_len]; exact hk⟩]
  congr 1
  refine Prod.ext (funext fun q => ?_) rfl
  by_cases hq : q = a
  · subst hq
    have := go_z0 ci
    simp only [gx_up, go_k, go_c, if_true]
    rw [if_pos ⟨Nat.le_refl _, by omega⟩]
    congr 3
    refine List.ext_getElem? fun j => ?_
    rw [List.getElem?_set]
    by_cases hj : k = j
    · subst hj
      rw [if_pos rfl, if_pos (by rw [go_fs_len]; exact hk), go_fs_at hk, hv]
    · rw [if_neg hj]
      by_cases hl : j < go_n ci
      · rw [go_fs_at hl, go_fs_at hl, ho j (Ne.symm hj)]
      · simp [go_fs, hl]
  · simp only [gx_up, if_neg hq, go_k, go_c, ha]
theorem go_wi (hk : k < go_n ci) (hd : (go_d ci k).1 = 0) {v : Int32} : gx_pf (go_k ci a O X) a ci k (.int v) = some (go_k ci a (go_si O k v) X) := by
  refine go_pf hk (by simp [go_v, hd, go_si, go_u]) (fun j hj => ?_) (fun j => rfl)
  simp [go_v, go_si, go_u, hj]
theorem go_wl (hk : k < go_n ci) (hd : (go_d ci k).1 = 1) {v : Int64} : gx_pf (go_k ci a O X) a ci k (.long v) = some (go_k ci a (go_sl O k v) X) := by
  refine go_pf hk (by simp [go_v, hd, go_sl, go_u]) (fun j hj => ?_) (fun j => rfl)
  simp [go_v, go_sl, go_u, hj]
theorem go_wr (hk : k < go_n ci) (hd : (go_d ci k).1 = 2) {v : Nat} : gx_pf (go_k ci a O X) a ci k (.ref v) = some (go_k ci a (go_sr O k (some v)) X) := by
  refine go_pf hk (by simp [go_v, hd, go_sr, go_u, va_rf]) (fun j hj => ?_) (fun j => rfl)
  simp [go_v, go_sr, go_u, hj]
/-- an element is written -/
theorem go_pa {O' : go_O} {o t n : Nat} (h0 : 0 < o) (hz : o < go_z ci) (hc : ∀ x, 0 < x → x < go_z ci → (go_d ci (go_f ci x)).2.1 = x) (hf : go_f ci o = k) (hd : (go_d ci k).2 = (o, t, n)) (hv : ∀ j, go_v ci a O' j = go_v ci a O j) (ha : ∀ j, j ≠ k → go_a ci O' j = go_a ci O j) : (gx_up (go_k ci a O X).1 (a + o) (.inl (t, go_a ci O' k)), (go_k ci a O X).2) = go_k ci a O' X := by
  refine Prod.ext (funext fun q => ?_) rfl
  by_cases hq : q = a + o
  · subst hq
    rw [go_atA (O := O') h0 hz hf hd]
    simp [gx_up]
  · simp only [gx_up, if_neg hq, go_k]
    by_cases hb : a ≤ q ∧ q < a + go_z ci
    · rw [if_pos hb, if_pos hb]
      congr 1
      unfold go_c
      by_cases hqa : q = a
      · rw [if_pos hqa, if_pos hqa]
        congr 2
        unfold go_fs
        exact List.map_congr_left fun j _ => (hv j).symm
      · rw [if_neg hqa, if_neg hqa]
        have hne : go_f ci (q - a) ≠ k := fun e => by
          have h1 := hc (q - a) (by omega) (by omega)
          rw [e, hd] at h1
          have h2 : o = q - a := h1
          omega
        rw [ha _ hne]
    · rw [if_neg hb, if_neg hb]
theorem go_wai {o t n i : Nat} {v : Int32} (h0 : 0 < o) (hz : o < go_z ci) (hc : ∀ x, 0 < x → x < go_z ci → (go_d ci (go_f ci x)).2.1 = x) (hf : go_f ci o = k) (hd : go_d ci k = (3, o, t, n)) (hn : n < 2 ^ 31) (hi : i < n) : gx_pai (go_k ci a O X) (a + o) t (nI i) v = some (go_k ci a (go_ai O k i v) X) := by
  have e : go_a ci O k = (n, .inl (O.2.2.2.1 k)) := by simp [go_a, hd]
  have e2 : go_a ci (go_ai O k i v) k = (n, .inl (upd (O.2.2.2.1 k) i v)) := by
    simp only [go_a, hd, go_ai, go_w_s]
    rfl
  simp only [gx_pai, go_atA (a := a) (O := O) (X := X) h0 hz hf (by rw [hd]), e]
  rw [if_pos trivial, if_neg (nI_in hi hn), nI_clamp (by omega), ← e2]
  congr 1
  refine go_pa h0 hz hc hf (by rw [hd]) (fun j => rfl) (fun j hj => ?_)
  simp [go_a, go_ai, go_w_n hj]
theorem go_wal {o t n i : Nat} {v : Int64} (h0 : 0 < o) (hz : o < go_z ci) (hc : ∀ x, 0 < x → x < go_z ci → (go_d ci (go_f ci x)).2.1 = x) (hf : go_f ci o = k) (hd : go_d ci k = (4, o, t, n)) (hn : n < 2 ^ 31) (hi : i < n) : gx_pal (go_k ci a O X) (a + o) t (nI i) v = some (go_k ci a (go_al O k i v) X) := by
  have e : go_a ci O k = (n, .inr (.inl (O.2.2.2.2.1 k))) := by simp [go_a, hd]
  have e2 : go_a ci (go_al O k i v) k = (n, .inr (.inl (vp_updL (O.2.2.2.2.1 k) i v))) := by
    simp only [go_a, hd, go_al, go_w_s]
    rfl
  simp only [gx_pal, go_atA (a := a) (O := O) (X := X) h0 hz hf (by rw [hd]), e]
  rw [if_pos trivial, if_neg (nI_in hi hn), nI_clamp (by omega), ← e2]
  congr 1
  refine go_pa h0 hz hc hf (by rw [hd]) (fun j => rfl) (fun j hj => ?_)
  simp [go_a, go_al, go_w_n hj]
theorem go_war {o t n i : Nat} {v : Option Nat} (h0 : 0 < o) (hz : o < go_z ci) (hc : ∀ x, 0 < x → x < go_z ci → (go_d ci (go_f ci x)).2.1 = x) (hf : go_f ci o = k) (hd : go_d ci k = (5, o, t, n)) (hn : n < 2 ^ 31) (hi : i < n) : gx_par (go_k ci a O X) (a + o) t (nI i) v = some (go_k ci a (go_ar O k i v) X) := by
  have e : go_a ci O k = (n, .inr (.inr (.inr (.inr (O.2.2.2.2.2 k))))) := by simp [go_a, hd]
  have e2 : go_a ci (go_ar O k i v) k = (n, .inr (.inr (.inr (.inr (va_up (O.2.2.2.2.2 k) i v))))) := by
    simp only [go_a, hd, go_ar, go_w_s]
    rfl
  simp only [gx_par, go_atA (a := a) (O := O) (X := X) h0 hz hf (by rw [hd]), e]
  rw [if_pos trivial, if_neg (nI_in hi hn), nI_clamp (by omega), ← e2]
  congr 1
  refine go_pa h0 hz hc hf (by rw [hd]) (fun j => rfl) (fun j hj => ?_)
  simp [go_a, go_ar, go_w_n hj]
theorem go_kk {O' : go_O} : go_k ci a O' (go_k ci a O X) = go_k ci a O' X := by
  refine Prod.ext (funext fun q => ?_) rfl
  simp only [go_k]
  split <;> rfl
/-- two blocks apart -/
theorem go_comm {cj b : Nat} {P : go_O} (h : a + go_z ci ≤ b ∨ b + go_z cj ≤ a) : go_k ci a O (go_k cj b P X) = go_k cj b P (go_k ci a O X) := by
  refine Prod.ext (funext fun q => ?_) rfl
  simp only [go_k]
  by_cases h1 : a ≤ q ∧ q < a + go_z ci
  · rw [if_pos h1]
    rw [if_neg (by omega), if_pos h1]
  · rw [if_neg h1]
    by_cases h2 : b ≤ q ∧ q < b + go_z cj
    · rw [if_pos h2, if_pos h2]
    · rw [if_neg h2, if_neg h2, if_neg h1]
end GO
/-! the world of objects: a number names a block (its class, its address, what it holds) -/
abbrev gw_T : Type := Nat → Option (Nat × Nat × go_O)
def gw_D (W : gw_T) (X : gx_H) : Prop := (∀ (i ci a : Nat) (O : go_O), W i = some (ci, a, O) → go_k ci a O X = X ∧ a + go_z ci ≤ X.2) ∧ ∀ (i j ci a cj b : Nat) (O P : go_O), W i = some (ci, a, O) → W j = some (cj, b, P) → i ≠ j → a + go_z ci ≤ b ∨ b + go_z cj ≤ a
theorem gw_D.k {W : gw_T} {X : gx_H} (h : gw_D W X) {i ci a : Nat} {O : go_O} (hi : W i = some (ci, a, O)) : go_k ci a O X = X := (h.1 i ci a O hi).1
theorem gw_D.is {W : gw_T} {X : gx_H} (h : gw_D W X) {i ci a : Nat} {O : go_O} (hi : W i = some (ci, a, O)) : gx_is X a ci = true := by
  rw [← h.k hi]
  exact go_is0
theorem gw_D.ob {α : Type} {W : gw_T} {X : gx_H} (h : gw_D W X) {i ci a : Nat} {O : go_O} (hi : W i = some (ci, a, O)) (k : Option α) : gx_ob X a ci k = k := by
  unfold gx_ob
  rw [if_pos (h.is hi)]
theorem gw_D.up {W : gw_T} {X : gx_H} (h : gw_D W X) {i ci a : Nat} {O : go_O} (hi : W i = some (ci, a, O)) (O' : go_O) : gw_D (go_u W i (some (ci, a, O'))) (go_k ci a O' X) := by
  have key : ∀ (j cj b : Nat) (P : go_O), go_u W i (some (ci, a, O')) j = some (cj, b, P) → (j = i ∧ cj = ci ∧ b = a ∧ P = O') ∨ (j ≠ i ∧ W j = some (cj, b, P)) := by
    intro j cj b P hj
    by_cases e : j = i
    · subst e
      rw [go_u_s] at hj
      cases hj
      exact Or.inl ⟨rfl, rfl, rfl, rfl⟩
    · rw [go_u_n e] at hj
      exact Or.inr ⟨e, hj⟩
  refine ⟨fun j cj b P hj => ?_, fun j1 j2 c1 b1 c2 b2 P1 P2 h1 h2 hne => ?_⟩
  · rcases key j cj b P hj with ⟨-, rfl, rfl, rfl⟩ | ⟨e, hj⟩
    · exact ⟨go_kk, (h.1 i _ _ O hi).2⟩
    · refine ⟨?_, (h.1 j cj b P hj).2⟩
      rw [go_comm (h.2 j i cj b ci a P O hj hi e), h.k hj]
  · rcases key j1 c1 b1 P1 h1 with ⟨e1, x1, y1, z1⟩ | ⟨e1, g1⟩ <;> rcases key j2 c2 b2 P2 h2 with ⟨e2, x2, y2, z2⟩ | ⟨e2, g2⟩
    · exact absurd (e1.trans e2.symm) hne
    · rw [x1, y1]
      exact h.2 i j2 _ _ c2 b2 O P2 hi g2 (Ne.symm e2)
    · rw [x2, y2]
      exact h.2 j1 i c1 b1 _ _ P1 O g1 hi e1
    · exact h.2 j1 j2 c1 b1 c2 b2 P1 P2 g1 g2 hne
theorem go_cs0 : ∀ x, 0 < x → x < go_z 0 → (go_d 0 (go_f 0 x)).2.1 = x := fun x h0 hz => (show ∀ x, x < go_z 0 → 0 < x → (go_d 0 (go_f 0 x)).2.1 = x by decide +kernel) x hz h0
theorem gq_0 (a : Nat) (O : go_O) (X : gx_H) : gx_is (go_k 0 a O X) a 0 = true ∧ gx_gi (go_k 0 a O X) a 0 0 = some (O.1 0) ∧ gx_gd (go_k 0 a O X) a 0 1 = some (a + 1) ∧ gx_len (go_k 0 a O X) (a + 1) 0 = some (nI 200) ∧ (∀ i, i < 200 → gx_gai (go_k 0 a O X) (a + 1) 0 (nI i) = some (O.2.2.2.1 1 i)) ∧ gx_gd (go_k 0 a O X) a 0 2 = some (a + 2) ∧ gx_len (go_k 0 a O X) (a + 2) 0 = some (nI 200) ∧ (∀ i, i < 200 → gx_gai (go_k 0 a O X) (a + 2) 0 (nI i) = some (O.2.2.2.1 2 i)) ∧ gx_gd (go_k 0 a O X) a 0 3 = some (a + 3) ∧ gx_len (go_k 0 a O X) (a + 3) 0 = some (nI 6) ∧ (∀ i, i < 6 → gx_gai (go_k 0 a O X) (a + 3) 0 (nI i) = some (O.2.2.2.1 3 i)) ∧ gx_gd (go_k 0 a O X) a 0 4 = some (a + 4) ∧ gx_len (go_k 0 a O X) (a + 4) 0 = some (nI 6) ∧ (∀ i, i < 6 → gx_gai (go_k 0 a O X) (a + 4) 0 (nI i) = some (O.2.2.2.1 4 i)) ∧ gx_gd (go_k 0 a O X) a 0 5 = some (a + 5) ∧ gx_len (go_k 0 a O X) (a + 5) 0 = some (nI 6) ∧ (∀ i, i < 6 → gx_gai (go_k 0 a O X) (a + 5) 0 (nI i) = some (O.2.2.2.1 5 i)) ∧ gx_gi (go_k 0 a O X) a 0 6 = some (O.1 6) ∧ gx_gi (go_k 0 a O X) a 0 7 = some (O.1 7) ∧ gx_gd (go_k 0 a O X) a 0 8 = some (a + 6) ∧ gx_len (go_k 0 a O X) (a + 6) 1 = some (nI 200) ∧ (∀ i, i < 200 → gx_gal (go_k 0 a O X) (a + 6) 1 (nI i) = some (O.2.2.2.2.1 8 i)) ∧ gx_gd (go_k 0 a O X) a 0 9 = some (a + 7) ∧ gx_len (go_k 0 a O X) (a + 7) 2 = some (nI 200) ∧ (∀ i, i < 200 → gx_gai (go_k 0 a O X) (a + 7) 2 (nI i) = some (O.2.2.2.1 9 i)) ∧ gx_gd (go_k 0 a O X) a 0 10 = some (a + 8) ∧ gx_len (go_k 0 a O X) (a + 8) 2 = some (nI 200) ∧ (∀ i, i < 200 → gx_gai (go_k 0 a O X) (a + 8) 2 (nI i) = some (O.2.2.2.1 10 i)) ∧ gx_gl (go_k 0 a O X) a 0 11 = some (O.2.1 11) ∧ gx_gl (go_k 0 a O X) a 0 12 = some (O.2.1 12) ∧ gx_gl (go_k 0 a O X) a 0 13 = some (O.2.1 13) ∧ gx_gi (go_k 0 a O X) a 0 14 = some (O.1 14) ∧ (∀ v, gx_pf (go_k 0 a O X) a 0 0 (.int v) = some (go_k 0 a (go_si O 0 v) X)) ∧ (∀ i v, i < 200 → gx_pai (go_k 0 a O X) (a + 1) 0 (nI i) v = some (go_k 0 a (go_ai O 1 i v) X)) ∧ (∀ i v, i < 200 → gx_pai (go_k 0 a O X) (a + 2) 0 (nI i) v = some (go_k 0 a (go_ai O 2 i v) X)) ∧ (∀ i v, i < 6 → gx_pai (go_k 0 a O X) (a + 3) 0 (nI i) v = some (go_k 0 a (go_ai O 3 i v) X)) ∧ (∀ i v, i < 6 → gx_pai (go_k 0 a O X) (a + 4) 0 (nI i) v = some (go_k 0 a (go_ai O 4 i v) X)) ∧ (∀ i v, i < 6 → gx_pai (go_k 0 a O X) (a + 5) 0 (nI i) v = some (go_k 0 a (go_ai O 5 i v) X)) ∧ (∀ v, gx_pf (go_k 0 a O X) a 0 6 (.int v) = some (go_k 0 a (go_si O 6 v) X)) ∧ (∀ v, gx_pf (go_k 0 a O X) a 0 7 (.int v) = some (go_k 0 a (go_si O 7 v) X)) ∧ (∀ i v, i < 200 → gx_pal (go_k 0 a O X) (a + 6) 1 (nI i) v = some (go_k 0 a (go_al O 8 i v) X)) ∧ (∀ i v, i < 200 → gx_pai (go_k 0 a O X) (a + 7) 2 (nI i) v = some (go_k 0 a (go_ai O 9 i v) X)) ∧ (∀ i v, i < 200 → gx_pai (go_k 0 a O X) (a + 8) 2 (nI i) v = some (go_k 0 a (go_ai O 10 i v) X)) ∧ (∀ v, gx_pf (go_k 0 a O X) a 0 11 (.long v) = some (go_k 0 a (go_sl O 11 v) X)) ∧ (∀ v, gx_pf (go_k 0 a O X) a 0 12 (.long v) = some (go_k 0 a (go_sl O 12 v) X)) ∧ (∀ v, gx_pf (go_k 0 a O X) a 0 13 (.long v) = some (go_k 0 a (go_sl O 13 v) X)) ∧ (∀ v, gx_pf (go_k 0 a O X) a 0 14 (.int v) = some (go_k 0 a (go_si O 14 v) X)) := ⟨go_is0, go_ri (Nat.le_of_ble_eq_true rfl) rfl, go_rd (Nat.le_of_ble_eq_true rfl) (Nat.le_of_ble_eq_true rfl) rfl, go_rlen (Nat.le_of_ble_eq_true rfl) (Nat.le_of_ble_eq_true rfl) rfl rfl, fun i hi => go_rai (Nat.le_of_ble_eq_true rfl) (Nat.le_of_ble_eq_true rfl) rfl rfl (by decide) hi, go_rd (Nat.le_of_ble_eq_true rfl) (Nat.le_of_ble_eq_true rfl) rfl, go_rlen (Nat.le_of_ble_eq_true rfl) (Nat.le_of_ble_eq_true rfl) rfl rfl, fun i hi => go_rai (Nat.le_of_ble_eq_true rfl) (Nat.le_of_ble_eq_true rfl) rfl rfl (by decide) hi, go_rd (Nat.le_of_ble_eq_true rfl) (Nat.le_of_ble_eq_true rfl) rfl, go_rlen (Nat.le_of_ble_eq_true rfl) (Nat.le_of_ble_eq_true rfl) rfl rfl, fun i hi => go_rai (Nat.le_of_ble_eq_true rfl) (Nat.le_of_ble_eq_true rfl) rfl rfl (by decide) hi, go_rd (Nat.le_of_ble_eq_true rfl) (Nat.le_of_ble_eq_true rfl) rfl, go_rlen (Nat.le_of_ble_eq_true rfl) (Nat.le_of_ble_eq_true rfl) rfl rfl, fun i hi => go_rai (Nat.le_of_ble_eq_true rfl) (Nat.le_of_ble_eq_true rfl) rfl rfl (by decide) hi, go_rd (Nat.le_of_ble_eq_true rfl) (Nat.le_of_ble_eq_true rfl) rfl, go_rlen (Nat.le_of_ble_eq_true rfl) (Nat.le_of_ble_eq_true rfl) rfl rfl, fun i hi => go_rai (Nat.le_of_ble_eq_true rfl) (Nat.le_of_ble_eq_true rfl) rfl rfl (by decide) hi, go_ri (Nat.le_of_ble_eq_true rfl) rfl, go_ri (Nat.le_of_ble_eq_true rfl) rfl, go_rd (Nat.le_of_ble_eq_true rfl) (Nat.le_of_ble_eq_true rfl) rfl, go_rlen (Nat.le_of_ble_eq_true rfl) (Nat.le_of_ble_eq_true rfl) rfl rfl, fun i hi => go_ral (Nat.le_of_ble_eq_true rfl) (Nat.le_of_ble_eq_true rfl) rfl rfl (by decide) hi, go_rd (Nat.le_of_ble_eq_true rfl) (Nat.le_of_ble_eq_true rfl) rfl, go_rlen (Nat.le_of_ble_eq_true rfl) (Nat.le_of_ble_eq_true rfl) rfl rfl, fun i hi => go_rai (Nat.le_of_ble_eq_true rfl) (Nat.le_of_ble_eq_true rfl) rfl rfl (by decide) hi, go_rd (Nat.le_of_ble_eq_true rfl) (Nat.le_of_ble_eq_true rfl) rfl, go_rlen (Nat.le_of_ble_eq_true rfl) (Nat.le_of_ble_eq_true rfl) rfl rfl, fun i hi => go_rai (Nat.le_of_ble_eq_true rfl) (Nat.le_of_ble_eq_true rfl) rfl rfl (by decide) hi, go_rl (Nat.le_of_ble_eq_true rfl) rfl, go_rl (Nat.le_of_ble_eq_true rfl) rfl, go_rl (Nat.le_of_ble_eq_true rfl) rfl, go_ri (Nat.le_of_ble_eq_true rfl) rfl, fun v => go_wi (Nat.le_of_ble_eq_true rfl) rfl, fun i v hi => go_wai (Nat.le_of_ble_eq_true rfl) (Nat.le_of_ble_eq_true rfl) go_cs0 rfl rfl (by decide) hi, fun i v hi => go_wai (Nat.le_of_ble_eq_true rfl) (Nat.le_of_ble_eq_true rfl) go_cs0 rfl rfl (by decide) hi, fun i v hi => go_wai (Nat.le_of_ble_eq_true rfl) (Nat.le_of_ble_eq_true rfl) go_cs0 rfl rfl (by decide) hi, fun i v hi => go_wai (Nat.le_of_ble_eq_true rfl) (Nat.le_of_ble_eq_true rfl) go_cs0 rfl rfl (by decide) hi, fun i v hi => go_wai (Nat.le_of_ble_eq_true rfl) (Nat.le_of_ble_eq_true rfl) go_cs0 rfl rfl (by decide) hi, fun v => go_wi (Nat.le_of_ble_eq_true rfl) rfl, fun v => go_wi (Nat.le_of_ble_eq_true rfl) rfl, fun i v hi => go_wal (Nat.le_of_ble_eq_true rfl) (Nat.le_of_ble_eq_true rfl) go_cs0 rfl rfl (by decide) hi, fun i v hi => go_wai (Nat.le_of_ble_eq_true rfl) (Nat.le_of_ble_eq_true rfl) go_cs0 rfl rfl (by decide) hi, fun i v hi => go_wai (Nat.le_of_ble_eq_true rfl) (Nat.le_of_ble_eq_true rfl) go_cs0 rfl rfl (by decide) hi, fun v => go_wl (Nat.le_of_ble_eq_true rfl) rfl, fun v => go_wl (Nat.le_of_ble_eq_true rfl) rfl, fun v => go_wl (Nat.le_of_ble_eq_true rfl) rfl, fun v => go_wi (Nat.le_of_ble_eq_true rfl) rfl⟩
theorem go_cs1 : ∀ x, 0 < x → x < go_z 1 → (go_d 1 (go_f 1 x)).2.1 = x := fun x h0 hz => (show ∀ x, x < go_z 1 → 0 < x → (go_d 1 (go_f 1 x)).2.1 = x by decide +kernel) x hz h0
theorem gq_1 (a : Nat) (O : go_O) (X : gx_H) : gx_is (go_k 1 a O X) a 1 = true ∧ gx_gd (go_k 1 a O X) a 1 0 = O.2.2.1 0 ∧ gx_gd (go_k 1 a O X) a 1 1 = some (a + 1) ∧ gx_len (go_k 1 a O X) (a + 1) 0 = some (nI 1600) ∧ (∀ i, i < 1600 → gx_gai (go_k 1 a O X) (a + 1) 0 (nI i) = some (O.2.2.2.1 1 i)) ∧ gx_gi (go_k 1 a O X) a 1 2 = some (O.1 2) ∧ gx_gi (go_k 1 a O X) a 1 3 = some (O.1 3) ∧ (∀ v, gx_pf (go_k 1 a O X) a 1 0 (.ref v) = some (go_k 1 a (go_sr O 0 (some v)) X)) ∧ (∀ i v, i < 1600 → gx_pai (go_k 1 a O X) (a + 1) 0 (nI i) v = some (go_k 1 a (go_ai O 1 i v) X)) ∧ (∀ v, gx_pf (go_k 1 a O X) a 1 2 (.int v) = some (go_k 1 a (go_si O 2 v) X)) ∧ (∀ v, gx_pf (go_k 1 a O X) a 1 3 (.int v) = some (go_k 1 a (go_si O 3 v) X)) := ⟨go_is0, go_rr (Nat.le_of_ble_eq_true rfl) rfl, go_rd (Nat.le_of_ble_eq_true rfl) (Nat.le_of_ble_eq_true rfl) rfl, go_rlen (Nat.le_of_ble_eq_true rfl) (Nat.le_of_ble_eq_true rfl) rfl rfl, fun i hi => go_rai (Nat.le_of_ble_eq_true rfl) (Nat.le_of_ble_eq_true rfl) rfl rfl (by decide) hi, go_ri (Nat.le_of_ble_eq_true rfl) rfl, go_ri (Nat.le_of_ble_eq_true rfl) rfl, fun v => go_wr (Nat.le_of_ble_eq_true rfl) rfl, fun i v hi => go_wai (Nat.le_of_ble_eq_true rfl) (Nat.le_of_ble_eq_true rfl) go_cs1 rfl rfl (by decide) hi, fun v => go_wi (Nat.le_of_ble_eq_true rfl) rfl, fun v => go_wi (Nat.le_of_ble_eq_true rfl) rfl⟩
theorem go_cs2 : ∀ x, 0 < x → x < go_z 2 → (go_d 2 (go_f 2 x)).2.1 = x := fun x h0 hz => (show ∀ x, x < go_z 2 → 0 < x → (go_d 2 (go_f 2 x)).2.1 = x by decide +kernel) x hz h0
theorem gq_2 (a : Nat) (O : go_O) (X : gx_H) : gx_is (go_k 2 a O X) a 2 = true ∧ gx_gd (go_k 2 a O X) a 2 0 = O.2.2.1 0 ∧ gx_gd (go_k 2 a O X) a 2 1 = some (a + 1) ∧ gx_len (go_k 2 a O X) (a + 1) 0 = some (nI 201) ∧ (∀ i, i < 201 → gx_gai (go_k 2 a O X) (a + 1) 0 (nI i) = some (O.2.2.2.1 1 i)) ∧ (∀ v, gx_pf (go_k 2 a O X) a 2 0 (.ref v) = some (go_k 2 a (go_sr O 0 (some v)) X)) ∧ (∀ i v, i < 201 → gx_pai (go_k 2 a O X) (a + 1) 0 (nI i) v = some (go_k 2 a (go_ai O 1 i v) X)) := ⟨go_is0, go_rr (Nat.le_of_ble_eq_true rfl) rfl, go_rd (Nat.le_of_ble_eq_true rfl) (Nat.le_of_ble_eq_true rfl) rfl, go_rlen (Nat.le_of_ble_eq_true rfl) (Nat.le_of_ble_eq_true rfl) rfl rfl, fun i hi => go_rai (Nat.le_of_ble_eq_true rfl) (Nat.le_of_ble_eq_true rfl) rfl rfl (by decide) hi, fun v => go_wr (Nat.le_of_ble_eq_true rfl) rfl, fun i v hi => go_wai (Nat.le_of_ble_eq_true rfl) (Nat.le_of_ble_eq_true rfl) go_cs2 rfl rfl (by decide) hi⟩
theorem go_cs3 : ∀ x, 0 < x → x < go_z 3 → (go_d 3 (go_f 3 x)).2.1 = x := fun x h0 hz => (show ∀ x, x < go_z 3 → 0 < x → (go_d 3 (go_f 3 x)).2.1 = x by decide +kernel) x hz h0
theorem gq_3 (a : Nat) (O : go_O) (X : gx_H) : gx_is (go_k 3 a O X) a 3 = true ∧ gx_gd (go_k 3 a O X) a 3 0 = some (a + 1) ∧ gx_len (go_k 3 a O X) (a + 1) 3 = some (nI 8) ∧ (∀ i, i < 8 → gx_gar (go_k 3 a O X) (a + 1) 3 (nI i) = some (O.2.2.2.2.2 0 i)) ∧ gx_gi (go_k 3 a O X) a 3 1 = some (O.1 1) ∧ gx_gi (go_k 3 a O X) a 3 2 = some (O.1 2) ∧ (∀ i v, i < 8 → gx_par (go_k 3 a O X) (a + 1) 3 (nI i) v = some (go_k 3 a (go_ar O 0 i v) X)) ∧ (∀ v, gx_pf (go_k 3 a O X) a 3 1 (.int v) = some (go_k 3 a (go_si O 1 v) X)) ∧ (∀ v, gx_pf (go_k 3 a O X) a 3 2 (.int v) = some (go_k 3 a (go_si O 2 v) X)) := ⟨go_is0, go_rd (Nat.le_of_ble_eq_true rfl) (Nat.le_of_ble_eq_true rfl) rfl, go_rlen (Nat.le_of_ble_eq_true rfl) (Nat.le_of_ble_eq_true rfl) rfl rfl, fun i hi => go_rar (Nat.le_of_ble_eq_true rfl) (Nat.le_of_ble_eq_true rfl) rfl rfl (by decide) hi, go_ri (Nat.le_of_ble_eq_true rfl) rfl, go_ri (Nat.le_of_ble_eq_true rfl) rfl, fun i v hi => go_war (Nat.le_of_ble_eq_true rfl) (Nat.le_of_ble_eq_true rfl) go_cs3 rfl rfl (by decide) hi, fun v => go_wi (Nat.le_of_ble_eq_true rfl) rfl, fun v => go_wi (Nat.le_of_ble_eq_true rfl) rfl⟩
theorem go_cs4 : ∀ x, 0 < x → x < go_z 4 → (go_d 4 (go_f 4 x)).2.1 = x := fun x h0 hz => (show ∀ x, x < go_z 4 → 0 < x → (go_d 4 (go_f 4 x)).2.1 = x by decide +kernel) x hz h0
theorem gq_4 (a : Nat) (O : go_O) (X : gx_H) : gx_is (go_k 4 a O X) a 4 = true ∧ gx_gd (go_k 4 a O X) a 4 0 = some (a + 1) ∧ gx_len (go_k 4 a O X) (a + 1) 2 = some (nI 16) ∧ (∀ i, i < 16 → gx_gai (go_k 4 a O X) (a + 1) 2 (nI i) = some (O.2.2.2.1 0 i)) ∧ gx_gd (go_k 4 a O X) a 4 1 = some (a + 2) ∧ gx_len (go_k 4 a O X) (a + 2) 1 = some (nI 960) ∧ (∀ i, i < 960 → gx_gal (go_k 4 a O X) (a + 2) 1 (nI i) = some (O.2.2.2.2.1 1 i)) ∧ gx_gi (go_k 4 a O X) a 4 2 = some (O.1 2) ∧ gx_gi (go_k 4 a O X) a 4 3 = some (O.1 3) ∧ (∀ i v, i < 16 → gx_pai (go_k 4 a O X) (a + 1) 2 (nI i) v = some (go_k 4 a (go_ai O 0 i v) X)) ∧ (∀ i v, i < 960 → gx_pal (go_k 4 a O X) (a + 2) 1 (nI i) v = some (go_k 4 a (go_al O 1 i v) X)) ∧ (∀ v, gx_pf (go_k 4 a O X) a 4 2 (.int v) = some (go_k 4 a (go_si O 2 v) X)) ∧ (∀ v, gx_pf (go_k 4 a O X) a 4 3 (.int v) = some (go_k 4 a (go_si O 3 v) X)) := ⟨go_is0, go_rd (Nat.le_of_ble_eq_true rfl) (Nat.le_of_ble_eq_true rfl) rfl, go_rlen (Nat.le_of_ble_eq_true rfl) (Nat.le_of_ble_eq_true rfl) rfl rfl, fun i hi => go_rai (Nat.le_of_ble_eq_true rfl) (Nat.le_of_ble_eq_true rfl) rfl rfl (by decide) hi, go_rd (Nat.le_of_ble_eq_true rfl) (Nat.le_of_ble_eq_true rfl) rfl, go_rlen (Nat.le_of_ble_eq_true rfl) (Nat.le_of_ble_eq_true rfl) rfl rfl, fun i hi => go_ral (Nat.le_of_ble_eq_true rfl) (Nat.le_of_ble_eq_true rfl) rfl rfl (by decide) hi, go_ri (Nat.le_of_ble_eq_true rfl) rfl, go_ri (Nat.le_of_ble_eq_true rfl) rfl, fun i v hi => go_wai (Nat.le_of_ble_eq_true rfl) (Nat.le_of_ble_eq_true rfl) go_cs4 rfl rfl (by decide) hi, fun i v hi => go_wal (Nat.le_of_ble_eq_true rfl) (Nat.le_of_ble_eq_true rfl) go_cs4 rfl rfl (by decide) hi, fun v => go_wi (Nat.le_of_ble_eq_true rfl) rfl, fun v => go_wi (Nat.le_of_ble_eq_true rfl) rfl⟩
theorem go_cs5 : ∀ x, 0 < x → x < go_z 5 → (go_d 5 (go_f 5 x)).2.1 = x := fun x h0 hz => (show ∀ x, x < go_z 5 → 0 < x → (go_d 5 (go_f 5 x)).2.1 = x by decide +kernel) x hz h0
theorem gq_5 (a : Nat) (O : go_O) (X : gx_H) : gx_is (go_k 5 a O X) a 5 = true ∧ gx_gd (go_k 5 a O X) a 5 0 = O.2.2.1 0 ∧ gx_gd (go_k 5 a O X) a 5 1 = O.2.2.1 1 ∧ gx_gd (go_k 5 a O X) a 5 2 = O.2.2.1 2 ∧ gx_gd (go_k 5 a O X) a 5 3 = O.2.2.1 3 ∧ gx_gd (go_k 5 a O X) a 5 4 = O.2.2.1 4 ∧ gx_gi (go_k 5 a O X) a 5 5 = some (O.1 5) ∧ (∀ v, gx_pf (go_k 5 a O X) a 5 0 (.ref v) = some (go_k 5 a (go_sr O 0 (some v)) X)) ∧ (∀ v, gx_pf (go_k 5 a O X) a 5 1 (.ref v) = some (go_k 5 a (go_sr O 1 (some v)) X)) ∧ (∀ v, gx_pf (go_k 5 a O X) a 5 2 (.ref v) = some (go_k 5 a (go_sr O 2 (some v)) X)) ∧ (∀ v, gx_pf (go_k 5 a O X) a 5 3 (.ref v) = some (go_k 5 a (go_sr O 3 (some v)) X)) ∧ (∀ v, gx_pf (go_k 5 a O X) a 5 4 (.ref v) = some (go_k 5 a (go_sr O 4 (some v)) X)) ∧ (∀ v, gx_pf (go_k 5 a O X) a 5 5 (.int v) = some (go_k 5 a (go_si O 5 v) X)) := ⟨go_is0, go_rr (Nat.le_of_ble_eq_true rfl) rfl, go_rr (Nat.le_of_ble_eq_true rfl) rfl, go_rr (Nat.le_of_ble_eq_true rfl) rfl, go_rr (Nat.le_of_ble_eq_true rfl) rfl, go_rr (Nat.le_of_ble_eq_true rfl) rfl, go_ri (Nat.le_of_ble_eq_true rfl) rfl, fun v => go_wr (Nat.le_of_ble_eq_true rfl) rfl, fun v => go_wr (Nat.le_of_ble_eq_true rfl) rfl, fun v => go_wr (Nat.le_of_ble_eq_true rfl) rfl, fun v => go_wr (Nat.le_of_ble_eq_true rfl) rfl, fun v => go_wr (Nat.le_of_ble_eq_true rfl) rfl, fun v => go_wi (Nat.le_of_ble_eq_true rfl) rfl⟩
theorem go_cs6 : ∀ x, 0 < x → x < go_z 6 → (go_d 6 (go_f 6 x)).2.1 = x := fun x h0 hz => (show ∀ x, x < go_z 6 → 0 < x → (go_d 6 (go_f 6 x)).2.1 = x by decide +kernel) x hz h0
theorem gq_6 (a : Nat) (O : go_O) (X : gx_H) : gx_is (go_k 6 a O X) a 6 = true ∧ gx_gi (go_k 6 a O X) a 6 0 = some (O.1 0) ∧ gx_gi (go_k 6 a O X) a 6 1 = some (O.1 1) ∧ gx_gd (go_k 6 a O X) a 6 2 = some (a + 1) ∧ gx_len (go_k 6 a O X) (a + 1) 2 = some (nI 58560) ∧ (∀ i, i < 58560 → gx_gai (go_k 6 a O X) (a + 1) 2 (nI i) = some (O.2.2.2.1 2 i)) ∧ gx_gd (go_k 6 a O X) a 6 3 = some (a + 2) ∧ gx_len (go_k 6 a O X) (a + 2) 2 = some (nI 16) ∧ (∀ i, i < 16 → gx_gai (go_k 6 a O X) (a + 2) 2 (nI i) = some (O.2.2.2.1 3 i)) ∧ gx_gd (go_k 6 a O X) a 6 4 = some (a + 3) ∧ gx_len (go_k 6 a O X) (a + 3) 0 = some (nI 2) ∧ (∀ i, i < 2 → gx_gai (go_k 6 a O X) (a + 3) 0 (nI i) = some (O.2.2.2.1 4 i)) ∧ gx_gd (go_k 6 a O X) a 6 5 = some (a + 4) ∧ gx_len (go_k 6 a O X) (a + 4) 0 = some (nI 16) ∧ (∀ i, i < 16 → gx_gai (go_k 6 a O X) (a + 4) 0 (nI i) = some (O.2.2.2.1 5 i)) ∧ gx_gd (go_k 6 a O X) a 6 6 = some (a + 5) ∧ gx_len (go_k 6 a O X) (a + 5) 0 = some (nI 16) ∧ (∀ i, i < 16 → gx_gai (go_k 6 a O X) (a + 5) 0 (nI i) = some (O.2.2.2.1 6 i)) ∧ gx_gd (go_k 6 a O X) a 6 7 = some (a + 6) ∧ gx_len (go_k 6 a O X) (a + 6) 0 = some (nI 3200) ∧ (∀ i, i < 3200 → gx_gai (go_k 6 a O X) (a + 6) 0 (nI i) = some (O.2.2.2.1 7 i)) ∧ gx_gd (go_k 6 a O X) a 6 8 = some (a + 7) ∧ gx_len (go_k 6 a O X) (a + 7) 0 = some (nI 3200) ∧ (∀ i, i < 3200 → gx_gai (go_k 6 a O X) (a + 7) 0 (nI i) = some (O.2.2.2.1 8 i)) ∧ gx_gd (go_k 6 a O X) a 6 9 = some (a + 8) ∧ gx_len (go_k 6 a O X) (a + 8) 0 = some (nI 96) ∧ (∀ i, i < 96 → gx_gai (go_k 6 a O X) (a + 8) 0 (nI i) = some (O.2.2.2.1 9 i)) ∧ gx_gd (go_k 6 a O X) a 6 10 = some (a + 9) ∧ gx_len (go_k 6 a O X) (a + 9) 0 = some (nI 96) ∧ (∀ i, i < 96 → gx_gai (go_k 6 a O X) (a + 9) 0 (nI i) = some (O.2.2.2.1 10 i)) ∧ gx_gd (go_k 6 a O X) a 6 11 = some (a + 10) ∧ gx_len (go_k 6 a O X) (a + 10) 0 = some (nI 96) ∧ (∀ i, i < 96 → gx_gai (go_k 6 a O X) (a + 10) 0 (nI i) = some (O.2.2.2.1 11 i)) ∧ gx_gi (go_k 6 a O X) a 6 12 = some (O.1 12) ∧ gx_gd (go_k 6 a O X) a 6 13 = some (a + 11) ∧ gx_len (go_k 6 a O X) (a + 11) 2 = some (nI 2) ∧ (∀ i, i < 2 → gx_gai (go_k 6 a O X) (a + 11) 2 (nI i) = some (O.2.2.2.1 13 i)) ∧ gx_gd (go_k 6 a O X) a 6 14 = some (a + 12) ∧ gx_len (go_k 6 a O X) (a + 12) 1 = some (nI 3200) ∧ (∀ i, i < 3200 → gx_gal (go_k 6 a O X) (a + 12) 1 (nI i) = some (O.2.2.2.2.1 14 i)) ∧ gx_gd (go_k 6 a O X) a 6 15 = some (a + 13) ∧ gx_len (go_k 6 a O X) (a + 13) 1 = some (nI 16) ∧ (∀ i, i < 16 → gx_gal (go_k 6 a O X) (a + 13) 1 (nI i) = some (O.2.2.2.2.1 15 i)) ∧ gx_gd (go_k 6 a O X) a 6 16 = some (a + 14) ∧ gx_len (go_k 6 a O X) (a + 14) 1 = some (nI 16) ∧ (∀ i, i < 16 → gx_gal (go_k 6 a O X) (a + 14) 1 (nI i) = some (O.2.2.2.2.1 16 i)) ∧ gx_gd (go_k 6 a O X) a 6 17 = some (a + 15) ∧ gx_len (go_k 6 a O X) (a + 15) 1 = some (nI 16) ∧ (∀ i, i < 16 → gx_gal (go_k 6 a O X) (a + 15) 1 (nI i) = some (O.2.2.2.2.1 17 i)) ∧ gx_gi (go_k 6 a O X) a 6 18 = some (O.1 18) ∧ gx_gd (go_k 6 a O X) a 6 19 = some (a + 16) ∧ gx_len (go_k 6 a O X) (a + 16) 0 = some (nI 201) ∧ (∀ i, i < 201 → gx_gai (go_k 6 a O X) (a + 16) 0 (nI i) = some (O.2.2.2.1 19 i)) ∧ (∀ v, gx_pf (go_k 6 a O X) a 6 0 (.int v) = some (go_k 6 a (go_si O 0 v) X)) ∧ (∀ v, gx_pf (go_k 6 a O X) a 6 1 (.int v) = some (go_k 6 a (go_si O 1 v) X)) ∧ (∀ i v, i < 58560 → gx_pai (go_k 6 a O X) (a + 1) 2 (nI i) v = some (go_k 6 a (go_ai O 2 i v) X)) ∧ (∀ i v, i < 16 → gx_pai (go_k 6 a O X) (a + 2) 2 (nI i) v = some (go_k 6 a (go_ai O 3 i v) X)) ∧ (∀ i v, i < 2 → gx_pai (go_k 6 a O X) (a + 3) 0 (nI i) v = some (go_k 6 a (go_ai O 4 i v) X)) ∧ (∀ i v, i < 16 → gx_pai (go_k 6 a O X) (a + 4) 0 (nI i) v = some (go_k 6 a (go_ai O 5 i v) X)) ∧ (∀ i v, i < 16 → gx_pai (go_k 6 a O X) (a + 5) 0 (nI i) v = some (go_k 6 a (go_ai O 6 i v) X)) ∧ (∀ i v, i < 3200 → gx_pai (go_k 6 a O X) (a + 6) 0 (nI i) v = some (go_k 6 a (go_ai O 7 i v) X)) ∧ (∀ i v, i < 3200 → gx_pai (go_k 6 a O X) (a + 7) 0 (nI i) v = some (go_k 6 a (go_ai O 8 i v) X)) ∧ (∀ i v, i < 96 → gx_pai (go_k 6 a O X) (a + 8) 0 (nI i) v = some (go_k 6 a (go_ai O 9 i v) X)) ∧ (∀ i v, i < 96 → gx_pai (go_k 6 a O X) (a + 9) 0 (nI i) v = some (go_k 6 a (go_ai O 10 i v) X)) ∧ (∀ i v, i < 96 → gx_pai (go_k 6 a O X) (a + 10) 0 (nI i) v = some (go_k 6 a (go_ai O 11 i v) X)) ∧ (∀ v, gx_pf (go_k 6 a O X) a 6 12 (.int v) = some (go_k 6 a (go_si O 12 v) X)) ∧ (∀ i v, i < 2 → gx_pai (go_k 6 a O X) (a + 11) 2 (nI i) v = some (go_k 6 a (go_ai O 13 i v) X)) ∧ (∀ i v, i < 3200 → gx_pal (go_k 6 a O X) (a + 12) 1 (nI i) v = some (go_k 6 a (go_al O 14 i v) X)) ∧ (∀ i v, i < 16 → gx_pal (go_k 6 a O X) (a + 13) 1 (nI i) v = some (go_k 6 a (go_al O 15 i v) X)) ∧ (∀ i v, i < 16 → gx_pal (go_k 6 a O X) (a + 14) 1 (nI i) v = some (go_k 6 a (go_al O 16 i v) X)) ∧ (∀ i v, i < 16 → gx_pal (go_k 6 a O X) (a + 15) 1 (nI i) v = some (go_k 6 a (go_al O 17 i v) X)) ∧ (∀ v, gx_pf (go_k 6 a O X) a 6 18 (.int v) = some (go_k 6 a (go_si O 18 v) X)) ∧ (∀ i v, i < 201 → gx_pai (go_k 6 a O X) (a + 16) 0 (nI i) v = some (go_k 6 a (go_ai O 19 i v) X)) := ⟨go_is0, go_ri (Nat.le_of_ble_eq_true rfl) rfl, go_ri (Nat.le_of_ble_eq_true rfl) rfl, go_rd (Nat.le_of_ble_eq_true rfl) (Nat.le_of_ble_eq_true rfl) rfl, go_rlen (Nat.le_of_ble_eq_true rfl) (Nat.le_of_ble_eq_true rfl) rfl rfl, fun i hi => go_rai (Nat.le_of_ble_eq_true rfl) (Nat.le_of_ble_eq_true rfl) rfl rfl (by decide) hi, go_rd (Nat.le_of_ble_eq_true rfl) (Nat.le_of_ble_eq_true rfl) rfl, go_rlen (Nat.le_of_ble_eq_true rfl) (Nat.le_of_ble_eq_true rfl) rfl rfl, fun i hi => go_rai (Nat.le_of_ble_eq_true rfl) (Nat.le_of_ble_eq_true rfl) rfl rfl (by decide) hi, go_rd (Nat.le_of_ble_eq_true rfl) (Nat.le_of_ble_eq_true rfl) rfl, go_rlen (Nat.le_of_ble_eq_true rfl) (Nat.le_of_ble_eq_true rfl) rfl rfl, fun i hi => go_rai (Nat.le_of_ble_eq_true rfl) (Nat.le_of_ble_eq_true rfl) rfl rfl (by decide) hi, go_rd (Nat.le_of_ble_eq_true rfl) (Nat.le_of_ble_eq_true rfl) rfl, go_rlen (Nat.le_of_ble_eq_true rfl) (Nat.le_of_ble_eq_true rfl) rfl rfl, fun i hi => go_rai (Nat.le_of_ble_eq_true rfl) (Nat.le_of_ble_eq_true rfl) rfl rfl (by decide) hi, go_rd (Nat.le_of_ble_eq_true rfl) (Nat.le_of_ble_eq_true rfl) rfl, go_rlen (Nat.le_of_ble_eq_true rfl) (Nat.le_of_ble_eq_true rfl) rfl rfl, fun i hi => go_rai (Nat.le_of_ble_eq_true rfl) (Nat.le_of_ble_eq_true rfl) rfl rfl (by decide) hi, go_rd (Nat.le_of_ble_eq_true rfl) (Nat.le_of_ble_eq_true rfl) rfl, go_rlen (Nat.le_of_ble_eq_true rfl) (Nat.le_of_ble_eq_true rfl) rfl rfl, fun i hi => go_rai (Nat.le_of_ble_eq_true rfl) (Nat.le_of_ble_eq_true rfl) rfl rfl (by decide) hi, go_rd (Nat.le_of_ble_eq_true rfl) (Nat.le_of_ble_eq_true rfl) rfl, go_rlen (Nat.le_of_ble_eq_true rfl) (Nat.le_of_ble_eq_true rfl) rfl rfl, fun i hi => go_rai (Nat.le_of_ble_eq_true rfl) (Nat.le_of_ble_eq_true rfl) rfl rfl (by decide) hi, go_rd (Nat.le_of_ble_eq_true rfl) (Nat.le_of_ble_eq_true rfl) rfl, go_rlen (Nat.le_of_ble_eq_true rfl) (Nat.le_of_ble_eq_true rfl) rfl rfl, fun i hi => go_rai (Nat.le_of_ble_eq_true rfl) (Nat.le_of_ble_eq_true rfl) rfl rfl (by decide) hi, go_rd (Nat.le_of_ble_eq_true rfl) (Nat.le_of_ble_eq_true rfl) rfl, go_rlen (Nat.le_of_ble_eq_true rfl) (Nat.le_of_ble_eq_true rfl) rfl rfl, fun i hi => go_rai (Nat.le_of_ble_eq_true rfl) (Nat.le_of_ble_eq_true rfl) rfl rfl (by decide) hi, go_rd (Nat.le_of_ble_eq_true rfl) (Nat.le_of_ble_eq_true rfl) rfl, go_rlen (Nat.le_of_ble_eq_true rfl) (Nat.le_of_ble_eq_true rfl) rfl rfl, fun i hi => go_rai (Nat.le_of_ble_eq_true rfl) (Nat.le_of_ble_eq_true rfl) rfl rfl (by decide) hi, go_ri (Nat.le_of_ble_eq_true rfl) rfl, go_rd (Nat.le_of_ble_eq_true rfl) (Nat.le_of_ble_eq_true rfl) rfl, go_rlen (Nat.le_of_ble_eq_true rfl) (Nat.le_of_ble_eq_true rfl) rfl rfl, fun i hi => go_rai (Nat.le_of_ble_eq_true rfl) (Nat.le_of_ble_eq_true rfl) rfl rfl (by decide) hi, go_rd (Nat.le_of_ble_eq_true rfl) (Nat.le_of_ble_eq_true rfl) rfl, go_rlen (Nat.le_of_ble_eq_true rfl) (Nat.le_of_ble_eq_true rfl) rfl rfl, fun i hi => go_ral (Nat.le_of_ble_eq_true rfl) (Nat.le_of_ble_eq_true rfl) rfl rfl (by decide) hi, go_rd (Nat.le_of_ble_eq_true rfl) (Nat.le_of_ble_eq_true rfl) rfl, go_rlen (Nat.le_of_ble_eq_true rfl) (Nat.le_of_ble_eq_true rfl) rfl rfl, fun i hi => go_ral (Nat.le_of_ble_eq_true rfl) (Nat.le_of_ble_eq_true rfl) rfl rfl (by decide) hi, go_rd (Nat.le_of_ble_eq_true rfl) (Nat.le_of_ble_eq_true rfl) rfl, go_rlen (Nat.le_of_ble_eq_true rfl) (Nat.le_of_ble_eq_true rfl) rfl rfl, fun i hi => go_ral (Nat.le_of_ble_eq_true rfl) (Nat.le_of_ble_eq_true rfl) rfl rfl (by decide) hi, go_rd (Nat.le_of_ble_eq_true rfl) (Nat.le_of_ble_eq_true rfl) rfl, go_rlen (Nat.le_of_ble_eq_true rfl) (Nat.le_of_ble_eq_true rfl) rfl rfl, fun i hi => go_ral (Nat.le_of_ble_eq_true rfl) (Nat.le_of_ble_eq_true rfl) rfl rfl (by decide) hi, go_ri (Nat.le_of_ble_eq_true rfl) rfl, go_rd (Nat.le_of_ble_eq_true rfl) (Nat.le_of_ble_eq_true rfl) rfl, go_rlen (Nat.le_of_ble_eq_true rfl) (Nat.le_of_ble_eq_true rfl) rfl rfl, fun i hi => go_rai (Nat.le_of_ble_eq_true rfl) (Nat.le_of_ble_eq_true rfl) rfl rfl (by decide) hi, fun v => go_wi (Nat.le_of_ble_eq_true rfl) rfl, fun v => go_wi (Nat.le_of_ble_eq_true rfl) rfl, fun i v hi => go_wai (Nat.le_of_ble_eq_true rfl) (Nat.le_of_ble_eq_true rfl) go_cs6 rfl rfl (by decide) hi, fun i v hi => go_wai (Nat.le_of_ble_eq_true rfl) (Nat.le_of_ble_eq_true rfl) go_cs6 rfl rfl (by decide) hi, fun i v hi => go_wai (Nat.le_of_ble_eq_true rfl) (Nat.le_of_ble_eq_true rfl) go_cs6 rfl rfl (by decide) hi, fun i v hi => go_wai (Nat.le_of_ble_eq_true rfl) (Nat.le_of_ble_eq_true rfl) go_cs6 rfl rfl (by decide) hi, fun i v hi => go_wai (Nat.le_of_ble_eq_true rfl) (Nat.le_of_ble_eq_true rfl) go_cs6 rfl rfl (by decide) hi, fun i v hi => go_wai (Nat.le_of_ble_eq_true rfl) (Nat.le_of_ble_eq_true rfl) go_cs6 rfl rfl (by decide) hi, fun i v hi => go_wai (Nat.le_of_ble_eq_true rfl) (Nat.le_of_ble_eq_true rfl) go_cs6 rfl rfl (by decide) hi, fun i v hi => go_wai (Nat.le_of_ble_eq_true rfl) (Nat.le_of_ble_eq_true rfl) go_cs6 rfl rfl (by decide) hi, fun i v hi => go_wai (Nat.le_of_ble_eq_true rfl) (Nat.le_of_ble_eq_true rfl) go_cs6 rfl rfl (by decide) hi, fun i v hi => go_wai (Nat.le_of_ble_eq_true rfl) (Nat.le_of_ble_eq_true rfl) go_cs6 rfl rfl (by decide) hi, fun v => go_wi (Nat.le_of_ble_eq_true rfl) rfl, fun i v hi => go_wai (Nat.le_of_ble_eq_true rfl) (Nat.le_of_ble_eq_true rfl) go_cs6 rfl rfl (by decide) hi, fun i v hi => go_wal (Nat.le_of_ble_eq_true rfl) (Nat.le_of_ble_eq_true rfl) go_cs6 rfl rfl (by decide) hi, fun i v hi => go_wal (Nat.le_of_ble_eq_true rfl) (Nat.le_of_ble_eq_true rfl) go_cs6 rfl rfl (by decide) hi, fun i v hi => go_wal (Nat.le_of_ble_eq_true rfl) (Nat.le_of_ble_eq_true rfl) go_cs6 rfl rfl (by decide) hi, fun i v hi => go_wal (Nat.le_of_ble_eq_true rfl) (Nat.le_of_ble_eq_true rfl) go_cs6 rfl rfl (by decide) hi, fun v => go_wi (Nat.le_of_ble_eq_true rfl) rfl, fun i v hi => go_wai (Nat.le_of_ble_eq_true rfl) (Nat.le_of_ble_eq_true rfl) go_cs6 rfl rfl (by decide) hi⟩
