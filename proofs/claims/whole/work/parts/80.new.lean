/-! new objects -/
def go_0 : go_O := (fun _ => 0, fun _ => 0, fun _ => none, fun _ _ => 0, fun _ _ => 0, fun _ _ => none)
def nws (X : gx_H) : List gx_E → gx_H
  | [] => X
  | e :: es => nws (gx_nw X e) es
theorem nws_2 : ∀ (es : List gx_E) (X : gx_H), (nws X es).2 = X.2 + es.length
  | [], X => rfl
  | e :: es, X => by
    rw [nws, nws_2 es]
    show X.2 + 1 + es.length = X.2 + (es.length + 1)
    omega
theorem nws_1 : ∀ (es : List gx_E) (X : gx_H) (q : Nat), (nws X es).1 q = if X.2 ≤ q ∧ q < X.2 + es.length then es[q - X.2]? else X.1 q
  | [], X, q => by
    rw [if_neg (by simp)]
    rfl
  | e :: es, X, q => by
    rw [nws, nws_1 es]
    have e2 : (gx_nw X e).2 = X.2 + 1 := rfl
    have el : (e :: es).length = es.length + 1 := rfl
    rw [e2, el]
    by_cases c : X.2 + 1 ≤ q ∧ q < X.2 + 1 + es.length
    · rw [if_pos c, if_pos (by omega), show q - X.2 = (q - (X.2 + 1)) + 1 by omega]
      rfl
    · rw [if_neg c]
      show (if q = X.2 then some e else X.1 q) = _
      by_cases c2 : q = X.2
      · rw [if_pos c2, if_pos (by omega), show q - X.2 = 0 by omega]
        rfl
      · rw [if_neg c2, if_neg (by omega)]
def gxo (a ci : Nat) (fs : List Value) (X : gx_H) : gx_H := (gx_up X.1 a (.inr (ci, fs)), X.2)
theorem nw_o (X : gx_H) (ci : Nat) (fs : List Value) : gx_nw X (.inr (ci, fs)) = gxo X.2 ci fs (X.1, X.2 + 1) := rfl
theorem pf_o {a ci k : Nat} {fs : List Value} {Y : gx_H} {v : Value} (hk : k < fs.length) : gx_pf (gxo a ci fs Y) a ci k v = some (gxo a ci (fs.set k v) Y) := by
  have e : (gxo a ci fs Y).1 a = some (.inr (ci, fs)) := by simp [gxo, gx_up]
  unfold gx_pf
  rw [e]
  show (if ci = ci ∧ k < fs.length then some (gx_up (gxo a ci fs Y).1 a (.inr (ci, fs.set k v)), Y.2) else none) = _
  rw [if_pos ⟨rfl, hk⟩]
  unfold gxo gx_up
  congr 2
  funext q
  by_cases c : q = a
  · rw [if_pos c, if_pos c]
  · rw [if_neg c, if_neg c]
    show (if q = a then _ else Y.1 q) = _
    rw [if_neg c]
theorem nw_gxo {a ci : Nat} {fs : List Value} {Y : gx_H} {e : gx_E} (h : a < Y.2) : gx_nw (gxo a ci fs Y) e = gxo a ci fs (gx_nw Y e) := by
  unfold gx_nw gxo gx_up
  congr 1
  funext q
  show (if q = Y.2 then some e else if q = a then _ else Y.1 q) = (if q = a then _ else if q = Y.2 then some e else Y.1 q)
  by_cases c : q = Y.2
  · rw [if_pos c, if_neg (by omega), if_pos c]
  · rw [if_neg c, if_neg c]
theorem pf_nw {a ci k : Nat} {fs : List Value} {Y : gx_H} {e : gx_E} {v : Value} (h : a < Y.2) (hk : k < fs.length) : gx_pf (gx_nw (gxo a ci fs Y) e) a ci k v = some (gxo a ci (fs.set k v) (gx_nw Y e)) := by rw [nw_gxo h, pf_o hk]
theorem blk_mk {ci n : Nat} {O : go_O} {fs : List Value} {es : List gx_E} {X : gx_H} (hz : n + 1 = go_z ci) (hf : fs = go_fs ci X.2 O) (he : es = (List.range n).map (fun o => .inl ((go_d ci (go_f ci (o + 1))).2.2.1, go_a ci O (go_f ci (o + 1))))) : gxo X.2 ci fs (nws (X.1, X.2 + 1) es) = go_k ci X.2 O (X.1, X.2 + go_z ci) := by
  have el : es.length = n := by rw [he]; simp
  refine Prod.ext ?_ ?_
  · funext q
    show (if q = X.2 then some (.inr (ci, fs)) else (nws (X.1, X.2 + 1) es).1 q) = (if X.2 ≤ q ∧ q < X.2 + go_z ci then some (go_c ci X.2 O q) else X.1 q)
    by_cases c : q = X.2
    · rw [if_pos c, if_pos (by omega), go_c, if_pos c, hf]
    · rw [if_neg c, nws_1, el]
      by_cases c2 : X.2 ≤ q ∧ q < X.2 + go_z ci
      · rw [if_pos c2, if_pos (show X.2 + 1 ≤ q ∧ q < X.2 + 1 + n by omega), go_c, if_neg c, he]
        show ((List.range n).map _)[q - (X.2 + 1)]? = _
        rw [List.getElem?_map, List.getElem?_range (by omega)]
        show some _ = some _
        dsimp only
        rw [show q - (X.2 + 1) + 1 = q - X.2 by omega]
      · rw [if_neg c2, if_neg (show ¬ (X.2 + 1 ≤ q ∧ q < X.2 + 1 + n) by omega)]
  · show (nws (X.1, X.2 + 1) es).2 = X.2 + go_z ci
    rw [nws_2, el]
    show X.2 + 1 + n = _
    omega
theorem gw_D.new {W : gw_T} {X : gx_H} (h : gw_D W X) {i ci : Nat} (hi : W i = none) (O : go_O) : gw_D (go_u W i (some (ci, X.2, O))) (go_k ci X.2 O (X.1, X.2 + go_z ci)) := by
  have key : ∀ (j cj b : Nat) (P : go_O), go_u W i (some (ci, X.2, O)) j = some (cj, b, P) → (j = i ∧ cj = ci ∧ b = X.2 ∧ P = O) ∨ (j ≠ i ∧ W j = some (cj, b, P)) := by
    intro j cj b P hj
    by_cases e : j = i
    · subst e
      rw [go_u_s] at hj
      cases hj
      exact Or.inl ⟨rfl, rfl, rfl, rfl⟩
    · rw [go_u_n e] at hj
      exact Or.inr ⟨e, hj⟩
  refine ⟨fun j cj b P hj => ?_, fun j1 j2 c1 b1 c2 b2 P1 P2 h1 h2 hne => ?_⟩
  · rcases key j cj b P hj with ⟨-, rfl, rfl, rfl⟩ | ⟨e, hj⟩
    · exact ⟨go_kk, Nat.le_refl _⟩
    · have l := (h.1 j cj b P hj).2
      refine ⟨?_, by show b + go_z cj ≤ X.2 + go_z ci; omega⟩
      rw [go_comm (Or.inl l)]
      congr 1
      have k := congrArg Prod.fst (h.k hj)
      refine Prod.ext ?_ rfl
      funext q
      show (if b ≤ q ∧ q < b + go_z cj then some (go_c cj b P q) else X.1 q) = X.1 q
      exact congrFun k q
  · rcases key j1 c1 b1 P1 h1 with ⟨e1, x1, y1, z1⟩ | ⟨e1, g1⟩ <;> rcases key j2 c2 b2 P2 h2 with ⟨e2, x2, y2, z2⟩ | ⟨e2, g2⟩
    · exact absurd (e1.trans e2.symm) hne
    · rw [x1, y1]
      exact Or.inr (h.1 j2 c2 b2 P2 g2).2
    · rw [x2, y2]
      exact Or.inl (h.1 j1 c1 b1 P1 g1).2
    · exact h.2 j1 j2 c1 b1 c2 b2 P1 P2 g1 g2 hne
section NW
variable {fu : Nat} {X : gx_H}
theorem n_5 : gx_nw X (.inr (5, [.null, .null, .null, .null, .null, .int 0])) = go_k 5 X.2 go_0 (X.1, X.2 + 1) := by
  rw [nw_o]
  exact blk_mk (n := 0) (es := []) (O := go_0) rfl rfl rfl
theorem n_4 : gm_X4_init fu X.2 (gx_nw X (.inr (4, [.null, .null, .int 0, .int 0]))) = some ((), go_k 4 X.2 (go_si go_0 2 1) (X.1, X.2 + 3), 2, 976) := by
  rw [nw_o]
  unfold gm_X4_init
  rw [pf_nw (Nat.lt_succ_self _) (Nat.le_of_ble_eq_true rfl), Option.bind_some, pf_nw (by show X.2 < X.2 + 1 + 1; omega) (Nat.le_of_ble_eq_true rfl), Option.bind_some, pf_o (Nat.le_of_ble_eq_true rfl), Option.bind_some]
  have := blk_mk (ci := 4) (n := 2) (O := go_si go_0 2 1) (X := X) (fs := [.ref (X.2 + 1), .ref (X.2 + 1 + 1), .int 1, .int 0]) (es := [.inl (2, 16, .inl fun _ => 0), .inl (1, 960, .inr (.inl fun _ => 0))]) rfl rfl rfl
  rw [show go_z 4 = 3 from rfl] at this
  rw [← this]
  rfl
theorem n_1 (a : Nat) : gm_X1_init fu X.2 a (gx_nw X (.inr (1, [.null, .null, .int 0, .int 0]))) = some ((), go_k 1 X.2 (go_sr go_0 0 (some a)) (X.1, X.2 + 2), 1, 1600) := by
  rw [nw_o]
  unfold gm_X1_init
  rw [pf_nw (Nat.lt_succ_self _) (Nat.le_of_ble_eq_true rfl), Option.bind_some, pf_o (Nat.le_of_ble_eq_true rfl), Option.bind_some]
  have := blk_mk (ci := 1) (n := 1) (O := go_sr go_0 0 (some a)) (X := X) (fs := [.ref a, .ref (X.2 + 1), .int 0, .int 0]) (es := [.inl (0, 1600, .inl fun _ => 0)]) rfl rfl rfl
  rw [show go_z 1 = 2 from rfl] at this
  rw [← this]
  rfl
theorem n_2 (a : Nat) : gm_X2_init fu X.2 a (gx_nw X (.inr (2, [.null, .null]))) = some ((), go_k 2 X.2 (go_sr go_0 0 (some a)) (X.1, X.2 + 2), 1, 201) := by
  rw [nw_o]
  unfold gm_X2_init
  rw [pf_nw (Nat.lt_succ_self _) (Nat.le_of_ble_eq_true rfl), Option.bind_some, pf_o (Nat.le_of_ble_eq_true rfl), Option.bind_some]
  have := blk_mk (ci := 2) (n := 1) (O := go_sr go_0 0 (some a)) (X := X) (fs := [.ref a, .ref (X.2 + 1)]) (es := [.inl (0, 201, .inl fun _ => 0)]) rfl rfl rfl
  rw [show go_z 2 = 2 from rfl] at this
  rw [← this]
  rfl
theorem n_3 : gm_X3_init fu X.2 (gx_nw X (.inr (3, [.null, .int 0, .int 0]))) = some ((), go_k 3 X.2 go_0 (X.1, X.2 + 2), 1, 8) := by
  rw [nw_o]
  unfold gm_X3_init
  rw [pf_nw (Nat.lt_succ_self _) (Nat.le_of_ble_eq_true rfl), Option.bind_some]
  have := blk_mk (ci := 3) (n := 1) (O := go_0) (X := X) (fs := [.ref (X.2 + 1), .int 0, .int 0]) (es := [.inl (3, 8, .inr (.inr (.inr (.inr fun _ => none))))]) rfl rfl rfl
  rw [show go_z 3 = 2 from rfl] at this
  rw [← this]
  rfl
theorem n_0 (x : Int32) : gm_X0_init fu X.2 x (gx_nw X (.inr (0, [.int 0, .null, .null, .null, .null, .null, .int 0, .int 0, .null, .null, .null, .long 0, .long 0, .long 0, .int 0]))) = some ((), go_k 0 X.2 (go_si go_0 0 x) (X.1, X.2 + 9), 8, 1018) := by
  rw [nw_o]
  unfold gm_X0_init
  rw [pf_nw (Nat.lt_succ_self _) (Nat.le_of_ble_eq_true rfl), Option.bind_some]
  iterate 7 rw [pf_nw (by dsimp only [gx_nw]; omega) (Nat.le_of_ble_eq_true rfl), Option.bind_some]
  rw [pf_o (Nat.le_of_ble_eq_true rfl), Option.bind_some]
  have := blk_mk (ci := 0) (n := 8) (O := go_si go_0 0 x) (X := X) (fs := [.int x, .ref (X.2 + 1), .ref (X.2 + 2), .ref (X.2 + 3), .ref (X.2 + 4), .ref (X.2 + 5), .int 0, .int 0, .ref (X.2 + 6), .ref (X.2 + 7), .ref (X.2 + 8), .long 0, .long 0, .long 0, .int 0]) (es := [.inl (0, 200, .inl fun _ => 0), .inl (0, 200, .inl fun _ => 0), .inl (0, 6, .inl fun _ => 0), .inl (0, 6, .inl fun _ => 0), .inl (0, 6, .inl fun _ => 0), .inl (1, 200, .inr (.inl fun _ => 0)), .inl (2, 200, .inl fun _ => 0), .inl (2, 200, .inl fun _ => 0)]) rfl rfl rfl
  rw [show go_z 0 = 9 from rfl] at this
  rw [← this]
  rfl
theorem n_6 : gm_X6_init fu X.2 (gx_nw X (.inr (6, [.int 0, .int 0, .null, .null, .null, .null, .null, .null, .null, .null, .null, .null, .int 0, .null, .null, .null, .null, .null, .int 0, .null]))) = some ((), go_k 6 X.2 (go_si go_0 1 1) (X.1, X.2 + 17), 16, 68749) := by
  rw [nw_o]
  unfold gm_X6_init
  rw [pf_o (Nat.le_of_ble_eq_true rfl), Option.bind_some, pf_nw (Nat.lt_succ_self _) (Nat.le_of_ble_eq_true rfl), Option.bind_some]
  iterate 15 rw [pf_nw (by dsimp only [gx_nw]; omega) (Nat.le_of_ble_eq_true rfl), Option.bind_some]
  have := blk_mk (ci := 6) (n := 16) (O := go_si go_0 1 1) (X := X) (fs := [.int 0, .int 1, .ref (X.2 + 1), .ref (X.2 + 2), .ref (X.2 + 3), .ref (X.2 + 4), .ref (X.2 + 5), .ref (X.2 + 6), .ref (X.2 + 7), .ref (X.2 + 8), .ref (X.2 + 9), .ref (X.2 + 10), .int 0, .ref (X.2 + 11), .ref (X.2 + 12), .ref (X.2 + 13), .ref (X.2 + 14), .ref (X.2 + 15), .int 0, .ref (X.2 + 16)]) (es := [.inl (2, 58560, .inl fun _ => 0), .inl (2, 16, .inl fun _ => 0), .inl (0, 2, .inl fun _ => 0), .inl (0, 16, .inl fun _ => 0), .inl (0, 16, .inl fun _ => 0), .inl (0, 3200, .inl fun _ => 0), .inl (0, 3200, .inl fun _ => 0), .inl (0, 96, .inl fun _ => 0), .inl (0, 96, .inl fun _ => 0), .inl (0, 96, .inl fun _ => 0), .inl (2, 2, .inl fun _ => 0), .inl (1, 3200, .inr (.inl fun _ => 0)), .inl (1, 16, .inr (.inl fun _ => 0)), .inl (1, 16, .inr (.inl fun _ => 0)), .inl (1, 16, .inr (.inl fun _ => 0)), .inl (0, 201, .inl fun _ => 0)]) rfl rfl rfl
  rw [show go_z 6 = 17 from rfl] at this
  rw [← this]
  simp only [gx_ad]
  refine congrArg some (Prod.ext rfl (Prod.ext ?_ (Prod.ext ?_ ?_)))
  · dsimp only
    rfl
  · dsimp only
  · dsimp only
end NW
