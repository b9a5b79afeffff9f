/-! methods: X4_canBe, X4_countAlways, X4_hasWay, X4_init, X4_renew, X5_noteChange, X5_always, X5_begin, X5_programOf, X5_firstUncertified, X5_certify, X5_code, X5_forge, X5_function, X5_goes -/
theorem dX4_canBe_0 : decode cX4_canBe 0 = .ok (.aload_n 0, 1) := by decide +kernel
theorem dX4_canBe_1 : decode cX4_canBe 1 = .ok (.iload_n 1, 1) := by decide +kernel
theorem dX4_canBe_2 : decode cX4_canBe 2 = .ok (.invokevirtual 26, 3) := by decide +kernel
theorem dX4_canBe_5 : decode cX4_canBe 5 = .ok (.ifCond .eq 28, 3) := by decide +kernel
theorem dX4_canBe_8 : decode cX4_canBe 8 = .ok (.aload_n 0, 1) := by decide +kernel
theorem dX4_canBe_9 : decode cX4_canBe 9 = .ok (.iload_n 2, 1) := by decide +kernel
theorem dX4_canBe_10 : decode cX4_canBe 10 = .ok (.invokevirtual 30, 3) := by decide +kernel
theorem dX4_canBe_13 : decode cX4_canBe 13 = .ok (.ifCond .eq 20, 3) := by decide +kernel
theorem dX4_canBe_16 : decode cX4_canBe 16 = .ok (.iload_n 3, 1) := by decide +kernel
theorem dX4_canBe_17 : decode cX4_canBe 17 = .ok (.iconst (-1), 1) := by decide +kernel
theorem dX4_canBe_18 : decode cX4_canBe 18 = .ok (.if_icmp .eq 11, 3) := by decide +kernel
theorem dX4_canBe_21 : decode cX4_canBe 21 = .ok (.aload_n 0, 1) := by decide +kernel
theorem dX4_canBe_22 : decode cX4_canBe 22 = .ok (.iload_n 3, 1) := by decide +kernel
theorem dX4_canBe_23 : decode cX4_canBe 23 = .ok (.invokevirtual 30, 3) := by decide +kernel
theorem dX4_canBe_26 : decode cX4_canBe 26 = .ok (.ifCond .eq 7, 3) := by decide +kernel
theorem dX4_canBe_29 : decode cX4_canBe 29 = .ok (.iconst 1, 1) := by decide +kernel
theorem dX4_canBe_30 : decode cX4_canBe 30 = .ok (.goto 4, 3) := by decide +kernel
theorem dX4_canBe_33 : decode cX4_canBe 33 = .ok (.iconst 0, 1) := by decide +kernel
theorem dX4_canBe_34 : decode cX4_canBe 34 = .ok (.ireturn, 1) := by decide +kernel
def gm_X4_canBe_29 (fu : Nat)  (X : gx_H) : Option (Int32 × gx_H) :=
  some ((1 : Int32), X)
set_option maxHeartbeats 1000000 in
set_option maxRecDepth 20000 in
theorem gt_X4_canBe_29 {p : Program} {l : Launch} {e : Env} {s : State} {m : MethodId} {args : Array Value} {below : List Frame} {meth : Method} {c : Code} {D : gx_D} {r : Int32} {X2 : gx_H}  (C : gx_C D gz_cl gz_at gz_tb gz_nb p s m meth c cX4_canBe 4 RX4 (some .boolean)) (fu : Nat)  (X : gx_H) (h : gm_X4_canBe_29 fu   X = some (r, X2)) : gx_W D gz_cl 4 p l e (gx_rm 1 21 0 0) s m args below meth c 0 0 (MQ below (gx_Q D gz_cl (some (gx_i r)) X2) args s 0 0 (gx_Z D)) X 29 [none, none, none, none] [] := by
  unfold gm_X4_canBe_29 at h
  refine gx_iconst (v := 1) C dX4_canBe_29 (by decide) ?_
  refine gx_goto (tgt := 34) C dX4_canBe_30 (by decide) ?_
  cases h
  exact gx_zret (Or.inr rfl) C dX4_canBe_34
def gm_X4_canBe_33 (fu : Nat)  (X : gx_H) : Option (Int32 × gx_H) :=
  some ((0 : Int32), X)
set_option maxHeartbeats 1000000 in
set_option maxRecDepth 20000 in
theorem gt_X4_canBe_33 {p : Program} {l : Launch} {e : Env} {s : State} {m : MethodId} {args : Array Value} {below : List Frame} {meth : Method} {c : Code} {D : gx_D} {r : Int32} {X2 : gx_H}  (C : gx_C D gz_cl gz_at gz_tb gz_nb p s m meth c cX4_canBe 4 RX4 (some .boolean)) (fu : Nat)  (X : gx_H) (h : gm_X4_canBe_33 fu   X = some (r, X2)) : gx_W D gz_cl 4 p l e (gx_rm 1 21 0 0) s m args below meth c 0 0 (MQ below (gx_Q D gz_cl (some (gx_i r)) X2) args s 0 0 (gx_Z D)) X 33 [none, none, none, none] [] := by
  unfold gm_X4_canBe_33 at h
  refine gx_iconst (v := 0) C dX4_canBe_33 (by decide) ?_
  cases h
  exact gx_zret (Or.inl rfl) C dX4_canBe_34
def gm_X4_canBe (fu : Nat) (this : Nat) (p_0 : Int32) (p_1 : Int32) (p_2 : Int32) (X : gx_H) : Option (Int32 × gx_H) :=
  gx_ob X this 4 <|
  gx_b2 (gm_X4_isCall fu this p_0 X) fun vz3 Xz2 =>
  if vz3 = 0 then (
  gm_X4_canBe_33 fu   Xz2) else (
  gx_ob Xz2 this 4 <|
  gx_b2 (gm_X4_isState fu this p_1 Xz2) fun vz7 Xz6 =>
  if vz7 = 0 then (
  gm_X4_canBe_33 fu   Xz6) else (
  if p_2 = (-1 : Int32) then (
  gm_X4_canBe_29 fu   Xz6) else (
  gx_ob Xz6 this 4 <|
  gx_b2 (gm_X4_isState fu this p_2 Xz6) fun vz12 Xz11 =>
  if vz12 = 0 then (
  gm_X4_canBe_33 fu   Xz11) else (
  gm_X4_canBe_29 fu   Xz11))))
set_option maxHeartbeats 1000000 in
set_option maxRecDepth 20000 in
theorem gc_X4_canBe {l : Launch} {D : gx_D} (fu : Nat) (this : Nat) (p_0 : Int32) (p_1 : Int32) (p_2 : Int32) (X : gx_H) (r : Int32) (X2 : gx_H) (h : gm_X4_canBe fu this p_0 p_1 p_2 X = some (r, X2)) : gx_M D gz_cl gz_at gz_tb gz_nb l yX4_canBe cX4_canBe 4 (some .boolean) 1 21 [gx_r (some this), gx_i p_0, gx_i p_1, gx_i p_2] X (some (gx_i r)) X2 0 0 := by
  unfold gm_X4_canBe at h
  refine gx_enter [some (gx_r (some this)), some (gx_i p_0), some (gx_i p_1), some (gx_i p_2)] rfl (by decide) (Nat.le_of_ble_eq_true rfl) ?_
  intro p e s m below meth c C _
  refine gx_aload_n C dX4_canBe_0 rfl rfl ?_
  refine gx_iload_n C dX4_canBe_1 rfl rfl ?_
  obtain ⟨hoz1, h⟩ := gx_obs h
  obtain ⟨vz3, Xz2, eXz2, h⟩ := gx_bd2 h
  refine gx_callV (As := [gx_i p_0]) (st := []) (stk2 := [gx_i vz3]) C cd_X4_isCall wl_135 ws_X4_isCall wl_134 rfl hoz1 (gc_X4_isCall fu this p_0 X vz3 Xz2 eXz2) rfl ⟨Nat.le_of_ble_eq_true rfl, Nat.le_of_ble_eq_true rfl⟩ ⟨Nat.le_of_ble_eq_true rfl, Nat.le_of_ble_eq_true rfl⟩ (Nat.le_of_ble_eq_true rfl) rfl rfl dX4_canBe_2 ?_
  refine gx_if_eq (tgt := 33) C dX4_canBe_5 (by decide) (fun qz4 => ?_) (fun qz4 => ?_)
  · rw [if_pos qz4] at h
    refine gx_sub (lv2 := [none, none, none, none]) [false, false, false, false] rfl ?_
    exact gt_X4_canBe_33 C fu   Xz2 h
  · rw [if_neg qz4] at h
    refine gx_aload_n C dX4_canBe_8 rfl rfl ?_
    refine gx_iload_n C dX4_canBe_9 rfl rfl ?_
    obtain ⟨hoz5, h⟩ := gx_obs h
    obtain ⟨vz7, Xz6, eXz6, h⟩ := gx_bd2 h
    refine gx_callV (As := [gx_i p_1]) (st := []) (stk2 := [gx_i vz7]) C cd_X4_isState wl_140 ws_X4_isState wl_138 rfl hoz5 (gc_X4_isState fu this p_1 Xz2 vz7 Xz6 eXz6) rfl ⟨Nat.le_of_ble_eq_true rfl, Nat.le_of_ble_eq_true rfl⟩ ⟨Nat.le_of_ble_eq_true rfl, Nat.le_of_ble_eq_true rfl⟩ (Nat.le_of_ble_eq_true rfl) rfl rfl dX4_canBe_10 ?_
    refine gx_if_eq (tgt := 33) C dX4_canBe_13 (by decide) (fun qz8 => ?_) (fun qz8 => ?_)
    · rw [if_pos qz8] at h
      refine gx_sub (lv2 := [none, none, none, none]) [false, false, false, false] rfl ?_
      exact gt_X4_canBe_33 C fu   Xz6 h
    · rw [if_neg qz8] at h
      refine gx_iload_n C dX4_canBe_16 rfl rfl ?_
      refine gx_iconst (v := -1) C dX4_canBe_17 (by decide) ?_
      refine gx_icmp_eq (tgt := 29) C dX4_canBe_18 (by decide) (fun qz9 => ?_) (fun qz9 => ?_)
      · rw [if_pos qz9] at h
        refine gx_sub (lv2 := [none, none, none, none]) [false, false, false, false] rfl ?_
        exact gt_X4_canBe_29 C fu   Xz6 h
      · rw [if_neg qz9] at h
        refine gx_aload_n C dX4_canBe_21 rfl rfl ?_
        refine gx_iload_n C dX4_canBe_22 rfl rfl ?_
        obtain ⟨hoz10, h⟩ := gx_obs h
        obtain ⟨vz12, Xz11, eXz11, h⟩ := gx_bd2 h
        refine gx_callV (As := [gx_i p_2]) (st := []) (stk2 := [gx_i vz12]) C cd_X4_isState wl_140 ws_X4_isState wl_138 rfl hoz10 (gc_X4_isState fu this p_2 Xz6 vz12 Xz11 eXz11) rfl ⟨Nat.le_of_ble_eq_true rfl, Nat.le_of_ble_eq_true rfl⟩ ⟨Nat.le_of_ble_eq_true rfl, Nat.le_of_ble_eq_true rfl⟩ (Nat.le_of_ble_eq_true rfl) rfl rfl dX4_canBe_23 ?_
        refine gx_if_eq (tgt := 33) C dX4_canBe_26 (by decide) (fun qz13 => ?_) (fun qz13 => ?_)
        · rw [if_pos qz13] at h
          refine gx_sub (lv2 := [none, none, none, none]) [false, false, false, false] rfl ?_
          exact gt_X4_canBe_33 C fu   Xz11 h
        · rw [if_neg qz13] at h
          refine gx_sub (lv2 := [none, none, none, none]) [false, false, false, false] rfl ?_
          exact gt_X4_canBe_29 C fu   Xz11 h
theorem dX4_countAlways_0 : decode cX4_countAlways 0 = .ok (.iconst 0, 1) := by decide +kernel
theorem dX4_countAlways_1 : decode cX4_countAlways 1 = .ok (.istore_n 1, 1) := by decide +kernel
theorem dX4_countAlways_2 : decode cX4_countAlways 2 = .ok (.iconst 0, 1) := by decide +kernel
theorem dX4_countAlways_3 : decode cX4_countAlways 3 = .ok (.istore_n 2, 1) := by decide +kernel
theorem dX4_countAlways_4 : decode cX4_countAlways 4 = .ok (.iload_n 2, 1) := by decide +kernel
theorem dX4_countAlways_5 : decode cX4_countAlways 5 = .ok (.bipush 16, 2) := by decide +kernel
theorem dX4_countAlways_7 : decode cX4_countAlways 7 = .ok (.if_icmp .ge 26, 3) := by decide +kernel
theorem dX4_countAlways_10 : decode cX4_countAlways 10 = .ok (.iload_n 1, 1) := by decide +kernel
theorem dX4_countAlways_11 : decode cX4_countAlways 11 = .ok (.aload_n 0, 1) := by decide +kernel
theorem dX4_countAlways_12 : decode cX4_countAlways 12 = .ok (.getfield 9, 3) := by decide +kernel
theorem dX4_countAlways_15 : decode cX4_countAlways 15 = .ok (.iload_n 2, 1) := by decide +kernel
theorem dX4_countAlways_16 : decode cX4_countAlways 16 = .ok (.baload, 1) := by decide +kernel
theorem dX4_countAlways_17 : decode cX4_countAlways 17 = .ok (.ifCond .eq 7, 3) := by decide +kernel
theorem dX4_countAlways_20 : decode cX4_countAlways 20 = .ok (.iconst 1, 1) := by decide +kernel
theorem dX4_countAlways_21 : decode cX4_countAlways 21 = .ok (.goto 4, 3) := by decide +kernel
theorem dX4_countAlways_24 : decode cX4_countAlways 24 = .ok (.iconst 0, 1) := by decide +kernel
theorem dX4_countAlways_25 : decode cX4_countAlways 25 = .ok (.iadd, 1) := by decide +kernel
theorem dX4_countAlways_26 : decode cX4_countAlways 26 = .ok (.istore_n 1, 1) := by decide +kernel
theorem dX4_countAlways_27 : decode cX4_countAlways 27 = .ok (.iinc 2 1, 3) := by decide +kernel
theorem dX4_countAlways_30 : decode cX4_countAlways 30 = .ok (.goto (-26), 3) := by decide +kernel
theorem dX4_countAlways_33 : decode cX4_countAlways 33 = .ok (.iload_n 1, 1) := by decide +kernel
theorem dX4_countAlways_34 : decode cX4_countAlways 34 = .ok (.ireturn, 1) := by decide +kernel
def gm_X4_countAlways_25 (fu : Nat) (K4 : Nat → Int32 → Int32 → gx_H → Option (Int32 × gx_H)) (a0 : Nat) (x2 : Int32) (sx0 : Int32) (sx1 : Int32) (X : gx_H) : Option (Int32 × gx_H) :=
  K4 a0 (sx0 + sx1) (x2 + 1) X
set_option maxHeartbeats 1000000 in
set_option maxRecDepth 20000 in
theorem gt_X4_countAlways_25 {p : Program} {l : Launch} {e : Env} {s : State} {m : MethodId} {args : Array Value} {below : List Frame} {meth : Method} {c : Code} {D : gx_D} {r : Int32} {X2 : gx_H}  (C : gx_C D gz_cl gz_at gz_tb gz_nb p s m meth c cX4_countAlways 3 RX4 (some .int)) (fu : Nat) (K4 : Nat → Int32 → Int32 → gx_H → Option (Int32 × gx_H)) (hK4 : ∀ (a0 : Nat) (x1 : Int32) (x2 : Int32) (X : gx_H), K4 a0 x1 x2 X = some (r, X2) → gx_W D gz_cl 3 p l e (gx_rm 0 0 0 0) s m args below meth c 0 0 (MQ below (gx_Q D gz_cl (some (gx_i r)) X2) args s 0 0 (gx_Z D)) X 4 [some (gx_r (some a0)), some (gx_i x1), some (gx_i x2)] []) (a0 : Nat) (x2 : Int32) (sx0 : Int32) (sx1 : Int32) (X : gx_H) (h : gm_X4_countAlways_25 fu K4 a0 x2 sx0 sx1 X = some (r, X2)) : gx_W D gz_cl 3 p l e (gx_rm 0 0 0 0) s m args below meth c 0 0 (MQ below (gx_Q D gz_cl (some (gx_i r)) X2) args s 0 0 (gx_Z D)) X 25 [some (gx_r (some a0)), none, some (gx_i x2)] [gx_i sx1, gx_i sx0] := by
  unfold gm_X4_countAlways_25 at h
  refine gx_iadd C dX4_countAlways_25 ?_
  refine gx_istore_n (lv2 := [some (gx_r (some a0)), some (gx_i (sx0 + sx1)), some (gx_i x2)]) C dX4_countAlways_26 rfl (by decide) rfl ?_
  refine gx_iinc (v := (x2 + 1)) (lv2 := [some (gx_r (some a0)), some (gx_i (sx0 + sx1)), some (gx_i (x2 + 1))]) C dX4_countAlways_27 rfl rfl (by decide) rfl ?_
  refine gx_goto (tgt := 4) C dX4_countAlways_30 (by decide) ?_
  exact hK4 a0 (sx0 + sx1) (x2 + 1) X h
def gm_X4_countAlways_4 (fu : Nat) : Nat → Nat → Int32 → Int32 → gx_H → Option (Int32 × gx_H)
  | 0, _, _, _, _ => none
  | n + 1, a0, x1, x2, X =>
    if (16 : Int32) ≤ x2 then (
    some (x1, X)) else (
    (gx_gd X a0 4 0).bind fun az2 =>
    (gx_gai X az2 2 x2).bind fun vz3 =>
    if vz3 = 0 then (
    gm_X4_countAlways_25 fu (gm_X4_countAlways_4 fu  n) a0 x2 x1 (0 : Int32) X) else (
    gm_X4_countAlways_25 fu (gm_X4_countAlways_4 fu  n) a0 x2 x1 (1 : Int32) X))
set_option maxHeartbeats 1000000 in
set_option maxRecDepth 20000 in
theorem gt_X4_countAlways_4 {p : Program} {l : Launch} {e : Env} {s : State} {m : MethodId} {args : Array Value} {below : List Frame} {meth : Method} {c : Code} {D : gx_D} {r : Int32} {X2 : gx_H}  (C : gx_C D gz_cl gz_at gz_tb gz_nb p s m meth c cX4_countAlways 3 RX4 (some .int)) (fu : Nat) : ∀ (n : Nat) (a0 : Nat) (x1 : Int32) (x2 : Int32) (X : gx_H) , gm_X4_countAlways_4 fu  n a0 x1 x2 X = some (r, X2) → gx_W D gz_cl 3 p l e (gx_rm 0 0 0 0) s m args below meth c 0 0 (MQ below (gx_Q D gz_cl (some (gx_i r)) X2) args s 0 0 (gx_Z D)) X 4 [some (gx_r (some a0)), some (gx_i x1), some (gx_i x2)] [] := by
  intro n
  induction n with
  | zero =>
    intro a0 x1 x2 X h
    have h : none = some _ := h
    cases h
  | succ n ih =>
    intro a0 x1 x2 X h
    rw [gm_X4_countAlways_4] at h
    refine gx_iload_n C dX4_countAlways_4 rfl rfl ?_
    refine gx_bipush (v := 16) C dX4_countAlways_5 (by decide) ?_
    refine gx_icmp_ge (tgt := 33) C dX4_countAlways_7 (by decide) (fun qz1 => ?_) (fun qz1 => ?_)
    · rw [if_pos qz1] at h
      refine gx_iload_n C dX4_countAlways_33 rfl rfl ?_
      cases h
      exact gx_iret C dX4_countAlways_34
    · rw [if_neg qz1] at h
      refine gx_iload_n C dX4_countAlways_10 rfl rfl ?_
      refine gx_aload_n C dX4_countAlways_11 rfl rfl ?_
      obtain ⟨az2, eaz2, h⟩ := gx_bd h
      refine gx_get C kcX4 0 (by decide) wl_23 (gx_gd_s eaz2) dX4_countAlways_12 ?_
      refine gx_iload_n C dX4_countAlways_15 rfl rfl ?_
      obtain ⟨vz3, evz3, h⟩ := gx_bd h
      refine gx_zald C (t := 2) rfl evz3 dX4_countAlways_16 ?_
      refine gx_if_eq (tgt := 24) C dX4_countAlways_17 (by decide) (fun qz4 => ?_) (fun qz4 => ?_)
      · rw [if_pos qz4] at h
        refine gx_iconst (v := 0) C dX4_countAlways_24 (by decide) ?_
        refine gx_sub (lv2 := [some (gx_r (some a0)), none, some (gx_i x2)]) [true, false, true] rfl ?_
        exact gt_X4_countAlways_25 C fu (gm_X4_countAlways_4 fu  n) ih a0 x2 x1 (0 : Int32) X h
      · rw [if_neg qz4] at h
        refine gx_iconst (v := 1) C dX4_countAlways_20 (by decide) ?_
        refine gx_goto (tgt := 25) C dX4_countAlways_21 (by decide) ?_
        refine gx_sub (lv2 := [some (gx_r (some a0)), none, some (gx_i x2)]) [true, false, true] rfl ?_
        exact gt_X4_countAlways_25 C fu (gm_X4_countAlways_4 fu  n) ih a0 x2 x1 (1 : Int32) X h
def gm_X4_countAlways (fu : Nat) (this : Nat) (X : gx_H) : Option (Int32 × gx_H) :=
  gm_X4_countAlways_4 fu  fu this (0 : Int32) (0 : Int32) X
set_option maxHeartbeats 1000000 in
set_option maxRecDepth 20000 in
theorem gc_X4_countAlways {l : Launch} {D : gx_D} (fu : Nat) (this : Nat) (X : gx_H) (r : Int32) (X2 : gx_H) (h : gm_X4_countAlways fu this X = some (r, X2)) : gx_M D gz_cl gz_at gz_tb gz_nb l yX4_countAlways cX4_countAlways 3 (some .int) 0 0 [gx_r (some this)] X (some (gx_i r)) X2 0 0 := by
  unfold gm_X4_countAlways at h
  refine gx_enter [some (gx_r (some this)), none, none] rfl (by decide) (Nat.le_of_ble_eq_true rfl) ?_
  intro p e s m below meth c C _
  refine gx_iconst (v := 0) C dX4_countAlways_0 (by decide) ?_
  refine gx_istore_n (lv2 := [some (gx_r (some this)), some (gx_i (0 : Int32)), none]) C dX4_countAlways_1 rfl (by decide) rfl ?_
  refine gx_iconst (v := 0) C dX4_countAlways_2 (by decide) ?_
  refine gx_istore_n (lv2 := [some (gx_r (some this)), some (gx_i (0 : Int32)), some (gx_i (0 : Int32))]) C dX4_countAlways_3 rfl (by decide) rfl ?_
  exact gt_X4_countAlways_4 C fu  fu this (0 : Int32) (0 : Int32) X h
theorem dX4_hasWay_0 : decode cX4_hasWay 0 = .ok (.aload_n 0, 1) := by decide +kernel
theorem dX4_hasWay_1 : decode cX4_hasWay 1 = .ok (.iload_n 1, 1) := by decide +kernel
theorem dX4_hasWay_2 : decode cX4_hasWay 2 = .ok (.iload_n 2, 1) := by decide +kernel
theorem dX4_hasWay_3 : decode cX4_hasWay 3 = .ok (.invokevirtual 33, 3) := by decide +kernel
theorem dX4_hasWay_6 : decode cX4_hasWay 6 = .ok (.iload_n 3, 1) := by decide +kernel
theorem dX4_hasWay_7 : decode cX4_hasWay 7 = .ok (.invokestatic 37, 3) := by decide +kernel
theorem dX4_hasWay_10 : decode cX4_hasWay 10 = .ok (.land, 1) := by decide +kernel
theorem dX4_hasWay_11 : decode cX4_hasWay 11 = .ok (.lconst 0, 1) := by decide +kernel
theorem dX4_hasWay_12 : decode cX4_hasWay 12 = .ok (.lcmp, 1) := by decide +kernel
theorem dX4_hasWay_13 : decode cX4_hasWay 13 = .ok (.ifCond .eq 7, 3) := by decide +kernel
theorem dX4_hasWay_16 : decode cX4_hasWay 16 = .ok (.iconst 1, 1) := by decide +kernel
theorem dX4_hasWay_17 : decode cX4_hasWay 17 = .ok (.goto 4, 3) := by decide +kernel
theorem dX4_hasWay_20 : decode cX4_hasWay 20 = .ok (.iconst 0, 1) := by decide +kernel
theorem dX4_hasWay_21 : decode cX4_hasWay 21 = .ok (.ireturn, 1) := by decide +kernel
def gm_X4_hasWay (fu : Nat) (this : Nat) (p_0 : Int32) (p_1 : Int32) (p_2 : Int32) (X : gx_H) : Option (Int32 × gx_H) :=
  gx_ob X this 4 <|
  gx_b2 (gm_X4_waysFrom fu this p_0 p_1 X) fun vz3 Xz2 =>
  gx_b2 (gm_X4_bitOf fu p_2 Xz2) fun vz5 Xz4 =>
  if (lg_cmp (vz3 &&& vz5) (0 : Int64)) = 0 then (
  some ((0 : Int32), Xz4)) else (
  some ((1 : Int32), Xz4))
set_option maxHeartbeats 1000000 in
set_option maxRecDepth 20000 in
theorem gc_X4_hasWay {l : Launch} {D : gx_D} (fu : Nat) (this : Nat) (p_0 : Int32) (p_1 : Int32) (p_2 : Int32) (X : gx_H) (r : Int32) (X2 : gx_H) (h : gm_X4_hasWay fu this p_0 p_1 p_2 X = some (r, X2)) : gx_M D gz_cl gz_at gz_tb gz_nb l yX4_hasWay cX4_hasWay 4 (some .boolean) 1 22 [gx_r (some this), gx_i p_0, gx_i p_1, gx_i p_2] X (some (gx_i r)) X2 0 0 := by
  unfold gm_X4_hasWay at h
  refine gx_enter [some (gx_r (some this)), some (gx_i p_0), some (gx_i p_1), some (gx_i p_2)] rfl (by decide) (Nat.le_of_ble_eq_true rfl) ?_
  intro p e s m below meth c C _
  refine gx_aload_n C dX4_hasWay_0 rfl rfl ?_
  refine gx_iload_n C dX4_hasWay_1 rfl rfl ?_
  refine gx_iload_n C dX4_hasWay_2 rfl rfl ?_
  obtain ⟨hoz1, h⟩ := gx_obs h
  obtain ⟨vz3, Xz2, eXz2, h⟩ := gx_bd2 h
  refine gx_callV (As := [gx_i p_0, gx_i p_1]) (st := []) (stk2 := [gx_l vz3]) C cd_X4_waysFrom wl_148 ws_X4_waysFrom wl_146 rfl hoz1 (gc_X4_waysFrom fu this p_0 p_1 X vz3 Xz2 eXz2) rfl ⟨Nat.le_of_ble_eq_true rfl, Nat.le_of_ble_eq_true rfl⟩ ⟨Nat.le_of_ble_eq_true rfl, Nat.le_of_ble_eq_true rfl⟩ (Nat.le_of_ble_eq_true rfl) rfl rfl dX4_hasWay_3 ?_
  refine gx_iload_n C dX4_hasWay_6 rfl rfl ?_
  obtain ⟨vz5, Xz4, eXz4, h⟩ := gx_bd2 h
  refine gx_callS (As := [gx_i p_2]) (st := [gx_l vz3]) (stk2 := [gx_l vz5, gx_l vz3]) C cd_X4_bitOf wl_151 wl_150 (gc_X4_bitOf fu p_2 Xz2 vz5 Xz4 eXz4) rfl ⟨Nat.le_of_ble_eq_true rfl, Nat.le_of_ble_eq_true rfl⟩ ⟨Nat.le_of_ble_eq_true rfl, Nat.le_of_ble_eq_true rfl⟩ (Nat.le_of_ble_eq_true rfl) rfl rfl dX4_hasWay_7 ?_
  refine gx_land C dX4_hasWay_10 ?_
  refine gx_lconst (v := 0) C dX4_hasWay_11 (by decide) ?_
  refine gx_lcmp C dX4_hasWay_12 ?_
  refine gx_if_eq (tgt := 20) C dX4_hasWay_13 (by decide) (fun qz6 => ?_) (fun qz6 => ?_)
  · rw [if_pos qz6] at h
    refine gx_iconst (v := 0) C dX4_hasWay_20 (by decide) ?_
    cases h
    exact gx_zret (Or.inl rfl) C dX4_hasWay_21
  · rw [if_neg qz6] at h
    refine gx_iconst (v := 1) C dX4_hasWay_16 (by decide) ?_
    refine gx_goto (tgt := 21) C dX4_hasWay_17 (by decide) ?_
    cases h
    exact gx_zret (Or.inr rfl) C dX4_hasWay_21
theorem dX4_init_0 : decode cX4_init 0 = .ok (.aload_n 0, 1) := by decide +kernel
theorem dX4_init_1 : decode cX4_init 1 = .ok (.invokespecial 3, 3) := by decide +kernel
theorem dX4_init_4 : decode cX4_init 4 = .ok (.aload_n 0, 1) := by decide +kernel
theorem dX4_init_5 : decode cX4_init 5 = .ok (.bipush 16, 2) := by decide +kernel
theorem dX4_init_7 : decode cX4_init 7 = .ok (.newarray .boolean, 2) := by decide +kernel
theorem dX4_init_9 : decode cX4_init 9 = .ok (.putfield 9, 3) := by decide +kernel
theorem dX4_init_12 : decode cX4_init 12 = .ok (.aload_n 0, 1) := by decide +kernel
theorem dX4_init_13 : decode cX4_init 13 = .ok (.sipush 960, 3) := by decide +kernel
theorem dX4_init_16 : decode cX4_init 16 = .ok (.newarray .long, 2) := by decide +kernel
theorem dX4_init_18 : decode cX4_init 18 = .ok (.putfield 15, 3) := by decide +kernel
theorem dX4_init_21 : decode cX4_init 21 = .ok (.aload_n 0, 1) := by decide +kernel
theorem dX4_init_22 : decode cX4_init 22 = .ok (.iconst 1, 1) := by decide +kernel
theorem dX4_init_23 : decode cX4_init 23 = .ok (.putfield 19, 3) := by decide +kernel
theorem dX4_init_26 : decode cX4_init 26 = .ok (.return_, 1) := by decide +kernel
def gm_X4_init (fu : Nat) (this : Nat) (X : gx_H) : Option (Unit × gx_H × Nat × Nat) :=
  gx_ad 1 16 <|
  (gx_pf (gx_nw X (.inl (2, 16, .inl fun _ => 0))) this 4 0 (.ref X.2)).bind fun Xz2 =>
  gx_ad 1 960 <|
  (gx_pf (gx_nw Xz2 (.inl (1, 960, .inr (.inl fun _ => 0)))) this 4 1 (.ref Xz2.2)).bind fun Xz4 =>
  (gx_pf Xz4 this 4 2 (.int (1 : Int32))).bind fun Xz5 =>
  some ((), Xz5, 0, 0)
set_option maxHeartbeats 1000000 in
set_option maxRecDepth 20000 in
theorem gc_X4_init {l : Launch} {D : gx_D} (fu : Nat) (this : Nat) (X : gx_H) (X2 : gx_H) (tc ts : Nat) (h : gm_X4_init fu this X = some ((), X2, tc, ts)) : gx_M D gz_cl gz_at gz_tb gz_nb l yX4_init cX4_init 1 none 1 20 [gx_r (some this)] X none X2 tc ts := by
  unfold gm_X4_init at h
  refine gx_enter [some (gx_r (some this))] rfl (by decide) (Nat.le_of_ble_eq_true rfl) ?_
  intro p e s m below meth c C hin
  have h1 : 0 + tc = tc := Nat.zero_add tc
  have h2 : 0 + ts = ts := Nat.zero_add ts
  refine gx_aload_n C dX4_init_0 rfl rfl ?_
  refine gx_objInit C wl_22 wl_15 wl_16 dX4_init_1 (Nat.le_of_ble_eq_true rfl) (Nat.le_of_ble_eq_true rfl) ?_
  refine gx_aload_n C dX4_init_4 rfl rfl ?_
  refine gx_bipush (v := 16) C dX4_init_5 (by decide) ?_
  obtain ⟨cz1, sz1, h, ecz1, esz1⟩ := gx_add h
  refine gx_newa (t := 2) (N' := 16) (a0 := (16, .inl fun _ => 0)) C rfl rfl (fun _ _ q => q) wl_39 (fun _ => rfl) (by decide) (by decide) (by decide) (show 0 + 1 ≤ tc by omega) (show 0 + 16 ≤ ts by omega) dX4_init_7 ?_
  obtain ⟨Xz2, eXz2, h⟩ := gx_bd h
  refine gx_putF C kcX4 0 (by decide) rfl hin rfl wl_23 ⟨rfl, rfl⟩ eXz2 dX4_init_9 ?_
  refine gx_aload_n C dX4_init_12 rfl rfl ?_
  refine gx_sipush (v := 960) C dX4_init_13 (by decide) ?_
  obtain ⟨cz3, sz3, h, ecz3, esz3⟩ := gx_add h
  refine gx_newa (t := 1) (N' := 960) (a0 := (960, .inr (.inl fun _ => 0))) C rfl rfl (fun _ _ q => q) wl_40 (fun _ => rfl) (by decide) (by decide) (by decide) (show 0 + 1 + 1 ≤ tc by omega) (show 0 + 16 + 960 ≤ ts by omega) dX4_init_16 ?_
  obtain ⟨Xz4, eXz4, h⟩ := gx_bd h
  refine gx_putF C kcX4 1 (by decide) rfl hin rfl wl_25 ⟨rfl, rfl⟩ eXz4 dX4_init_18 ?_
  refine gx_aload_n C dX4_init_21 rfl rfl ?_
  refine gx_iconst (v := 1) C dX4_init_22 (by decide) ?_
  obtain ⟨Xz5, eXz5, h⟩ := gx_bd h
  refine gx_put C kcX4 2 (by decide) rfl wl_26 ⟨rfl, rfl⟩ eXz5 dX4_init_23 ?_
  cases h
  exact gx_widen (by omega) (by omega) (gx_vret C dX4_init_26)
theorem dX4_renew_0 : decode cX4_renew 0 = .ok (.aload_n 0, 1) := by decide +kernel
theorem dX4_renew_1 : decode cX4_renew 1 = .ok (.iload_n 1, 1) := by decide +kernel
theorem dX4_renew_2 : decode cX4_renew 2 = .ok (.putfield 19, 3) := by decide +kernel
theorem dX4_renew_5 : decode cX4_renew 5 = .ok (.aload_n 0, 1) := by decide +kernel
theorem dX4_renew_6 : decode cX4_renew 6 = .ok (.iconst 0, 1) := by decide +kernel
theorem dX4_renew_7 : decode cX4_renew 7 = .ok (.putfield 23, 3) := by decide +kernel
theorem dX4_renew_10 : decode cX4_renew 10 = .ok (.iconst 0, 1) := by decide +kernel
theorem dX4_renew_11 : decode cX4_renew 11 = .ok (.istore_n 2, 1) := by decide +kernel
theorem dX4_renew_12 : decode cX4_renew 12 = .ok (.iload_n 2, 1) := by decide +kernel
theorem dX4_renew_13 : decode cX4_renew 13 = .ok (.aload_n 0, 1) := by decide +kernel
theorem dX4_renew_14 : decode cX4_renew 14 = .ok (.getfield 15, 3) := by decide +kernel
theorem dX4_renew_17 : decode cX4_renew 17 = .ok (.arraylength, 1) := by decide +kernel
theorem dX4_renew_18 : decode cX4_renew 18 = .ok (.if_icmp .ge 16, 3) := by decide +kernel
theorem dX4_renew_21 : decode cX4_renew 21 = .ok (.aload_n 0, 1) := by decide +kernel
theorem dX4_renew_22 : decode cX4_renew 22 = .ok (.getfield 15, 3) := by decide +kernel
theorem dX4_renew_25 : decode cX4_renew 25 = .ok (.iload_n 2, 1) := by decide +kernel
theorem dX4_renew_26 : decode cX4_renew 26 = .ok (.lconst 0, 1) := by decide +kernel
theorem dX4_renew_27 : decode cX4_renew 27 = .ok (.lastore, 1) := by decide +kernel
theorem dX4_renew_28 : decode cX4_renew 28 = .ok (.iinc 2 1, 3) := by decide +kernel
theorem dX4_renew_31 : decode cX4_renew 31 = .ok (.goto (-19), 3) := by decide +kernel
theorem dX4_renew_34 : decode cX4_renew 34 = .ok (.iconst 0, 1) := by decide +kernel
theorem dX4_renew_35 : decode cX4_renew 35 = .ok (.istore_n 2, 1) := by decide +kernel
theorem dX4_renew_36 : decode cX4_renew 36 = .ok (.iload_n 2, 1) := by decide +kernel
theorem dX4_renew_37 : decode cX4_renew 37 = .ok (.bipush 16, 2) := by decide +kernel
theorem dX4_renew_39 : decode cX4_renew 39 = .ok (.if_icmp .ge 16, 3) := by decide +kernel
theorem dX4_renew_42 : decode cX4_renew 42 = .ok (.aload_n 0, 1) := by decide +kernel
theorem dX4_renew_43 : decode cX4_renew 43 = .ok (.getfield 9, 3) := by decide +kernel
theorem dX4_renew_46 : decode cX4_renew 46 = .ok (.iload_n 2, 1) := by decide +kernel
theorem dX4_renew_47 : decode cX4_renew 47 = .ok (.iconst 0, 1) := by decide +kernel
theorem dX4_renew_48 : decode cX4_renew 48 = .ok (.bastore, 1) := by decide +kernel
theorem dX4_renew_49 : decode cX4_renew 49 = .ok (.iinc 2 1, 3) := by decide +kernel
theorem dX4_renew_52 : decode cX4_renew 52 = .ok (.goto (-16), 3) := by decide +kernel
theorem dX4_renew_55 : decode cX4_renew 55 = .ok (.return_, 1) := by decide +kernel
def gm_X4_renew_36 (fu : Nat) : Nat → Nat → Int32 → gx_H → Option gx_H
  | 0, _, _, _ => none
  | n + 1, a0, x2, X =>
    if (16 : Int32) ≤ x2 then (
    some X) else (
    (gx_gd X a0 4 0).bind fun az2 =>
    (gx_pai X az2 2 x2 (vp_nar .boolean (0 : Int32))).bind fun Xz3 =>
    (gm_X4_renew_36 fu  n) a0 (x2 + 1) Xz3)
set_option maxHeartbeats 1000000 in
set_option maxRecDepth 20000 in
theorem gt_X4_renew_36 {p : Program} {l : Launch} {e : Env} {s : State} {m : MethodId} {args : Array Value} {below : List Frame} {meth : Method} {c : Code} {D : gx_D} {X2 : gx_H}  (C : gx_C D gz_cl gz_at gz_tb gz_nb p s m meth c cX4_renew 3 RX4 none) (fu : Nat) : ∀ (n : Nat) (a0 : Nat) (x2 : Int32) (X : gx_H) , gm_X4_renew_36 fu  n a0 x2 X = some X2 → gx_W D gz_cl 3 p l e (gx_rm 0 0 0 0) s m args below meth c 0 0 (MQ below (gx_Q D gz_cl none X2) args s 0 0 (gx_Z D)) X 36 [some (gx_r (some a0)), none, some (gx_i x2)] [] := by
  intro n
  induction n with
  | zero =>
    intro a0 x2 X h
    have h : none = some _ := h
    cases h
  | succ n ih =>
    intro a0 x2 X h
    rw [gm_X4_renew_36] at h
    refine gx_iload_n C dX4_renew_36 rfl rfl ?_
    refine gx_bipush (v := 16) C dX4_renew_37 (by decide) ?_
    refine gx_icmp_ge (tgt := 55) C dX4_renew_39 (by decide) (fun qz1 => ?_) (fun qz1 => ?_)
    · rw [if_pos qz1] at h
      cases h
      exact gx_vret C dX4_renew_55
    · rw [if_neg qz1] at h
      refine gx_aload_n C dX4_renew_42 rfl rfl ?_
      obtain ⟨az2, eaz2, h⟩ := gx_bd h
      refine gx_get C kcX4 0 (by decide) wl_23 (gx_gd_s eaz2) dX4_renew_43 ?_
      refine gx_iload_n C dX4_renew_46 rfl rfl ?_
      refine gx_iconst (v := 0) C dX4_renew_47 (by decide) ?_
      obtain ⟨Xz3, eXz3, h⟩ := gx_bd h
      refine gx_zast C (t := 2) rfl eXz3 dX4_renew_48 ?_
      refine gx_iinc (v := (x2 + 1)) (lv2 := [some (gx_r (some a0)), none, some (gx_i (x2 + 1))]) C dX4_renew_49 rfl rfl (by decide) rfl ?_
      refine gx_goto (tgt := 36) C dX4_renew_52 (by decide) ?_
      exact ih a0 (x2 + 1) Xz3 h
def gm_X4_renew_12 (fu : Nat) : Nat → Nat → Int32 → gx_H → Option gx_H
  | 0, _, _, _ => none
  | n + 1, a0, x2, X =>
    (gx_gd X a0 4 1).bind fun az4 =>
    (gx_len X az4 1).bind fun vz5 =>
    if vz5 ≤ x2 then (
    gm_X4_renew_36 fu  fu a0 (0 : Int32) X) else (
    (gx_gd X a0 4 1).bind fun az7 =>
    (gx_pal X az7 1 x2 (0 : Int64)).bind fun Xz8 =>
    (gm_X4_renew_12 fu  n) a0 (x2 + 1) Xz8)
set_option maxHeartbeats 1000000 in
set_option maxRecDepth 20000 in
theorem gt_X4_renew_12 {p : Program} {l : Launch} {e : Env} {s : State} {m : MethodId} {args : Array Value} {below : List Frame} {meth : Method} {c : Code} {D : gx_D} {X2 : gx_H}  (C : gx_C D gz_cl gz_at gz_tb gz_nb p s m meth c cX4_renew 3 RX4 none) (fu : Nat) : ∀ (n : Nat) (a0 : Nat) (x2 : Int32) (X : gx_H) , gm_X4_renew_12 fu  n a0 x2 X = some X2 → gx_W D gz_cl 3 p l e (gx_rm 0 0 0 0) s m args below meth c 0 0 (MQ below (gx_Q D gz_cl none X2) args s 0 0 (gx_Z D)) X 12 [some (gx_r (some a0)), none, some (gx_i x2)] [] := by
  intro n
  induction n with
  | zero =>
    intro a0 x2 X h
    have h : none = some _ := h
    cases h
  | succ n ih =>
    intro a0 x2 X h
    rw [gm_X4_renew_12] at h
    refine gx_iload_n C dX4_renew_12 rfl rfl ?_
    refine gx_aload_n C dX4_renew_13 rfl rfl ?_
    obtain ⟨az4, eaz4, h⟩ := gx_bd h
    refine gx_get C kcX4 1 (by decide) wl_25 (gx_gd_s eaz4) dX4_renew_14 ?_
    obtain ⟨vz5, evz5, h⟩ := gx_bd h
    refine gx_alen C (t := 1) rfl evz5 dX4_renew_17 ?_
    refine gx_icmp_ge (tgt := 34) C dX4_renew_18 (by decide) (fun qz6 => ?_) (fun qz6 => ?_)
    · rw [if_pos qz6] at h
      refine gx_iconst (v := 0) C dX4_renew_34 (by decide) ?_
      refine gx_istore_n (lv2 := [some (gx_r (some a0)), none, some (gx_i (0 : Int32))]) C dX4_renew_35 rfl (by decide) rfl ?_
      exact gt_X4_renew_36 C fu  fu a0 (0 : Int32) X h
    · rw [if_neg qz6] at h
      refine gx_aload_n C dX4_renew_21 rfl rfl ?_
      obtain ⟨az7, eaz7, h⟩ := gx_bd h
      refine gx_get C kcX4 1 (by decide) wl_25 (gx_gd_s eaz7) dX4_renew_22 ?_
      refine gx_iload_n C dX4_renew_25 rfl rfl ?_
      refine gx_lconst (v := 0) C dX4_renew_26 (by decide) ?_
      obtain ⟨Xz8, eXz8, h⟩ := gx_bd h
      refine gx_last C (t := 1) rfl eXz8 dX4_renew_27 ?_
      refine gx_iinc (v := (x2 + 1)) (lv2 := [some (gx_r (some a0)), none, some (gx_i (x2 + 1))]) C dX4_renew_28 rfl rfl (by decide) rfl ?_
      refine gx_goto (tgt := 12) C dX4_renew_31 (by decide) ?_
      exact ih a0 (x2 + 1) Xz8 h
def gm_X4_renew (fu : Nat) (this : Nat) (p_0 : Int32) (X : gx_H) : Option gx_H :=
  (gx_pf X this 4 2 (.int p_0)).bind fun Xz9 =>
  (gx_pf Xz9 this 4 3 (.int (0 : Int32))).bind fun Xz10 =>
  gm_X4_renew_12 fu  fu this (0 : Int32) Xz10
set_option maxHeartbeats 1000000 in
set_option maxRecDepth 20000 in
theorem gc_X4_renew {l : Launch} {D : gx_D} (fu : Nat) (this : Nat) (p_0 : Int32) (X : gx_H) (X2 : gx_H) (h : gm_X4_renew fu this p_0 X = some X2) : gx_M D gz_cl gz_at gz_tb gz_nb l yX4_renew cX4_renew 3 none 0 0 [gx_r (some this), gx_i p_0] X none X2 0 0 := by
  unfold gm_X4_renew at h
  refine gx_enter [some (gx_r (some this)), some (gx_i p_0), none] rfl (by decide) (Nat.le_of_ble_eq_true rfl) ?_
  intro p e s m below meth c C _
  refine gx_aload_n C dX4_renew_0 rfl rfl ?_
  refine gx_iload_n C dX4_renew_1 rfl rfl ?_
  obtain ⟨Xz9, eXz9, h⟩ := gx_bd h
  refine gx_put C kcX4 2 (by decide) rfl wl_26 ⟨rfl, rfl⟩ eXz9 dX4_renew_2 ?_
  refine gx_aload_n C dX4_renew_5 rfl rfl ?_
  refine gx_iconst (v := 0) C dX4_renew_6 (by decide) ?_
  obtain ⟨Xz10, eXz10, h⟩ := gx_bd h
  refine gx_put C kcX4 3 (by decide) rfl wl_28 ⟨rfl, rfl⟩ eXz10 dX4_renew_7 ?_
  refine gx_iconst (v := 0) C dX4_renew_10 (by decide) ?_
  refine gx_istore_n (lv2 := [some (gx_r (some this)), some (gx_i p_0), some (gx_i (0 : Int32))]) C dX4_renew_11 rfl (by decide) rfl ?_
  refine gx_sub (lv2 := [some (gx_r (some this)), none, some (gx_i (0 : Int32))]) [true, false, true] rfl ?_
  exact gt_X4_renew_12 C fu  fu this (0 : Int32) Xz10 h
theorem dX5_noteChange_0 : decode cX5_noteChange 0 = .ok (.aload_n 0, 1) := by decide +kernel
theorem dX5_noteChange_1 : decode cX5_noteChange 1 = .ok (.getfield 35, 3) := by decide +kernel
theorem dX5_noteChange_4 : decode cX5_noteChange 4 = .ok (.iconst 0, 1) := by decide +kernel
theorem dX5_noteChange_5 : decode cX5_noteChange 5 = .ok (.putfield 200, 3) := by decide +kernel
theorem dX5_noteChange_8 : decode cX5_noteChange 8 = .ok (.aload_n 0, 1) := by decide +kernel
theorem dX5_noteChange_9 : decode cX5_noteChange 9 = .ok (.iconst 0, 1) := by decide +kernel
theorem dX5_noteChange_10 : decode cX5_noteChange 10 = .ok (.putfield 49, 3) := by decide +kernel
theorem dX5_noteChange_13 : decode cX5_noteChange 13 = .ok (.return_, 1) := by decide +kernel
def gm_X5_noteChange (fu : Nat) (this : Nat) (X : gx_H) : Option gx_H :=
  (gx_gd X this 5 3).bind fun az1 =>
  (gx_pf X az1 3 2 (.int (0 : Int32))).bind fun Xz2 =>
  (gx_pf Xz2 this 5 5 (.int (0 : Int32))).bind fun Xz3 =>
  some Xz3
set_option maxHeartbeats 1000000 in
set_option maxRecDepth 20000 in
theorem gc_X5_noteChange {l : Launch} {D : gx_D} (fu : Nat) (this : Nat) (X : gx_H) (X2 : gx_H) (h : gm_X5_noteChange fu this X = some X2) : gx_M D gz_cl gz_at gz_tb gz_nb l yX5_noteChange cX5_noteChange 1 none 0 0 [gx_r (some this)] X none X2 0 0 := by
  unfold gm_X5_noteChange at h
  refine gx_enter [some (gx_r (some this))] rfl (by decide) (Nat.le_of_ble_eq_true rfl) ?_
  intro p e s m below meth c C _
  refine gx_aload_n C dX5_noteChange_0 rfl rfl ?_
  obtain ⟨az1, eaz1, h⟩ := gx_bd h
  refine gx_get C kcX5 3 (by decide) wl_98 (gx_gd_s eaz1) dX5_noteChange_1 ?_
  refine gx_iconst (v := 0) C dX5_noteChange_4 (by decide) ?_
  obtain ⟨Xz2, eXz2, h⟩ := gx_bd h
  refine gx_put C kcX3 2 (by decide) rfl wl_87 (gx_nz (Or.inl rfl)) eXz2 dX5_noteChange_5 ?_
  refine gx_aload_n C dX5_noteChange_8 rfl rfl ?_
  refine gx_iconst (v := 0) C dX5_noteChange_9 (by decide) ?_
  obtain ⟨Xz3, eXz3, h⟩ := gx_bd h
  refine gx_put C kcX5 5 (by decide) rfl wl_100 (gx_nz (Or.inl rfl)) eXz3 dX5_noteChange_10 ?_
  cases h
  exact gx_vret C dX5_noteChange_13
theorem dX5_always_0 : decode cX5_always 0 = .ok (.aload_n 0, 1) := by decide +kernel
theorem dX5_always_1 : decode cX5_always 1 = .ok (.getfield 10, 3) := by decide +kernel
theorem dX5_always_4 : decode cX5_always 4 = .ok (.iload_n 1, 1) := by decide +kernel
theorem dX5_always_5 : decode cX5_always 5 = .ok (.invokevirtual 67, 3) := by decide +kernel
theorem dX5_always_8 : decode cX5_always 8 = .ok (.ifCond .eq 16, 3) := by decide +kernel
theorem dX5_always_11 : decode cX5_always 11 = .ok (.aload_n 0, 1) := by decide +kernel
theorem dX5_always_12 : decode cX5_always 12 = .ok (.getfield 10, 3) := by decide +kernel
theorem dX5_always_15 : decode cX5_always 15 = .ok (.getfield 71, 3) := by decide +kernel
theorem dX5_always_18 : decode cX5_always 18 = .ok (.iload_n 1, 1) := by decide +kernel
theorem dX5_always_19 : decode cX5_always 19 = .ok (.baload, 1) := by decide +kernel
theorem dX5_always_20 : decode cX5_always 20 = .ok (.iload_n 2, 1) := by decide +kernel
theorem dX5_always_21 : decode cX5_always 21 = .ok (.if_icmp .ne 5, 3) := by decide +kernel
theorem dX5_always_24 : decode cX5_always 24 = .ok (.iconst 0, 1) := by decide +kernel
theorem dX5_always_25 : decode cX5_always 25 = .ok (.ireturn, 1) := by decide +kernel
theorem dX5_always_26 : decode cX5_always 26 = .ok (.aload_n 0, 1) := by decide +kernel
theorem dX5_always_27 : decode cX5_always 27 = .ok (.getfield 10, 3) := by decide +kernel
theorem dX5_always_30 : decode cX5_always 30 = .ok (.getfield 71, 3) := by decide +kernel
theorem dX5_always_33 : decode cX5_always 33 = .ok (.iload_n 1, 1) := by decide +kernel
theorem dX5_always_34 : decode cX5_always 34 = .ok (.iload_n 2, 1) := by decide +kernel
theorem dX5_always_35 : decode cX5_always 35 = .ok (.bastore, 1) := by decide +kernel
theorem dX5_always_36 : decode cX5_always 36 = .ok (.aload_n 0, 1) := by decide +kernel
theorem dX5_always_37 : decode cX5_always 37 = .ok (.invokevirtual 64, 3) := by decide +kernel
theorem dX5_always_40 : decode cX5_always 40 = .ok (.iconst 1, 1) := by decide +kernel
theorem dX5_always_41 : decode cX5_always 41 = .ok (.ireturn, 1) := by decide +kernel
def gm_X5_always (fu : Nat) (this : Nat) (p_0 : Int32) (p_1 : Int32) (X : gx_H) : Option (Int32 × gx_H) :=
  (gx_gd X this 5 0).bind fun az1 =>
  gx_ob X az1 4 <|
  gx_b2 (gm_X4_isCall fu az1 p_0 X) fun vz4 Xz3 =>
  if vz4 = 0 then (
  some ((0 : Int32), Xz3)) else (
  (gx_gd Xz3 this 5 0).bind fun az6 =>
  (gx_gd Xz3 az6 4 0).bind fun az7 =>
  (gx_gai Xz3 az7 2 p_0).bind fun vz8 =>
  if vz8 = p_1 then (
  some ((0 : Int32), Xz3)) else (
  (gx_gd Xz3 this 5 0).bind fun az10 =>
  (gx_gd Xz3 az10 4 0).bind fun az11 =>
  (gx_pai Xz3 az11 2 p_0 (vp_nar .boolean p_1)).bind fun Xz12 =>
  gx_ob Xz12 this 5 <|
  (gm_X5_noteChange fu this Xz12).bind fun Xz14 =>
  some ((1 : Int32), Xz14)))
set_option maxHeartbeats 1000000 in
set_option maxRecDepth 20000 in
theorem gc_X5_always {l : Launch} {D : gx_D} (fu : Nat) (this : Nat) (p_0 : Int32) (p_1 : Int32) (X : gx_H) (r : Int32) (X2 : gx_H) (h : gm_X5_always fu this p_0 p_1 X = some (r, X2)) : gx_M D gz_cl gz_at gz_tb gz_nb l yX5_always cX5_always 3 (some .boolean) 1 21 [gx_r (some this), gx_i p_0, gx_i p_1] X (some (gx_i r)) X2 0 0 := by
  unfold gm_X5_always at h
  refine gx_enter [some (gx_r (some this)), some (gx_i p_0), some (gx_i p_1)] rfl (by decide) (Nat.le_of_ble_eq_true rfl) ?_
  intro p e s m below meth c C _
  refine gx_aload_n C dX5_always_0 rfl rfl ?_
  obtain ⟨az1, eaz1, h⟩ := gx_bd h
  refine gx_get C kcX5 0 (by decide) wl_95 (gx_gd_s eaz1) dX5_always_1 ?_
  refine gx_iload_n C dX5_always_4 rfl rfl ?_
  obtain ⟨hoz2, h⟩ := gx_obs h
  obtain ⟨vz4, Xz3, eXz3, h⟩ := gx_bd2 h
  refine gx_callV (As := [gx_i p_0]) (st := []) (stk2 := [gx_i vz4]) C cd_X4_isCall wl_135 ws_X4_isCall wl_165 rfl hoz2 (gc_X4_isCall fu az1 p_0 X vz4 Xz3 eXz3) rfl ⟨Nat.le_of_ble_eq_true rfl, Nat.le_of_ble_eq_true rfl⟩ ⟨Nat.le_of_ble_eq_true rfl, Nat.le_of_ble_eq_true rfl⟩ (Nat.le_of_ble_eq_true rfl) rfl rfl dX5_always_5 ?_
  refine gx_if_eq (tgt := 24) C dX5_always_8 (by decide) (fun qz5 => ?_) (fun qz5 => ?_)
  · rw [if_pos qz5] at h
    refine gx_iconst (v := 0) C dX5_always_24 (by decide) ?_
    cases h
    exact gx_zret (Or.inl rfl) C dX5_always_25
  · rw [if_neg qz5] at h
    refine gx_aload_n C dX5_always_11 rfl rfl ?_
    obtain ⟨az6, eaz6, h⟩ := gx_bd h
    refine gx_get C kcX5 0 (by decide) wl_95 (gx_gd_s eaz6) dX5_always_12 ?_
    obtain ⟨az7, eaz7, h⟩ := gx_bd h
    refine gx_get C kcX4 0 (by decide) wl_24 (gx_gd_s eaz7) dX5_always_15 ?_
    refine gx_iload_n C dX5_always_18 rfl rfl ?_
    obtain ⟨vz8, evz8, h⟩ := gx_bd h
    refine gx_zald C (t := 2) rfl evz8 dX5_always_19 ?_
    refine gx_iload_n C dX5_always_20 rfl rfl ?_
    refine gx_icmp_ne (tgt := 26) C dX5_always_21 (by decide) (fun qz9 => ?_) (fun qz9 => ?_)
    · rw [if_neg qz9] at h
      refine gx_aload_n C dX5_always_26 rfl rfl ?_
      obtain ⟨az10, eaz10, h⟩ := gx_bd h
      refine gx_get C kcX5 0 (by decide) wl_95 (gx_gd_s eaz10) dX5_always_27 ?_
      obtain ⟨az11, eaz11, h⟩ := gx_bd h
      refine gx_get C kcX4 0 (by decide) wl_24 (gx_gd_s eaz11) dX5_always_30 ?_
      refine gx_iload_n C dX5_always_33 rfl rfl ?_
      refine gx_iload_n C dX5_always_34 rfl rfl ?_
      obtain ⟨Xz12, eXz12, h⟩ := gx_bd h
      refine gx_zast C (t := 2) rfl eXz12 dX5_always_35 ?_
      refine gx_aload_n C dX5_always_36 rfl rfl ?_
      obtain ⟨hoz13, h⟩ := gx_obs h
      obtain ⟨Xz14, eXz14, h⟩ := gx_bd h
      refine gx_callV (As := []) (st := []) (stk2 := []) C cd_X5_noteChange wl_159 ws_X5_noteChange wl_157 rfl hoz13 (gc_X5_noteChange fu this Xz12 Xz14 eXz14) rfl ⟨Nat.le_of_ble_eq_true rfl, Nat.le_of_ble_eq_true rfl⟩ ⟨Nat.le_of_ble_eq_true rfl, Nat.le_of_ble_eq_true rfl⟩ (Nat.le_of_ble_eq_true rfl) rfl rfl dX5_always_37 ?_
      refine gx_iconst (v := 1) C dX5_always_40 (by decide) ?_
      cases h
      exact gx_zret (Or.inr rfl) C dX5_always_41
    · rw [if_pos qz9] at h
      refine gx_iconst (v := 0) C dX5_always_24 (by decide) ?_
      cases h
      exact gx_zret (Or.inl rfl) C dX5_always_25
theorem dX5_begin_0 : decode cX5_begin 0 = .ok (.iload_n 1, 1) := by decide +kernel
theorem dX5_begin_1 : decode cX5_begin 1 = .ok (.iconst 1, 1) := by decide +kernel
theorem dX5_begin_2 : decode cX5_begin 2 = .ok (.if_icmp .lt 9, 3) := by decide +kernel
theorem dX5_begin_5 : decode cX5_begin 5 = .ok (.iload_n 1, 1) := by decide +kernel
theorem dX5_begin_6 : decode cX5_begin 6 = .ok (.bipush 60, 2) := by decide +kernel
theorem dX5_begin_8 : decode cX5_begin 8 = .ok (.if_icmp .le 5, 3) := by decide +kernel
theorem dX5_begin_11 : decode cX5_begin 11 = .ok (.iconst 0, 1) := by decide +kernel
theorem dX5_begin_12 : decode cX5_begin 12 = .ok (.ireturn, 1) := by decide +kernel
theorem dX5_begin_13 : decode cX5_begin 13 = .ok (.aload_n 0, 1) := by decide +kernel
theorem dX5_begin_14 : decode cX5_begin 14 = .ok (.getfield 10, 3) := by decide +kernel
theorem dX5_begin_17 : decode cX5_begin 17 = .ok (.iload_n 1, 1) := by decide +kernel
theorem dX5_begin_18 : decode cX5_begin 18 = .ok (.invokevirtual 42, 3) := by decide +kernel
theorem dX5_begin_21 : decode cX5_begin 21 = .ok (.aload_n 0, 1) := by decide +kernel
theorem dX5_begin_22 : decode cX5_begin 22 = .ok (.getfield 35, 3) := by decide +kernel
theorem dX5_begin_25 : decode cX5_begin 25 = .ok (.invokevirtual 46, 3) := by decide +kernel
theorem dX5_begin_28 : decode cX5_begin 28 = .ok (.aload_n 0, 1) := by decide +kernel
theorem dX5_begin_29 : decode cX5_begin 29 = .ok (.iconst 0, 1) := by decide +kernel
theorem dX5_begin_30 : decode cX5_begin 30 = .ok (.putfield 49, 3) := by decide +kernel
theorem dX5_begin_33 : decode cX5_begin 33 = .ok (.iconst 1, 1) := by decide +kernel
theorem dX5_begin_34 : decode cX5_begin 34 = .ok (.ireturn, 1) := by decide +kernel
def gm_X5_begin (fu : Nat) (this : Nat) (p_0 : Int32) (X : gx_H) : Option (Int32 × gx_H) :=
  if p_0 < (1 : Int32) then (
  some ((0 : Int32), X)) else (
  if p_0 ≤ (60 : Int32) then (
  (gx_gd X this 5 0).bind fun az3 =>
  gx_ob X az3 4 <|
  (gm_X4_renew fu az3 p_0 X).bind fun Xz5 =>
  (gx_gd Xz5 this 5 3).bind fun az6 =>
  gx_ob Xz5 az6 3 <|
  (gm_X3_clear fu az6 Xz5).bind fun Xz8 =>
  (gx_pf Xz8 this 5 5 (.int (0 : Int32))).bind fun Xz9 =>
  some ((1 : Int32), Xz9)) else (
  some ((0 : Int32), X)))
set_option maxHeartbeats 1000000 in
set_option maxRecDepth 20000 in
theorem gc_X5_begin {l : Launch} {D : gx_D} (fu : Nat) (this : Nat) (p_0 : Int32) (X : gx_H) (r : Int32) (X2 : gx_H) (h : gm_X5_begin fu this p_0 X = some (r, X2)) : gx_M D gz_cl gz_at gz_tb gz_nb l yX5_begin cX5_begin 2 (some .boolean) 1 22 [gx_r (some this), gx_i p_0] X (some (gx_i r)) X2 0 0 := by
  unfold gm_X5_begin at h
  refine gx_enter [some (gx_r (some this)), some (gx_i p_0)] rfl (by decide) (Nat.le_of_ble_eq_true rfl) ?_
  intro p e s m below meth c C _
  refine gx_iload_n C dX5_begin_0 rfl rfl ?_
  refine gx_iconst (v := 1) C dX5_begin_1 (by decide) ?_
  refine gx_icmp_lt (tgt := 11) C dX5_begin_2 (by decide) (fun qz1 => ?_) (fun qz1 => ?_)
  · rw [if_pos qz1] at h
    refine gx_iconst (v := 0) C dX5_begin_11 (by decide) ?_
    cases h
    exact gx_zret (Or.inl rfl) C dX5_begin_12
  · rw [if_neg qz1] at h
    refine gx_iload_n C dX5_begin_5 rfl rfl ?_
    refine gx_bipush (v := 60) C dX5_begin_6 (by decide) ?_
    refine gx_icmp_le (tgt := 13) C dX5_begin_8 (by decide) (fun qz2 => ?_) (fun qz2 => ?_)
    · rw [if_pos qz2] at h
      refine gx_aload_n C dX5_begin_13 rfl rfl ?_
      obtain ⟨az3, eaz3, h⟩ := gx_bd h
      refine gx_get C kcX5 0 (by decide) wl_95 (gx_gd_s eaz3) dX5_begin_14 ?_
      refine gx_iload_n C dX5_begin_17 rfl rfl ?_
      obtain ⟨hoz4, h⟩ := gx_obs h
      obtain ⟨Xz5, eXz5, h⟩ := gx_bd h
      refine gx_callV (As := [gx_i p_0]) (st := []) (stk2 := []) C cd_X4_renew wl_119 ws_X4_renew wl_118 rfl hoz4 (gc_X4_renew fu az3 p_0 X Xz5 eXz5) rfl ⟨Nat.le_of_ble_eq_true rfl, Nat.le_of_ble_eq_true rfl⟩ ⟨Nat.le_of_ble_eq_true rfl, Nat.le_of_ble_eq_true rfl⟩ (Nat.le_of_ble_eq_true rfl) rfl rfl dX5_begin_18 ?_
      refine gx_aload_n C dX5_begin_21 rfl rfl ?_
      obtain ⟨az6, eaz6, h⟩ := gx_bd h
      refine gx_get C kcX5 3 (by decide) wl_98 (gx_gd_s eaz6) dX5_begin_22 ?_
      obtain ⟨hoz7, h⟩ := gx_obs h
      obtain ⟨Xz8, eXz8, h⟩ := gx_bd h
      refine gx_callV (As := []) (st := []) (stk2 := []) C cd_X3_clear wl_123 ws_X3_clear wl_122 rfl hoz7 (gc_X3_clear fu az6 Xz5 Xz8 eXz8) rfl ⟨Nat.le_of_ble_eq_true rfl, Nat.le_of_ble_eq_true rfl⟩ ⟨Nat.le_of_ble_eq_true rfl, Nat.le_of_ble_eq_true rfl⟩ (Nat.le_of_ble_eq_true rfl) rfl rfl dX5_begin_25 ?_
      refine gx_aload_n C dX5_begin_28 rfl rfl ?_
      refine gx_iconst (v := 0) C dX5_begin_29 (by decide) ?_
      obtain ⟨Xz9, eXz9, h⟩ := gx_bd h
      refine gx_put C kcX5 5 (by decide) rfl wl_100 (gx_nz (Or.inl rfl)) eXz9 dX5_begin_30 ?_
      refine gx_iconst (v := 1) C dX5_begin_33 (by decide) ?_
      cases h
      exact gx_zret (Or.inr rfl) C dX5_begin_34
    · rw [if_neg qz2] at h
      refine gx_iconst (v := 0) C dX5_begin_11 (by decide) ?_
      cases h
      exact gx_zret (Or.inl rfl) C dX5_begin_12
theorem dX5_programOf_0 : decode cX5_programOf 0 = .ok (.iload_n 1, 1) := by decide +kernel
theorem dX5_programOf_1 : decode cX5_programOf 1 = .ok (.ifCond .ne 8, 3) := by decide +kernel
theorem dX5_programOf_4 : decode cX5_programOf 4 = .ok (.aload_n 0, 1) := by decide +kernel
theorem dX5_programOf_5 : decode cX5_programOf 5 = .ok (.getfield 35, 3) := by decide +kernel
theorem dX5_programOf_8 : decode cX5_programOf 8 = .ok (.areturn, 1) := by decide +kernel
theorem dX5_programOf_9 : decode cX5_programOf 9 = .ok (.aload_n 0, 1) := by decide +kernel
theorem dX5_programOf_10 : decode cX5_programOf 10 = .ok (.getfield 49, 3) := by decide +kernel
theorem dX5_programOf_13 : decode cX5_programOf 13 = .ok (.ifCond .eq 10, 3) := by decide +kernel
theorem dX5_programOf_16 : decode cX5_programOf 16 = .ok (.aload_n 0, 1) := by decide +kernel
theorem dX5_programOf_17 : decode cX5_programOf 17 = .ok (.getfield 39, 3) := by decide +kernel
theorem dX5_programOf_20 : decode cX5_programOf 20 = .ok (.goto 4, 3) := by decide +kernel
theorem dX5_programOf_23 : decode cX5_programOf 23 = .ok (.aconst_null, 1) := by decide +kernel
theorem dX5_programOf_24 : decode cX5_programOf 24 = .ok (.areturn, 1) := by decide +kernel
def gm_X5_programOf (fu : Nat) (this : Nat) (p_0 : Int32) (X : gx_H) : Option (Option Nat × gx_H) :=
  if p_0 = 0 then (
  (gx_gd X this 5 3).bind fun az5 =>
  some ((some az5), X)) else (
  (gx_gi X this 5 5).bind fun vz2 =>
  if vz2 = 0 then (
  some (none, X)) else (
  (gx_gd X this 5 4).bind fun az4 =>
  some ((some az4), X)))
set_option maxHeartbeats 1000000 in
set_option maxRecDepth 20000 in
theorem gc_X5_programOf {l : Launch} {D : gx_D} (fu : Nat) (this : Nat) (p_0 : Int32) (X : gx_H) (r : Option Nat) (X2 : gx_H) (h : gm_X5_programOf fu this p_0 X = some (r, X2)) : gx_M D gz_cl gz_at gz_tb gz_nb l yX5_programOf cX5_programOf 2 (some (.object "GuardFlow$Program")) 0 0 [gx_r (some this), gx_i p_0] X (some (gx_r r)) X2 0 0 := by
  unfold gm_X5_programOf at h
  refine gx_enter [some (gx_r (some this)), some (gx_i p_0)] rfl (by decide) (Nat.le_of_ble_eq_true rfl) ?_
  intro p e s m below meth c C _
  refine gx_iload_n C dX5_programOf_0 rfl rfl ?_
  refine gx_if_ne (tgt := 9) C dX5_programOf_1 (by decide) (fun qz1 => ?_) (fun qz1 => ?_)
  · rw [if_neg qz1] at h
    refine gx_aload_n C dX5_programOf_9 rfl rfl ?_
    obtain ⟨vz2, evz2, h⟩ := gx_bd h
    refine gx_get C kcX5 5 (by decide) wl_100 (gx_gi_s evz2) dX5_programOf_10 ?_
    refine gx_if_eq (tgt := 23) C dX5_programOf_13 (by decide) (fun qz3 => ?_) (fun qz3 => ?_)
    · rw [if_pos qz3] at h
      refine gx_null C dX5_programOf_23 ?_
      cases h
      exact gx_aret C dX5_programOf_24
    · rw [if_neg qz3] at h
      refine gx_aload_n C dX5_programOf_16 rfl rfl ?_
      obtain ⟨az4, eaz4, h⟩ := gx_bd h
      refine gx_get C kcX5 4 (by decide) wl_99 (gx_gd_s eaz4) dX5_programOf_17 ?_
      refine gx_goto (tgt := 24) C dX5_programOf_20 (by decide) ?_
      cases h
      exact gx_aret C dX5_programOf_24
  · rw [if_pos qz1] at h
    refine gx_aload_n C dX5_programOf_4 rfl rfl ?_
    obtain ⟨az5, eaz5, h⟩ := gx_bd h
    refine gx_get C kcX5 3 (by decide) wl_98 (gx_gd_s eaz5) dX5_programOf_5 ?_
    cases h
    exact gx_aret C dX5_programOf_8
theorem dX5_firstUncertified_0 : decode cX5_firstUncertified 0 = .ok (.iconst 0, 1) := by decide +kernel
theorem dX5_firstUncertified_1 : decode cX5_firstUncertified 1 = .ok (.istore_n 2, 1) := by decide +kernel
theorem dX5_firstUncertified_2 : decode cX5_firstUncertified 2 = .ok (.iload_n 2, 1) := by decide +kernel
theorem dX5_firstUncertified_3 : decode cX5_firstUncertified 3 = .ok (.aload_n 1, 1) := by decide +kernel
theorem dX5_firstUncertified_4 : decode cX5_firstUncertified 4 = .ok (.getfield 162, 3) := by decide +kernel
theorem dX5_firstUncertified_7 : decode cX5_firstUncertified 7 = .ok (.if_icmp .ge 53, 3) := by decide +kernel
theorem dX5_firstUncertified_10 : decode cX5_firstUncertified 10 = .ok (.aload_n 1, 1) := by decide +kernel
theorem dX5_firstUncertified_11 : decode cX5_firstUncertified 11 = .ok (.getfield 128, 3) := by decide +kernel
theorem dX5_firstUncertified_14 : decode cX5_firstUncertified 14 = .ok (.iload_n 2, 1) := by decide +kernel
theorem dX5_firstUncertified_15 : decode cX5_firstUncertified 15 = .ok (.iaload, 1) := by decide +kernel
theorem dX5_firstUncertified_16 : decode cX5_firstUncertified 16 = .ok (.iconst 5, 1) := by decide +kernel
theorem dX5_firstUncertified_17 : decode cX5_firstUncertified 17 = .ok (.if_icmp .ne 17, 3) := by decide +kernel
theorem dX5_firstUncertified_20 : decode cX5_firstUncertified 20 = .ok (.aload_n 1, 1) := by decide +kernel
theorem dX5_firstUncertified_21 : decode cX5_firstUncertified 21 = .ok (.iload_n 2, 1) := by decide +kernel
theorem dX5_firstUncertified_22 : decode cX5_firstUncertified 22 = .ok (.iconst 1, 1) := by decide +kernel
theorem dX5_firstUncertified_23 : decode cX5_firstUncertified 23 = .ok (.iadd, 1) := by decide +kernel
theorem dX5_firstUncertified_24 : decode cX5_firstUncertified 24 = .ok (.invokevirtual 135, 3) := by decide +kernel
theorem dX5_firstUncertified_27 : decode cX5_firstUncertified 27 = .ok (.ifCond .ne 7, 3) := by decide +kernel
theorem dX5_firstUncertified_30 : decode cX5_firstUncertified 30 = .ok (.iconst 1, 1) := by decide +kernel
theorem dX5_firstUncertified_31 : decode cX5_firstUncertified 31 = .ok (.goto 4, 3) := by decide +kernel
theorem dX5_firstUncertified_34 : decode cX5_firstUncertified 34 = .ok (.iconst 0, 1) := by decide +kernel
theorem dX5_firstUncertified_35 : decode cX5_firstUncertified 35 = .ok (.istore_n 3, 1) := by decide +kernel
theorem dX5_firstUncertified_36 : decode cX5_firstUncertified 36 = .ok (.iload_n 3, 1) := by decide +kernel
theorem dX5_firstUncertified_37 : decode cX5_firstUncertified 37 = .ok (.ifCond .ne 15, 3) := by decide +kernel
theorem dX5_firstUncertified_40 : decode cX5_firstUncertified 40 = .ok (.aload_n 0, 1) := by decide +kernel
theorem dX5_firstUncertified_41 : decode cX5_firstUncertified 41 = .ok (.getfield 10, 3) := by decide +kernel
theorem dX5_firstUncertified_44 : decode cX5_firstUncertified 44 = .ok (.aload_n 1, 1) := by decide +kernel
theorem dX5_firstUncertified_45 : decode cX5_firstUncertified 45 = .ok (.iload_n 2, 1) := by decide +kernel
theorem dX5_firstUncertified_46 : decode cX5_firstUncertified 46 = .ok (.invokevirtual 203, 3) := by decide +kernel
theorem dX5_firstUncertified_49 : decode cX5_firstUncertified 49 = .ok (.ifCond .eq 5, 3) := by decide +kernel
theorem dX5_firstUncertified_52 : decode cX5_firstUncertified 52 = .ok (.iload_n 2, 1) := by decide +kernel
theorem dX5_firstUncertified_53 : decode cX5_firstUncertified 53 = .ok (.ireturn, 1) := by decide +kernel
theorem dX5_firstUncertified_54 : decode cX5_firstUncertified 54 = .ok (.iinc 2 1, 3) := by decide +kernel
theorem dX5_firstUncertified_57 : decode cX5_firstUncertified 57 = .ok (.goto (-55), 3) := by decide +kernel
theorem dX5_firstUncertified_60 : decode cX5_firstUncertified 60 = .ok (.iconst (-1), 1) := by decide +kernel
theorem dX5_firstUncertified_61 : decode cX5_firstUncertified 61 = .ok (.ireturn, 1) := by decide +kernel
def gm_X5_firstUncertified_35 (fu : Nat) (K2 : Nat → Nat → Int32 → gx_H → Option (Int32 × gx_H)) (a0 : Nat) (a1 : Nat) (x2 : Int32) (sx0 : Int32) (X : gx_H) : Option (Int32 × gx_H) :=
  if sx0 = 0 then (
  (gx_gd X a0 5 0).bind fun az2 =>
  gx_ob X az2 4 <|
  gx_b2 (gm_X4_lacksGuard fu az2 a1 x2 X) fun vz5 Xz4 =>
  if vz5 = 0 then (
  K2 a0 a1 (x2 + 1) Xz4) else (
  some (x2, Xz4))) else (
  some (x2, X))
set_option maxHeartbeats 1000000 in
set_option maxRecDepth 20000 in
theorem gt_X5_firstUncertified_35 {p : Program} {l : Launch} {e : Env} {s : State} {m : MethodId} {args : Array Value} {below : List Frame} {meth : Method} {c : Code} {D : gx_D} {r : Int32} {X2 : gx_H}  (C : gx_C D gz_cl gz_at gz_tb gz_nb p s m meth c cX5_firstUncertified 4 RX5 (some .int)) (fu : Nat) (K2 : Nat → Nat → Int32 → gx_H → Option (Int32 × gx_H)) (hK2 : ∀ (a0 : Nat) (a1 : Nat) (x2 : Int32) (X : gx_H), K2 a0 a1 x2 X = some (r, X2) → gx_W D gz_cl 4 p l e (gx_rm 4 91 0 0) s m args below meth c 0 0 (MQ below (gx_Q D gz_cl (some (gx_i r)) X2) args s 0 0 (gx_Z D)) X 2 [some (gx_r (some a0)), some (gx_r (some a1)), some (gx_i x2), none] []) (a0 : Nat) (a1 : Nat) (x2 : Int32) (sx0 : Int32) (X : gx_H) (h : gm_X5_firstUncertified_35 fu K2 a0 a1 x2 sx0 X = some (r, X2)) : gx_W D gz_cl 4 p l e (gx_rm 4 91 0 0) s m args below meth c 0 0 (MQ below (gx_Q D gz_cl (some (gx_i r)) X2) args s 0 0 (gx_Z D)) X 35 [some (gx_r (some a0)), some (gx_r (some a1)), some (gx_i x2), none] [gx_i sx0] := by
  unfold gm_X5_firstUncertified_35 at h
  refine gx_istore_n (lv2 := [some (gx_r (some a0)), some (gx_r (some a1)), some (gx_i x2), some (gx_i sx0)]) C dX5_firstUncertified_35 rfl (by decide) rfl ?_
  refine gx_iload_n C dX5_firstUncertified_36 rfl rfl ?_
  refine gx_if_ne (tgt := 52) C dX5_firstUncertified_37 (by decide) (fun qz1 => ?_) (fun qz1 => ?_)
  · rw [if_neg qz1] at h
    refine gx_iload_n C dX5_firstUncertified_52 rfl rfl ?_
    cases h
    exact gx_iret C dX5_firstUncertified_53
  · rw [if_pos qz1] at h
    refine gx_aload_n C dX5_firstUncertified_40 rfl rfl ?_
    obtain ⟨az2, eaz2, h⟩ := gx_bd h
    refine gx_get C kcX5 0 (by decide) wl_95 (gx_gd_s eaz2) dX5_firstUncertified_41 ?_
    refine gx_aload_n C dX5_firstUncertified_44 rfl rfl ?_
    refine gx_iload_n C dX5_firstUncertified_45 rfl rfl ?_
    obtain ⟨hoz3, h⟩ := gx_obs h
    obtain ⟨vz5, Xz4, eXz4, h⟩ := gx_bd2 h
    refine gx_callV (As := [gx_r (some a1), gx_i x2]) (st := []) (stk2 := [gx_i vz5]) C cd_X4_lacksGuard wl_383 ws_X4_lacksGuard wl_433 rfl hoz3 (gc_X4_lacksGuard fu az2 a1 x2 X vz5 Xz4 eXz4) rfl ⟨Nat.le_of_ble_eq_true rfl, Nat.le_of_ble_eq_true rfl⟩ ⟨Nat.le_of_ble_eq_true rfl, Nat.le_of_ble_eq_true rfl⟩ (Nat.le_of_ble_eq_true rfl) rfl rfl dX5_firstUncertified_46 ?_
    refine gx_if_eq (tgt := 54) C dX5_firstUncertified_49 (by decide) (fun qz6 => ?_) (fun qz6 => ?_)
    · rw [if_pos qz6] at h
      refine gx_iinc (v := (x2 + 1)) (lv2 := [some (gx_r (some a0)), some (gx_r (some a1)), some (gx_i (x2 + 1)), some (gx_i sx0)]) C dX5_firstUncertified_54 rfl rfl (by decide) rfl ?_
      refine gx_goto (tgt := 2) C dX5_firstUncertified_57 (by decide) ?_
      refine gx_sub (lv2 := [some (gx_r (some a0)), some (gx_r (some a1)), some (gx_i (x2 + 1)), none]) [true, true, true, false] rfl ?_
      exact hK2 a0 a1 (x2 + 1) Xz4 h
    · rw [if_neg qz6] at h
      refine gx_iload_n C dX5_firstUncertified_52 rfl rfl ?_
      cases h
      exact gx_iret C dX5_firstUncertified_53
def gm_X5_firstUncertified_34 (fu : Nat) (K2 : Nat → Nat → Int32 → gx_H → Option (Int32 × gx_H)) (a0 : Nat) (a1 : Nat) (x2 : Int32) (X : gx_H) : Option (Int32 × gx_H) :=
  gm_X5_firstUncertified_35 fu K2 a0 a1 x2 (0 : Int32) X
set_option maxHeartbeats 1000000 in
set_option maxRecDepth 20000 in
theorem gt_X5_firstUncertified_34 {p : Program} {l : Launch} {e : Env} {s : State} {m : MethodId} {args : Array Value} {below : List Frame} {meth : Method} {c : Code} {D : gx_D} {r : Int32} {X2 : gx_H}  (C : gx_C D gz_cl gz_at gz_tb gz_nb p s m meth c cX5_firstUncertified 4 RX5 (some .int)) (fu : Nat) (K2 : Nat → Nat → Int32 → gx_H → Option (Int32 × gx_H)) (hK2 : ∀ (a0 : Nat) (a1 : Nat) (x2 : Int32) (X : gx_H), K2 a0 a1 x2 X = some (r, X2) → gx_W D gz_cl 4 p l e (gx_rm 4 91 0 0) s m args below meth c 0 0 (MQ below (gx_Q D gz_cl (some (gx_i r)) X2) args s 0 0 (gx_Z D)) X 2 [some (gx_r (some a0)), some (gx_r (some a1)), some (gx_i x2), none] []) (a0 : Nat) (a1 : Nat) (x2 : Int32) (X : gx_H) (h : gm_X5_firstUncertified_34 fu K2 a0 a1 x2 X = some (r, X2)) : gx_W D gz_cl 4 p l e (gx_rm 4 91 0 0) s m args below meth c 0 0 (MQ below (gx_Q D gz_cl (some (gx_i r)) X2) args s 0 0 (gx_Z D)) X 34 [some (gx_r (some a0)), some (gx_r (some a1)), some (gx_i x2), none] [] := by
  unfold gm_X5_firstUncertified_34 at h
  refine gx_iconst (v := 0) C dX5_firstUncertified_34 (by decide) ?_
  exact gt_X5_firstUncertified_35 C fu K2 hK2 a0 a1 x2 (0 : Int32) X h
def gm_X5_firstUncertified_2 (fu : Nat) : Nat → Nat → Nat → Int32 → gx_H → Option (Int32 × gx_H)
  | 0, _, _, _, _ => none
  | n + 1, a0, a1, x2, X =>
    (gx_gi X a1 0 6).bind fun vz7 =>
    if vz7 ≤ x2 then (
    some ((-1 : Int32), X)) else (
    (gx_gd X a1 0 1).bind fun az9 =>
    (gx_gai X az9 0 x2).bind fun vz10 =>
    if vz10 = (5 : Int32) then (
    gx_ob X a1 0 <|
    gx_b2 (gm_X0_isGuarded fu a1 (x2 + (1 : Int32)) X) fun vz14 Xz13 =>
    if vz14 = 0 then (
    gm_X5_firstUncertified_35 fu (gm_X5_firstUncertified_2 fu  n) a0 a1 x2 (1 : Int32) Xz13) else (
    gm_X5_firstUncertified_34 fu (gm_X5_firstUncertified_2 fu  n) a0 a1 x2 Xz13)) else (
    gm_X5_firstUncertified_34 fu (gm_X5_firstUncertified_2 fu  n) a0 a1 x2 X))
set_option maxHeartbeats 1000000 in
set_option maxRecDepth 20000 in
theorem gt_X5_firstUncertified_2 {p : Program} {l : Launch} {e : Env} {s : State} {m : MethodId} {args : Array Value} {below : List Frame} {meth : Method} {c : Code} {D : gx_D} {r : Int32} {X2 : gx_H}  (C : gx_C D gz_cl gz_at gz_tb gz_nb p s m meth c cX5_firstUncertified 4 RX5 (some .int)) (fu : Nat) : ∀ (n : Nat) (a0 : Nat) (a1 : Nat) (x2 : Int32) (X : gx_H) , gm_X5_firstUncertified_2 fu  n a0 a1 x2 X = some (r, X2) → gx_W D gz_cl 4 p l e (gx_rm 4 91 0 0) s m args below meth c 0 0 (MQ below (gx_Q D gz_cl (some (gx_i r)) X2) args s 0 0 (gx_Z D)) X 2 [some (gx_r (some a0)), some (gx_r (some a1)), some (gx_i x2), none] [] := by
  intro n
  induction n with
  | zero =>
    intro a0 a1 x2 X h
    have h : none = some _ := h
    cases h
  | succ n ih =>
    intro a0 a1 x2 X h
    rw [gm_X5_firstUncertified_2] at h
    refine gx_iload_n C dX5_firstUncertified_2 rfl rfl ?_
    refine gx_aload_n C dX5_firstUncertified_3 rfl rfl ?_
    obtain ⟨vz7, evz7, h⟩ := gx_bd h
    refine gx_get C kcX0 6 (by decide) wl_208 (gx_gi_s evz7) dX5_firstUncertified_4 ?_
    refine gx_icmp_ge (tgt := 60) C dX5_firstUncertified_7 (by decide) (fun qz8 => ?_) (fun qz8 => ?_)
    · rw [if_pos qz8] at h
      refine gx_iconst (v := -1) C dX5_firstUncertified_60 (by decide) ?_
      cases h
      exact gx_iret C dX5_firstUncertified_61
    · rw [if_neg qz8] at h
      refine gx_aload_n C dX5_firstUncertified_10 rfl rfl ?_
      obtain ⟨az9, eaz9, h⟩ := gx_bd h
      refine gx_get C kcX0 1 (by decide) wl_185 (gx_gd_s eaz9) dX5_firstUncertified_11 ?_
      refine gx_iload_n C dX5_firstUncertified_14 rfl rfl ?_
      obtain ⟨vz10, evz10, h⟩ := gx_bd h
      refine gx_iald C (t := 0) rfl evz10 dX5_firstUncertified_15 ?_
      refine gx_iconst (v := 5) C dX5_firstUncertified_16 (by decide) ?_
      refine gx_icmp_ne (tgt := 34) C dX5_firstUncertified_17 (by decide) (fun qz11 => ?_) (fun qz11 => ?_)
      · rw [if_neg qz11] at h
        exact gt_X5_firstUncertified_34 C fu (gm_X5_firstUncertified_2 fu  n) ih a0 a1 x2 X h
      · rw [if_pos qz11] at h
        refine gx_aload_n C dX5_firstUncertified_20 rfl rfl ?_
        refine gx_iload_n C dX5_firstUncertified_21 rfl rfl ?_
        refine gx_iconst (v := 1) C dX5_firstUncertified_22 (by decide) ?_
        refine gx_iadd C dX5_firstUncertified_23 ?_
        obtain ⟨hoz12, h⟩ := gx_obs h
        obtain ⟨vz14, Xz13, eXz13, h⟩ := gx_bd2 h
        refine gx_callV (As := [gx_i (x2 + (1 : Int32))]) (st := []) (stk2 := [gx_i vz14]) C cd_X0_isGuarded wl_349 ws_X0_isGuarded wl_432 rfl hoz12 (gc_X0_isGuarded fu a1 (x2 + (1 : Int32)) X vz14 Xz13 eXz13) rfl ⟨Nat.le_of_ble_eq_true rfl, Nat.le_of_ble_eq_true rfl⟩ ⟨Nat.le_of_ble_eq_true rfl, Nat.le_of_ble_eq_true rfl⟩ (Nat.le_of_ble_eq_true rfl) rfl rfl dX5_firstUncertified_24 ?_
        refine gx_if_ne (tgt := 34) C dX5_firstUncertified_27 (by decide) (fun qz15 => ?_) (fun qz15 => ?_)
        · rw [if_neg qz15] at h
          exact gt_X5_firstUncertified_34 C fu (gm_X5_firstUncertified_2 fu  n) ih a0 a1 x2 Xz13 h
        · rw [if_pos qz15] at h
          refine gx_iconst (v := 1) C dX5_firstUncertified_30 (by decide) ?_
          refine gx_goto (tgt := 35) C dX5_firstUncertified_31 (by decide) ?_
          exact gt_X5_firstUncertified_35 C fu (gm_X5_firstUncertified_2 fu  n) ih a0 a1 x2 (1 : Int32) Xz13 h
def gm_X5_firstUncertified (fu : Nat) (this : Nat) (a_0 : Nat) (X : gx_H) : Option (Int32 × gx_H) :=
  gm_X5_firstUncertified_2 fu  fu this a_0 (0 : Int32) X
set_option maxHeartbeats 1000000 in
set_option maxRecDepth 20000 in
theorem gc_X5_firstUncertified {l : Launch} {D : gx_D} (fu : Nat) (this : Nat) (a_0 : Nat) (X : gx_H) (r : Int32) (X2 : gx_H) (h : gm_X5_firstUncertified fu this a_0 X = some (r, X2)) : gx_M D gz_cl gz_at gz_tb gz_nb l yX5_firstUncertified cX5_firstUncertified 4 (some .int) 4 91 [gx_r (some this), gx_r (some a_0)] X (some (gx_i r)) X2 0 0 := by
  unfold gm_X5_firstUncertified at h
  refine gx_enter [some (gx_r (some this)), some (gx_r (some a_0)), none, none] rfl (by decide) (Nat.le_of_ble_eq_true rfl) ?_
  intro p e s m below meth c C _
  refine gx_iconst (v := 0) C dX5_firstUncertified_0 (by decide) ?_
  refine gx_istore_n (lv2 := [some (gx_r (some this)), some (gx_r (some a_0)), some (gx_i (0 : Int32)), none]) C dX5_firstUncertified_1 rfl (by decide) rfl ?_
  exact gt_X5_firstUncertified_2 C fu  fu this a_0 (0 : Int32) X h
theorem dX5_certify_0 : decode cX5_certify 0 = .ok (.aload_n 0, 1) := by decide +kernel
theorem dX5_certify_1 : decode cX5_certify 1 = .ok (.iload_n 1, 1) := by decide +kernel
theorem dX5_certify_2 : decode cX5_certify 2 = .ok (.invokevirtual 116, 3) := by decide +kernel
theorem dX5_certify_5 : decode cX5_certify 5 = .ok (.astore_n 2, 1) := by decide +kernel
theorem dX5_certify_6 : decode cX5_certify 6 = .ok (.aload_n 2, 1) := by decide +kernel
theorem dX5_certify_7 : decode cX5_certify 7 = .ok (.ifnonnull 5, 3) := by decide +kernel
theorem dX5_certify_10 : decode cX5_certify 10 = .ok (.iconst (-1), 1) := by decide +kernel
theorem dX5_certify_11 : decode cX5_certify 11 = .ok (.ireturn, 1) := by decide +kernel
theorem dX5_certify_12 : decode cX5_certify 12 = .ok (.aload_n 0, 1) := by decide +kernel
theorem dX5_certify_13 : decode cX5_certify 13 = .ok (.getfield 21, 3) := by decide +kernel
theorem dX5_certify_16 : decode cX5_certify 16 = .ok (.aload_n 2, 1) := by decide +kernel
theorem dX5_certify_17 : decode cX5_certify 17 = .ok (.invokevirtual 104, 3) := by decide +kernel
theorem dX5_certify_20 : decode cX5_certify 20 = .ok (.iconst 0, 1) := by decide +kernel
theorem dX5_certify_21 : decode cX5_certify 21 = .ok (.istore_n 3, 1) := by decide +kernel
theorem dX5_certify_22 : decode cX5_certify 22 = .ok (.iload_n 3, 1) := by decide +kernel
theorem dX5_certify_23 : decode cX5_certify 23 = .ok (.bipush 8, 2) := by decide +kernel
theorem dX5_certify_25 : decode cX5_certify 25 = .ok (.if_icmp .ge 50, 3) := by decide +kernel
theorem dX5_certify_28 : decode cX5_certify 28 = .ok (.aload_n 2, 1) := by decide +kernel
theorem dX5_certify_29 : decode cX5_certify 29 = .ok (.iload_n 3, 1) := by decide +kernel
theorem dX5_certify_30 : decode cX5_certify 30 = .ok (.invokevirtual 85, 3) := by decide +kernel
theorem dX5_certify_33 : decode cX5_certify 33 = .ok (.astore 4, 2) := by decide +kernel
theorem dX5_certify_35 : decode cX5_certify 35 = .ok (.aload 4, 2) := by decide +kernel
theorem dX5_certify_37 : decode cX5_certify 37 = .ok (.ifnonnull 7, 3) := by decide +kernel
theorem dX5_certify_40 : decode cX5_certify 40 = .ok (.iconst (-1), 1) := by decide +kernel
theorem dX5_certify_41 : decode cX5_certify 41 = .ok (.goto 9, 3) := by decide +kernel
theorem dX5_certify_44 : decode cX5_certify 44 = .ok (.aload_n 0, 1) := by decide +kernel
theorem dX5_certify_45 : decode cX5_certify 45 = .ok (.aload 4, 2) := by decide +kernel
theorem dX5_certify_47 : decode cX5_certify 47 = .ok (.invokevirtual 120, 3) := by decide +kernel
theorem dX5_certify_50 : decode cX5_certify 50 = .ok (.istore 5, 2) := by decide +kernel
theorem dX5_certify_52 : decode cX5_certify 52 = .ok (.iload 5, 2) := by decide +kernel
theorem dX5_certify_54 : decode cX5_certify 54 = .ok (.iconst (-1), 1) := by decide +kernel
theorem dX5_certify_55 : decode cX5_certify 55 = .ok (.if_icmp .eq 14, 3) := by decide +kernel
theorem dX5_certify_58 : decode cX5_certify 58 = .ok (.sipush 256, 3) := by decide +kernel
theorem dX5_certify_61 : decode cX5_certify 61 = .ok (.iload_n 3, 1) := by decide +kernel
theorem dX5_certify_62 : decode cX5_certify 62 = .ok (.imul, 1) := by decide +kernel
theorem dX5_certify_63 : decode cX5_certify 63 = .ok (.iload 5, 2) := by decide +kernel
theorem dX5_certify_65 : decode cX5_certify 65 = .ok (.iadd, 1) := by decide +kernel
theorem dX5_certify_66 : decode cX5_certify 66 = .ok (.iconst 1, 1) := by decide +kernel
theorem dX5_certify_67 : decode cX5_certify 67 = .ok (.iadd, 1) := by decide +kernel
theorem dX5_certify_68 : decode cX5_certify 68 = .ok (.ireturn, 1) := by decide +kernel
theorem dX5_certify_69 : decode cX5_certify 69 = .ok (.iinc 3 1, 3) := by decide +kernel
theorem dX5_certify_72 : decode cX5_certify 72 = .ok (.goto (-50), 3) := by decide +kernel
theorem dX5_certify_75 : decode cX5_certify 75 = .ok (.iconst 0, 1) := by decide +kernel
theorem dX5_certify_76 : decode cX5_certify 76 = .ok (.ireturn, 1) := by decide +kernel
def gm_X5_certify_50 (fu : Nat) (K22 : Nat → Option Nat → Int32 → gx_H → Option (Int32 × gx_H)) (a0 : Nat) (o2 : Option Nat) (x3 : Int32) (sx0 : Int32) (X : gx_H) : Option (Int32 × gx_H) :=
  if sx0 = (-1 : Int32) then (
  K22 a0 o2 (x3 + 1) X) else (
  some (((((256 : Int32) * x3) + sx0) + (1 : Int32)), X))
set_option maxHeartbeats 1000000 in
set_option maxRecDepth 20000 in
theorem gt_X5_certify_50 {p : Program} {l : Launch} {e : Env} {s : State} {m : MethodId} {args : Array Value} {below : List Frame} {meth : Method} {c : Code} {D : gx_D} {r : Int32} {X2 : gx_H}  (C : gx_C D gz_cl gz_at gz_tb gz_nb p s m meth c cX5_certify 6 RX5 (some .int)) (fu : Nat) (K22 : Nat → Option Nat → Int32 → gx_H → Option (Int32 × gx_H)) (hK22 : ∀ (a0 : Nat) (o2 : Option Nat) (x3 : Int32) (X : gx_H), K22 a0 o2 x3 X = some (r, X2) → gx_W D gz_cl 6 p l e (gx_rm 5 126 0 0) s m args below meth c 0 0 (MQ below (gx_Q D gz_cl (some (gx_i r)) X2) args s 0 0 (gx_Z D)) X 22 [some (gx_r (some a0)), none, some (gx_r o2), some (gx_i x3), none, none] []) (a0 : Nat) (o2 : Option Nat) (x3 : Int32) (sx0 : Int32) (X : gx_H) (h : gm_X5_certify_50 fu K22 a0 o2 x3 sx0 X = some (r, X2)) : gx_W D gz_cl 6 p l e (gx_rm 5 126 0 0) s m args below meth c 0 0 (MQ below (gx_Q D gz_cl (some (gx_i r)) X2) args s 0 0 (gx_Z D)) X 50 [some (gx_r (some a0)), none, some (gx_r o2), some (gx_i x3), none, none] [gx_i sx0] := by
  unfold gm_X5_certify_50 at h
  refine gx_istore (lv2 := [some (gx_r (some a0)), none, some (gx_r o2), some (gx_i x3), none, some (gx_i sx0)]) C dX5_certify_50 (by decide) rfl ?_
  refine gx_iload C dX5_certify_52 rfl ?_
  refine gx_iconst (v := -1) C dX5_certify_54 (by decide) ?_
  refine gx_icmp_eq (tgt := 69) C dX5_certify_55 (by decide) (fun qz1 => ?_) (fun qz1 => ?_)
  · rw [if_pos qz1] at h
    refine gx_iinc (v := (x3 + 1)) (lv2 := [some (gx_r (some a0)), none, some (gx_r o2), some (gx_i (x3 + 1)), none, some (gx_i sx0)]) C dX5_certify_69 rfl rfl (by decide) rfl ?_
    refine gx_goto (tgt := 22) C dX5_certify_72 (by decide) ?_
    refine gx_sub (lv2 := [some (gx_r (some a0)), none, some (gx_r o2), some (gx_i (x3 + 1)), none, none]) [true, false, true, true, false, false] rfl ?_
    exact hK22 a0 o2 (x3 + 1) X h
  · rw [if_neg qz1] at h
    refine gx_sipush (v := 256) C dX5_certify_58 (by decide) ?_
    refine gx_iload_n C dX5_certify_61 rfl rfl ?_
    refine gx_imul C dX5_certify_62 ?_
    refine gx_iload C dX5_certify_63 rfl ?_
    refine gx_iadd C dX5_certify_65 ?_
    refine gx_iconst (v := 1) C dX5_certify_66 (by decide) ?_
    refine gx_iadd C dX5_certify_67 ?_
    cases h
    exact gx_iret C dX5_certify_68
def gm_X5_certify_22 (fu : Nat) : Nat → Nat → Option Nat → Int32 → gx_H → Option (Int32 × gx_H)
  | 0, _, _, _, _ => none
  | n + 1, a0, o2, x3, X =>
    if (8 : Int32) ≤ x3 then (
    some ((0 : Int32), X)) else (
    (o2).bind fun az3 =>
    gx_ob X az3 3 <|
    gx_b2 (gm_X3_body fu az3 x3 X) fun oz6 Xz5 =>
    gx_nl oz6 (
    gm_X5_certify_50 fu (gm_X5_certify_22 fu  n) a0 (some az3) x3 (-1 : Int32) Xz5) fun az8 =>
    gx_ob Xz5 a0 5 <|
    gx_b2 (gm_X5_firstUncertified fu a0 az8 Xz5) fun vz11 Xz10 =>
    gm_X5_certify_50 fu (gm_X5_certify_22 fu  n) a0 (some az3) x3 vz11 Xz10)
set_option maxHeartbeats 1000000 in
set_option maxRecDepth 20000 in
theorem gt_X5_certify_22 {p : Program} {l : Launch} {e : Env} {s : State} {m : MethodId} {args : Array Value} {below : List Frame} {meth : Method} {c : Code} {D : gx_D} {r : Int32} {X2 : gx_H}  (C : gx_C D gz_cl gz_at gz_tb gz_nb p s m meth c cX5_certify 6 RX5 (some .int)) (fu : Nat) : ∀ (n : Nat) (a0 : Nat) (o2 : Option Nat) (x3 : Int32) (X : gx_H) , gm_X5_certify_22 fu  n a0 o2 x3 X = some (r, X2) → gx_W D gz_cl 6 p l e (gx_rm 5 126 0 0) s m args below meth c 0 0 (MQ below (gx_Q D gz_cl (some (gx_i r)) X2) args s 0 0 (gx_Z D)) X 22 [some (gx_r (some a0)), none, some (gx_r o2), some (gx_i x3), none, none] [] := by
  intro n
  induction n with
  | zero =>
    intro a0 o2 x3 X h
    have h : none = some _ := h
    cases h
  | succ n ih =>
    intro a0 o2 x3 X h
    rw [gm_X5_certify_22] at h
    refine gx_iload_n C dX5_certify_22 rfl rfl ?_
    refine gx_bipush (v := 8) C dX5_certify_23 (by decide) ?_
    refine gx_icmp_ge (tgt := 75) C dX5_certify_25 (by decide) (fun qz2 => ?_) (fun qz2 => ?_)
    · rw [if_pos qz2] at h
      refine gx_iconst (v := 0) C dX5_certify_75 (by decide) ?_
      cases h
      exact gx_iret C dX5_certify_76
    · rw [if_neg qz2] at h
      refine gx_aload_n C dX5_certify_28 rfl rfl ?_
      refine gx_iload_n C dX5_certify_29 rfl rfl ?_
      obtain ⟨az3, eaz3, h⟩ := gx_bd h
      subst eaz3
      obtain ⟨hoz4, h⟩ := gx_obs h
      obtain ⟨oz6, Xz5, eXz5, h⟩ := gx_bd2 h
      refine gx_callV (As := [gx_i x3]) (st := []) (stk2 := [gx_r oz6]) C cd_X3_body wl_275 ws_X3_body wl_274 rfl hoz4 (gc_X3_body fu az3 x3 X oz6 Xz5 eXz5) rfl ⟨Nat.le_of_ble_eq_true rfl, Nat.le_of_ble_eq_true rfl⟩ ⟨Nat.le_of_ble_eq_true rfl, Nat.le_of_ble_eq_true rfl⟩ (Nat.le_of_ble_eq_true rfl) rfl rfl dX5_certify_30 ?_
      refine gx_astore (lv2 := [some (gx_r (some a0)), none, some (gx_r (some az3)), some (gx_i x3), some (gx_r oz6), none]) C dX5_certify_33 (by decide) rfl ?_
      refine gx_aload C dX5_certify_35 rfl ?_
      refine gx_ifnonnull (tgt := 44) C dX5_certify_37 (by decide) (fun az8 qz7 => ?_) (fun qz7 => ?_)
      · subst qz7
        have h := gx_nl_s h
        refine gx_aload_n C dX5_certify_44 rfl rfl ?_
        refine gx_aload C dX5_certify_45 rfl ?_
        obtain ⟨hoz9, h⟩ := gx_obs h
        obtain ⟨vz11, Xz10, eXz10, h⟩ := gx_bd2 h
        refine gx_callV (As := [gx_r (some az8)]) (st := []) (stk2 := [gx_i vz11]) C cd_X5_firstUncertified wl_430 ws_X5_firstUncertified wl_428 rfl hoz9 (gc_X5_firstUncertified fu a0 az8 Xz5 vz11 Xz10 eXz10) rfl ⟨Nat.le_of_ble_eq_true rfl, Nat.le_of_ble_eq_true rfl⟩ ⟨Nat.le_of_ble_eq_true rfl, Nat.le_of_ble_eq_true rfl⟩ (Nat.le_of_ble_eq_true rfl) rfl rfl dX5_certify_47 ?_
        refine gx_sub (lv2 := [some (gx_r (some a0)), none, some (gx_r (some az3)), some (gx_i x3), none, none]) [true, false, true, true, false, false] rfl ?_
        exact gt_X5_certify_50 C fu (gm_X5_certify_22 fu  n) ih a0 (some az3) x3 vz11 Xz10 h
      · subst qz7
        have h := gx_nl_n h
        refine gx_iconst (v := -1) C dX5_certify_40 (by decide) ?_
        refine gx_goto (tgt := 50) C dX5_certify_41 (by decide) ?_
        refine gx_sub (lv2 := [some (gx_r (some a0)), none, some (gx_r (some az3)), some (gx_i x3), none, none]) [true, false, true, true, false, false] rfl ?_
        exact gt_X5_certify_50 C fu (gm_X5_certify_22 fu  n) ih a0 (some az3) x3 (-1 : Int32) Xz5 h
def gm_X5_certify (fu : Nat) (this : Nat) (p_0 : Int32) (X : gx_H) : Option (Int32 × gx_H) :=
  gx_ob X this 5 <|
  gx_b2 (gm_X5_programOf fu this p_0 X) fun oz14 Xz13 =>
  gx_nl oz14 (
  some ((-1 : Int32), Xz13)) fun az16 =>
  (gx_gd Xz13 this 5 1).bind fun az17 =>
  gx_ob Xz13 az17 1 <|
  (gm_X1_settle fu az17 az16 Xz13).bind fun Xz19 =>
  gm_X5_certify_22 fu  fu this (some az16) (0 : Int32) Xz19
set_option maxHeartbeats 1000000 in
set_option maxRecDepth 20000 in
theorem gc_X5_certify {l : Launch} {D : gx_D} (fu : Nat) (this : Nat) (p_0 : Int32) (X : gx_H) (r : Int32) (X2 : gx_H) (h : gm_X5_certify fu this p_0 X = some (r, X2)) : gx_M D gz_cl gz_at gz_tb gz_nb l yX5_certify cX5_certify 6 (some .int) 5 126 [gx_r (some this), gx_i p_0] X (some (gx_i r)) X2 0 0 := by
  unfold gm_X5_certify at h
  refine gx_enter [some (gx_r (some this)), some (gx_i p_0), none, none, none, none] rfl (by decide) (Nat.le_of_ble_eq_true rfl) ?_
  intro p e s m below meth c C _
  refine gx_aload_n C dX5_certify_0 rfl rfl ?_
  refine gx_iload_n C dX5_certify_1 rfl rfl ?_
  obtain ⟨hoz12, h⟩ := gx_obs h
  obtain ⟨oz14, Xz13, eXz13, h⟩ := gx_bd2 h
  refine gx_callV (As := [gx_i p_0]) (st := []) (stk2 := [gx_r oz14]) C cd_X5_programOf wl_426 ws_X5_programOf wl_424 rfl hoz12 (gc_X5_programOf fu this p_0 X oz14 Xz13 eXz13) rfl ⟨Nat.le_of_ble_eq_true rfl, Nat.le_of_ble_eq_true rfl⟩ ⟨Nat.le_of_ble_eq_true rfl, Nat.le_of_ble_eq_true rfl⟩ (Nat.le_of_ble_eq_true rfl) rfl rfl dX5_certify_2 ?_
  refine gx_astore_n (lv2 := [some (gx_r (some this)), some (gx_i p_0), some (gx_r oz14), none, none, none]) C dX5_certify_5 rfl (by decide) rfl ?_
  refine gx_aload_n C dX5_certify_6 rfl rfl ?_
  refine gx_ifnonnull (tgt := 12) C dX5_certify_7 (by decide) (fun az16 qz15 => ?_) (fun qz15 => ?_)
  · subst qz15
    have h := gx_nl_s h
    refine gx_aload_n C dX5_certify_12 rfl rfl ?_
    obtain ⟨az17, eaz17, h⟩ := gx_bd h
    refine gx_get C kcX5 1 (by decide) wl_96 (gx_gd_s eaz17) dX5_certify_13 ?_
    refine gx_aload_n C dX5_certify_16 rfl rfl ?_
    obtain ⟨hoz18, h⟩ := gx_obs h
    obtain ⟨Xz19, eXz19, h⟩ := gx_bd h
    refine gx_callV (As := [gx_r (some az16)]) (st := []) (stk2 := []) C cd_X1_settle wl_305 ws_X1_settle wl_304 rfl hoz18 (gc_X1_settle fu az17 az16 Xz13 Xz19 eXz19) rfl ⟨Nat.le_of_ble_eq_true rfl, Nat.le_of_ble_eq_true rfl⟩ ⟨Nat.le_of_ble_eq_true rfl, Nat.le_of_ble_eq_true rfl⟩ (Nat.le_of_ble_eq_true rfl) rfl rfl dX5_certify_17 ?_
    refine gx_iconst (v := 0) C dX5_certify_20 (by decide) ?_
    refine gx_istore_n (lv2 := [some (gx_r (some this)), some (gx_i p_0), some (gx_r (some az16)), some (gx_i (0 : Int32)), none, none]) C dX5_certify_21 rfl (by decide) rfl ?_
    refine gx_sub (lv2 := [some (gx_r (some this)), none, some (gx_r (some az16)), some (gx_i (0 : Int32)), none, none]) [true, false, true, true, false, false] rfl ?_
    exact gt_X5_certify_22 C fu  fu this (some az16) (0 : Int32) Xz19 h
  · subst qz15
    have h := gx_nl_n h
    refine gx_iconst (v := -1) C dX5_certify_10 (by decide) ?_
    cases h
    exact gx_iret C dX5_certify_11
theorem dX5_code_0 : decode cX5_code 0 = .ok (.aload_n 0, 1) := by decide +kernel
theorem dX5_code_1 : decode cX5_code 1 = .ok (.getfield 35, 3) := by decide +kernel
theorem dX5_code_4 : decode cX5_code 4 = .ok (.iload_n 1, 1) := by decide +kernel
theorem dX5_code_5 : decode cX5_code 5 = .ok (.invokevirtual 85, 3) := by decide +kernel
theorem dX5_code_8 : decode cX5_code 8 = .ok (.astore 5, 2) := by decide +kernel
theorem dX5_code_10 : decode cX5_code 10 = .ok (.aload 5, 2) := by decide +kernel
theorem dX5_code_12 : decode cX5_code 12 = .ok (.ifnull 23, 3) := by decide +kernel
theorem dX5_code_15 : decode cX5_code 15 = .ok (.aload 5, 2) := by decide +kernel
theorem dX5_code_17 : decode cX5_code 17 = .ok (.iload_n 2, 1) := by decide +kernel
theorem dX5_code_18 : decode cX5_code 18 = .ok (.invokevirtual 88, 3) := by decide +kernel
theorem dX5_code_21 : decode cX5_code 21 = .ok (.ifCond .eq 14, 3) := by decide +kernel
theorem dX5_code_24 : decode cX5_code 24 = .ok (.aload 5, 2) := by decide +kernel
theorem dX5_code_26 : decode cX5_code 26 = .ok (.iload_n 3, 1) := by decide +kernel
theorem dX5_code_27 : decode cX5_code 27 = .ok (.iload 4, 2) := by decide +kernel
theorem dX5_code_29 : decode cX5_code 29 = .ok (.invokevirtual 91, 3) := by decide +kernel
theorem dX5_code_32 : decode cX5_code 32 = .ok (.ifCond .ne 5, 3) := by decide +kernel
theorem dX5_code_35 : decode cX5_code 35 = .ok (.iconst 0, 1) := by decide +kernel
theorem dX5_code_36 : decode cX5_code 36 = .ok (.ireturn, 1) := by decide +kernel
theorem dX5_code_37 : decode cX5_code 37 = .ok (.aload 5, 2) := by decide +kernel
theorem dX5_code_39 : decode cX5_code 39 = .ok (.iload_n 2, 1) := by decide +kernel
theorem dX5_code_40 : decode cX5_code 40 = .ok (.iload_n 3, 1) := by decide +kernel
theorem dX5_code_41 : decode cX5_code 41 = .ok (.iload 4, 2) := by decide +kernel
theorem dX5_code_43 : decode cX5_code 43 = .ok (.invokevirtual 95, 3) := by decide +kernel
theorem dX5_code_46 : decode cX5_code 46 = .ok (.aload_n 0, 1) := by decide +kernel
theorem dX5_code_47 : decode cX5_code 47 = .ok (.invokevirtual 64, 3) := by decide +kernel
theorem dX5_code_50 : decode cX5_code 50 = .ok (.iconst 1, 1) := by decide +kernel
theorem dX5_code_51 : decode cX5_code 51 = .ok (.ireturn, 1) := by decide +kernel
def gm_X5_code (fu : Nat) (this : Nat) (p_0 : Int32) (p_1 : Int32) (p_2 : Int32) (p_3 : Int32) (X : gx_H) : Option (Int32 × gx_H) :=
  (gx_gd X this 5 3).bind fun az1 =>
  gx_ob X az1 3 <|
  gx_b2 (gm_X3_body fu az1 p_0 X) fun oz4 Xz3 =>
  gx_nl oz4 (
  some ((0 : Int32), Xz3)) fun az6 =>
  gx_ob Xz3 az6 0 <|
  gx_b2 (gm_X0_hasInstruction fu az6 p_1 Xz3) fun vz9 Xz8 =>
  if vz9 = 0 then (
  some ((0 : Int32), Xz8)) else (
  gx_ob Xz8 az6 0 <|
  gx_b2 (gm_X0_canHold fu az6 p_2 p_3 Xz8) fun vz13 Xz12 =>
  if vz13 = 0 then (
  some ((0 : Int32), Xz12)) else (
  gx_ob Xz12 az6 0 <|
  (gm_X0_put fu az6 p_1 p_2 p_3 Xz12).bind fun Xz16 =>
  gx_ob Xz16 this 5 <|
  (gm_X5_noteChange fu this Xz16).bind fun Xz18 =>
  some ((1 : Int32), Xz18)))
set_option maxHeartbeats 1000000 in
set_option maxRecDepth 20000 in
theorem gc_X5_code {l : Launch} {D : gx_D} (fu : Nat) (this : Nat) (p_0 : Int32) (p_1 : Int32) (p_2 : Int32) (p_3 : Int32) (X : gx_H) (r : Int32) (X2 : gx_H) (h : gm_X5_code fu this p_0 p_1 p_2 p_3 X = some (r, X2)) : gx_M D gz_cl gz_at gz_tb gz_nb l yX5_code cX5_code 6 (some .boolean) 2 43 [gx_r (some this), gx_i p_0, gx_i p_1, gx_i p_2, gx_i p_3] X (some (gx_i r)) X2 0 0 := by
  unfold gm_X5_code at h
  refine gx_enter [some (gx_r (some this)), some (gx_i p_0), some (gx_i p_1), some (gx_i p_2), some (gx_i p_3), none] rfl (by decide) (Nat.le_of_ble_eq_true rfl) ?_
  intro p e s m below meth c C _
  refine gx_aload_n C dX5_code_0 rfl rfl ?_
  obtain ⟨az1, eaz1, h⟩ := gx_bd h
  refine gx_get C kcX5 3 (by decide) wl_98 (gx_gd_s eaz1) dX5_code_1 ?_
  refine gx_iload_n C dX5_code_4 rfl rfl ?_
  obtain ⟨hoz2, h⟩ := gx_obs h
  obtain ⟨oz4, Xz3, eXz3, h⟩ := gx_bd2 h
  refine gx_callV (As := [gx_i p_0]) (st := []) (stk2 := [gx_r oz4]) C cd_X3_body wl_275 ws_X3_body wl_274 rfl hoz2 (gc_X3_body fu az1 p_0 X oz4 Xz3 eXz3) rfl ⟨Nat.le_of_ble_eq_true rfl, Nat.le_of_ble_eq_true rfl⟩ ⟨Nat.le_of_ble_eq_true rfl, Nat.le_of_ble_eq_true rfl⟩ (Nat.le_of_ble_eq_true rfl) rfl rfl dX5_code_5 ?_
  refine gx_astore (lv2 := [some (gx_r (some this)), some (gx_i p_0), some (gx_i p_1), some (gx_i p_2), some (gx_i p_3), some (gx_r oz4)]) C dX5_code_8 (by decide) rfl ?_
  refine gx_aload C dX5_code_10 rfl ?_
  refine gx_ifnull (tgt := 35) C dX5_code_12 (by decide) (fun qz5 => ?_) (fun az6 qz5 => ?_)
  · subst qz5
    have h := gx_nl_n h
    refine gx_iconst (v := 0) C dX5_code_35 (by decide) ?_
    cases h
    exact gx_zret (Or.inl rfl) C dX5_code_36
  · subst qz5
    have h := gx_nl_s h
    refine gx_aload C dX5_code_15 rfl ?_
    refine gx_iload_n C dX5_code_17 rfl rfl ?_
    obtain ⟨hoz7, h⟩ := gx_obs h
    obtain ⟨vz9, Xz8, eXz8, h⟩ := gx_bd2 h
    refine gx_callV (As := [gx_i p_1]) (st := []) (stk2 := [gx_i vz9]) C cd_X0_hasInstruction wl_279 ws_X0_hasInstruction wl_278 rfl hoz7 (gc_X0_hasInstruction fu az6 p_1 Xz3 vz9 Xz8 eXz8) rfl ⟨Nat.le_of_ble_eq_true rfl, Nat.le_of_ble_eq_true rfl⟩ ⟨Nat.le_of_ble_eq_true rfl, Nat.le_of_ble_eq_true rfl⟩ (Nat.le_of_ble_eq_true rfl) rfl rfl dX5_code_18 ?_
    refine gx_if_eq (tgt := 35) C dX5_code_21 (by decide) (fun qz10 => ?_) (fun qz10 => ?_)
    · rw [if_pos qz10] at h
      refine gx_iconst (v := 0) C dX5_code_35 (by decide) ?_
      cases h
      exact gx_zret (Or.inl rfl) C dX5_code_36
    · rw [if_neg qz10] at h
      refine gx_aload C dX5_code_24 rfl ?_
      refine gx_iload_n C dX5_code_26 rfl rfl ?_
      refine gx_iload C dX5_code_27 rfl ?_
      obtain ⟨hoz11, h⟩ := gx_obs h
      obtain ⟨vz13, Xz12, eXz12, h⟩ := gx_bd2 h
      refine gx_callV (As := [gx_i p_2, gx_i p_3]) (st := []) (stk2 := [gx_i vz13]) C cd_X0_canHold wl_283 ws_X0_canHold wl_282 rfl hoz11 (gc_X0_canHold fu az6 p_2 p_3 Xz8 vz13 Xz12 eXz12) rfl ⟨Nat.le_of_ble_eq_true rfl, Nat.le_of_ble_eq_true rfl⟩ ⟨Nat.le_of_ble_eq_true rfl, Nat.le_of_ble_eq_true rfl⟩ (Nat.le_of_ble_eq_true rfl) rfl rfl dX5_code_29 ?_
      refine gx_if_ne (tgt := 37) C dX5_code_32 (by decide) (fun qz14 => ?_) (fun qz14 => ?_)
      · rw [if_neg qz14] at h
        refine gx_aload C dX5_code_37 rfl ?_
        refine gx_iload_n C dX5_code_39 rfl rfl ?_
        refine gx_iload_n C dX5_code_40 rfl rfl ?_
        refine gx_iload C dX5_code_41 rfl ?_
        obtain ⟨hoz15, h⟩ := gx_obs h
        obtain ⟨Xz16, eXz16, h⟩ := gx_bd h
        refine gx_callV (As := [gx_i p_1, gx_i p_2, gx_i p_3]) (st := []) (stk2 := []) C cd_X0_put wl_267 ws_X0_put wl_287 rfl hoz15 (gc_X0_put fu az6 p_1 p_2 p_3 Xz12 Xz16 eXz16) rfl ⟨Nat.le_of_ble_eq_true rfl, Nat.le_of_ble_eq_true rfl⟩ ⟨Nat.le_of_ble_eq_true rfl, Nat.le_of_ble_eq_true rfl⟩ (Nat.le_of_ble_eq_true rfl) rfl rfl dX5_code_43 ?_
        refine gx_aload_n C dX5_code_46 rfl rfl ?_
        obtain ⟨hoz17, h⟩ := gx_obs h
        obtain ⟨Xz18, eXz18, h⟩ := gx_bd h
        refine gx_callV (As := []) (st := []) (stk2 := []) C cd_X5_noteChange wl_159 ws_X5_noteChange wl_157 rfl hoz17 (gc_X5_noteChange fu this Xz16 Xz18 eXz18) rfl ⟨Nat.le_of_ble_eq_true rfl, Nat.le_of_ble_eq_true rfl⟩ ⟨Nat.le_of_ble_eq_true rfl, Nat.le_of_ble_eq_true rfl⟩ (Nat.le_of_ble_eq_true rfl) rfl rfl dX5_code_47 ?_
        refine gx_iconst (v := 1) C dX5_code_50 (by decide) ?_
        cases h
        exact gx_zret (Or.inr rfl) C dX5_code_51
      · rw [if_pos qz14] at h
        refine gx_iconst (v := 0) C dX5_code_35 (by decide) ?_
        cases h
        exact gx_zret (Or.inl rfl) C dX5_code_36
theorem dX5_forge_0 : decode cX5_forge 0 = .ok (.aload_n 0, 1) := by decide +kernel
theorem dX5_forge_1 : decode cX5_forge 1 = .ok (.getfield 21, 3) := by decide +kernel
theorem dX5_forge_4 : decode cX5_forge 4 = .ok (.aload_n 0, 1) := by decide +kernel
theorem dX5_forge_5 : decode cX5_forge 5 = .ok (.getfield 35, 3) := by decide +kernel
theorem dX5_forge_8 : decode cX5_forge 8 = .ok (.invokevirtual 104, 3) := by decide +kernel
theorem dX5_forge_11 : decode cX5_forge 11 = .ok (.aload_n 0, 1) := by decide +kernel
theorem dX5_forge_12 : decode cX5_forge 12 = .ok (.getfield 28, 3) := by decide +kernel
theorem dX5_forge_15 : decode cX5_forge 15 = .ok (.aload_n 0, 1) := by decide +kernel
theorem dX5_forge_16 : decode cX5_forge 16 = .ok (.getfield 35, 3) := by decide +kernel
theorem dX5_forge_19 : decode cX5_forge 19 = .ok (.invokevirtual 108, 3) := by decide +kernel
theorem dX5_forge_22 : decode cX5_forge 22 = .ok (.istore_n 1, 1) := by decide +kernel
theorem dX5_forge_23 : decode cX5_forge 23 = .ok (.iload_n 1, 1) := by decide +kernel
theorem dX5_forge_24 : decode cX5_forge 24 = .ok (.ifCond .ge 6, 3) := by decide +kernel
theorem dX5_forge_27 : decode cX5_forge 27 = .ok (.bipush (-2), 2) := by decide +kernel
theorem dX5_forge_29 : decode cX5_forge 29 = .ok (.ireturn, 1) := by decide +kernel
theorem dX5_forge_30 : decode cX5_forge 30 = .ok (.aload_n 0, 1) := by decide +kernel
theorem dX5_forge_31 : decode cX5_forge 31 = .ok (.getfield 28, 3) := by decide +kernel
theorem dX5_forge_34 : decode cX5_forge 34 = .ok (.aload_n 0, 1) := by decide +kernel
theorem dX5_forge_35 : decode cX5_forge 35 = .ok (.getfield 35, 3) := by decide +kernel
theorem dX5_forge_38 : decode cX5_forge 38 = .ok (.aload_n 0, 1) := by decide +kernel
theorem dX5_forge_39 : decode cX5_forge 39 = .ok (.getfield 39, 3) := by decide +kernel
theorem dX5_forge_42 : decode cX5_forge 42 = .ok (.invokevirtual 112, 3) := by decide +kernel
theorem dX5_forge_45 : decode cX5_forge 45 = .ok (.aload_n 0, 1) := by decide +kernel
theorem dX5_forge_46 : decode cX5_forge 46 = .ok (.iconst 1, 1) := by decide +kernel
theorem dX5_forge_47 : decode cX5_forge 47 = .ok (.putfield 49, 3) := by decide +kernel
theorem dX5_forge_50 : decode cX5_forge 50 = .ok (.iload_n 1, 1) := by decide +kernel
theorem dX5_forge_51 : decode cX5_forge 51 = .ok (.ireturn, 1) := by decide +kernel
def gm_X5_forge (fu : Nat) (this : Nat) (X : gx_H) : Option (Int32 × gx_H × Nat × Nat) :=
  (gx_gd X this 5 1).bind fun az1 =>
  (gx_gd X this 5 3).bind fun az2 =>
  gx_ob X az1 1 <|
  (gm_X1_settle fu az1 az2 X).bind fun Xz4 =>
  (gx_gd Xz4 this 5 2).bind fun az5 =>
  (gx_gd Xz4 this 5 3).bind fun az6 =>
  gx_ob Xz4 az5 2 <|
  gx_b2 (gm_X2_countLacking fu az5 az6 Xz4) fun vz9 Xz8 =>
  if 0 ≤ vz9 then (
  (gx_gd Xz8 this 5 2).bind fun az11 =>
  (gx_gd Xz8 this 5 3).bind fun az12 =>
  (gx_gd Xz8 this 5 4).bind fun az13 =>
  gx_ob Xz8 az11 2 <|
  gx_b4 (gm_X2_copyWithGuards fu az11 az12 az13 Xz8) fun _u Xz15 cz16 sz16 => gx_ad cz16 sz16 <|
  (gx_pf Xz15 this 5 5 (.int (1 : Int32))).bind fun Xz18 =>
  some (vz9, Xz18, 0, 0)) else (
  some ((-2 : Int32), Xz8, 0, 0))
set_option maxHeartbeats 1000000 in
set_option maxRecDepth 20000 in
theorem gc_X5_forge {l : Launch} {D : gx_D} (fu : Nat) (this : Nat) (X : gx_H) (r : Int32) (X2 : gx_H) (tc ts : Nat) (h : gm_X5_forge fu this X = some (r, X2, tc, ts)) : gx_M D gz_cl gz_at gz_tb gz_nb l yX5_forge cX5_forge 2 (some .int) 6 140 [gx_r (some this)] X (some (gx_i r)) X2 tc ts := by
  unfold gm_X5_forge at h
  refine gx_enter [some (gx_r (some this)), none] rfl (by decide) (Nat.le_of_ble_eq_true rfl) ?_
  intro p e s m below meth c C _
  have h1 : 0 + tc = tc := Nat.zero_add tc
  have h2 : 0 + ts = ts := Nat.zero_add ts
  refine gx_aload_n C dX5_forge_0 rfl rfl ?_
  obtain ⟨az1, eaz1, h⟩ := gx_bd h
  refine gx_get C kcX5 1 (by decide) wl_96 (gx_gd_s eaz1) dX5_forge_1 ?_
  refine gx_aload_n C dX5_forge_4 rfl rfl ?_
  obtain ⟨az2, eaz2, h⟩ := gx_bd h
  refine gx_get C kcX5 3 (by decide) wl_98 (gx_gd_s eaz2) dX5_forge_5 ?_
  obtain ⟨hoz3, h⟩ := gx_obs h
  obtain ⟨Xz4, eXz4, h⟩ := gx_bd h
  refine gx_callV (As := [gx_r (some az2)]) (st := []) (stk2 := []) C cd_X1_settle wl_305 ws_X1_settle wl_304 rfl hoz3 (gc_X1_settle fu az1 az2 X Xz4 eXz4) rfl ⟨Nat.le_of_ble_eq_true rfl, Nat.le_of_ble_eq_true rfl⟩ ⟨show 0 + 0 ≤ tc by omega, show 0 + 0 ≤ ts by omega⟩ (Nat.le_of_ble_eq_true rfl) rfl rfl dX5_forge_8 ?_
  refine gx_aload_n C dX5_forge_11 rfl rfl ?_
  obtain ⟨az5, eaz5, h⟩ := gx_bd h
  refine gx_get C kcX5 2 (by decide) wl_97 (gx_gd_s eaz5) dX5_forge_12 ?_
  refine gx_aload_n C dX5_forge_15 rfl rfl ?_
  obtain ⟨az6, eaz6, h⟩ := gx_bd h
  refine gx_get C kcX5 3 (by decide) wl_98 (gx_gd_s eaz6) dX5_forge_16 ?_
  obtain ⟨hoz7, h⟩ := gx_obs h
  obtain ⟨vz9, Xz8, eXz8, h⟩ := gx_bd2 h
  refine gx_callV (As := [gx_r (some az6)]) (st := []) (stk2 := [gx_i vz9]) C cd_X2_countLacking wl_374 ws_X2_countLacking wl_373 rfl hoz7 (gc_X2_countLacking fu az5 az6 Xz4 vz9 Xz8 eXz8) rfl ⟨Nat.le_of_ble_eq_true rfl, Nat.le_of_ble_eq_true rfl⟩ ⟨show 0 + 0 + 0 ≤ tc by omega, show 0 + 0 + 0 ≤ ts by omega⟩ (Nat.le_of_ble_eq_true rfl) rfl rfl dX5_forge_19 ?_
  refine gx_istore_n (lv2 := [some (gx_r (some this)), some (gx_i vz9)]) C dX5_forge_22 rfl (by decide) rfl ?_
  refine gx_iload_n C dX5_forge_23 rfl rfl ?_
  refine gx_if_ge (tgt := 30) C dX5_forge_24 (by decide) (fun qz10 => ?_) (fun qz10 => ?_)
  · rw [if_pos qz10] at h
    refine gx_aload_n C dX5_forge_30 rfl rfl ?_
    obtain ⟨az11, eaz11, h⟩ := gx_bd h
    refine gx_get C kcX5 2 (by decide) wl_97 (gx_gd_s eaz11) dX5_forge_31 ?_
    refine gx_aload_n C dX5_forge_34 rfl rfl ?_
    obtain ⟨az12, eaz12, h⟩ := gx_bd h
    refine gx_get C kcX5 3 (by decide) wl_98 (gx_gd_s eaz12) dX5_forge_35 ?_
    refine gx_aload_n C dX5_forge_38 rfl rfl ?_
    obtain ⟨az13, eaz13, h⟩ := gx_bd h
    refine gx_get C kcX5 4 (by decide) wl_99 (gx_gd_s eaz13) dX5_forge_39 ?_
    obtain ⟨hoz14, h⟩ := gx_obs h
    obtain ⟨⟨⟩, Xz15, cz16, sz16, eXz15, h⟩ := gx_bd4 h
    obtain ⟨cz17, sz17, h, ecz17, esz17⟩ := gx_add h
    refine gx_callV (As := [gx_r (some az12), gx_r (some az13)]) (st := []) (stk2 := []) C cd_X2_copyWithGuards wl_396 ws_X2_copyWithGuards wl_395 rfl hoz14 (gc_X2_copyWithGuards fu az11 az12 az13 Xz8 Xz15 cz16 sz16 eXz15) rfl ⟨Nat.le_of_ble_eq_true rfl, Nat.le_of_ble_eq_true rfl⟩ ⟨show 0 + 0 + 0 + cz16 ≤ tc by omega, show 0 + 0 + 0 + sz16 ≤ ts by omega⟩ (Nat.le_of_ble_eq_true rfl) rfl rfl dX5_forge_42 ?_
    refine gx_aload_n C dX5_forge_45 rfl rfl ?_
    refine gx_iconst (v := 1) C dX5_forge_46 (by decide) ?_
    obtain ⟨Xz18, eXz18, h⟩ := gx_bd h
    refine gx_put C kcX5 5 (by decide) rfl wl_100 (gx_nz (Or.inr rfl)) eXz18 dX5_forge_47 ?_
    refine gx_iload_n C dX5_forge_50 rfl rfl ?_
    cases h
    exact gx_widen (by omega) (by omega) (gx_iret C dX5_forge_51)
  · rw [if_neg qz10] at h
    refine gx_bipush (v := -2) C dX5_forge_27 (by decide) ?_
    cases h
    exact gx_widen (by omega) (by omega) (gx_iret C dX5_forge_29)
theorem dX5_function_0 : decode cX5_function 0 = .ok (.aload_n 0, 1) := by decide +kernel
theorem dX5_function_1 : decode cX5_function 1 = .ok (.getfield 35, 3) := by decide +kernel
theorem dX5_function_4 : decode cX5_function 4 = .ok (.iload_n 1, 1) := by decide +kernel
theorem dX5_function_5 : decode cX5_function 5 = .ok (.invokevirtual 75, 3) := by decide +kernel
theorem dX5_function_8 : decode cX5_function 8 = .ok (.astore_n 2, 1) := by decide +kernel
theorem dX5_function_9 : decode cX5_function 9 = .ok (.aload_n 2, 1) := by decide +kernel
theorem dX5_function_10 : decode cX5_function 10 = .ok (.ifnonnull 5, 3) := by decide +kernel
theorem dX5_function_13 : decode cX5_function 13 = .ok (.iconst (-1), 1) := by decide +kernel
theorem dX5_function_14 : decode cX5_function 14 = .ok (.ireturn, 1) := by decide +kernel
theorem dX5_function_15 : decode cX5_function 15 = .ok (.aload_n 0, 1) := by decide +kernel
theorem dX5_function_16 : decode cX5_function 16 = .ok (.invokevirtual 64, 3) := by decide +kernel
theorem dX5_function_19 : decode cX5_function 19 = .ok (.aload_n 2, 1) := by decide +kernel
theorem dX5_function_20 : decode cX5_function 20 = .ok (.getfield 79, 3) := by decide +kernel
theorem dX5_function_23 : decode cX5_function 23 = .ok (.ireturn, 1) := by decide +kernel
def gm_X5_function (fu : Nat) (this : Nat) (p_0 : Int32) (X : gx_H) : Option (Int32 × gx_H × Nat × Nat) :=
  (gx_gd X this 5 3).bind fun az1 =>
  gx_ob X az1 3 <|
  gx_b4 (gm_X3_append fu az1 p_0 X) fun oz4 Xz3 cz5 sz5 => gx_ad cz5 sz5 <|
  gx_nl oz4 (
  some ((-1 : Int32), Xz3, 0, 0)) fun az8 =>
  gx_ob Xz3 this 5 <|
  (gm_X5_noteChange fu this Xz3).bind fun Xz10 =>
  (gx_gi Xz10 az8 0 0).bind fun vz11 =>
  some (vz11, Xz10, 0, 0)
set_option maxHeartbeats 1000000 in
set_option maxRecDepth 20000 in
theorem gc_X5_function {l : Launch} {D : gx_D} (fu : Nat) (this : Nat) (p_0 : Int32) (X : gx_H) (r : Int32) (X2 : gx_H) (tc ts : Nat) (h : gm_X5_function fu this p_0 X = some (r, X2, tc, ts)) : gx_M D gz_cl gz_at gz_tb gz_nb l yX5_function cX5_function 3 (some .int) 3 67 [gx_r (some this), gx_i p_0] X (some (gx_i r)) X2 tc ts := by
  unfold gm_X5_function at h
  refine gx_enter [some (gx_r (some this)), some (gx_i p_0), none] rfl (by decide) (Nat.le_of_ble_eq_true rfl) ?_
  intro p e s m below meth c C _
  have h1 : 0 + tc = tc := Nat.zero_add tc
  have h2 : 0 + ts = ts := Nat.zero_add ts
  refine gx_aload_n C dX5_function_0 rfl rfl ?_
  obtain ⟨az1, eaz1, h⟩ := gx_bd h
  refine gx_get C kcX5 3 (by decide) wl_98 (gx_gd_s eaz1) dX5_function_1 ?_
  refine gx_iload_n C dX5_function_4 rfl rfl ?_
  obtain ⟨hoz2, h⟩ := gx_obs h
  obtain ⟨oz4, Xz3, cz5, sz5, eXz3, h⟩ := gx_bd4 h
  obtain ⟨cz6, sz6, h, ecz6, esz6⟩ := gx_add h
  refine gx_callV (As := [gx_i p_0]) (st := []) (stk2 := [gx_r oz4]) C cd_X3_append wl_171 ws_X3_append wl_170 rfl hoz2 (gc_X3_append fu az1 p_0 X oz4 Xz3 cz5 sz5 eXz3) rfl ⟨Nat.le_of_ble_eq_true rfl, Nat.le_of_ble_eq_true rfl⟩ ⟨show 0 + cz5 ≤ tc by omega, show 0 + sz5 ≤ ts by omega⟩ (Nat.le_of_ble_eq_true rfl) rfl rfl dX5_function_5 ?_
  refine gx_astore_n (lv2 := [some (gx_r (some this)), some (gx_i p_0), some (gx_r oz4)]) C dX5_function_8 rfl (by decide) rfl ?_
  refine gx_aload_n C dX5_function_9 rfl rfl ?_
  refine gx_ifnonnull (tgt := 15) C dX5_function_10 (by decide) (fun az8 qz7 => ?_) (fun qz7 => ?_)
  · subst qz7
    have h := gx_nl_s h
    refine gx_aload_n C dX5_function_15 rfl rfl ?_
    obtain ⟨hoz9, h⟩ := gx_obs h
    obtain ⟨Xz10, eXz10, h⟩ := gx_bd h
    refine gx_callV (As := []) (st := []) (stk2 := []) C cd_X5_noteChange wl_159 ws_X5_noteChange wl_157 rfl hoz9 (gc_X5_noteChange fu this Xz3 Xz10 eXz10) rfl ⟨Nat.le_of_ble_eq_true rfl, Nat.le_of_ble_eq_true rfl⟩ ⟨show 0 + cz5 + 0 ≤ tc by omega, show 0 + sz5 + 0 ≤ ts by omega⟩ (Nat.le_of_ble_eq_true rfl) rfl rfl dX5_function_16 ?_
    refine gx_aload_n C dX5_function_19 rfl rfl ?_
    obtain ⟨vz11, evz11, h⟩ := gx_bd h
    refine gx_get C kcX0 0 (by decide) wl_180 (gx_gi_s evz11) dX5_function_20 ?_
    cases h
    exact gx_widen (by omega) (by omega) (gx_iret C dX5_function_23)
  · subst qz7
    have h := gx_nl_n h
    refine gx_iconst (v := -1) C dX5_function_13 (by decide) ?_
    cases h
    exact gx_widen (by omega) (by omega) (gx_iret C dX5_function_14)
theorem dX5_goes_0 : decode cX5_goes 0 = .ok (.aload_n 0, 1) := by decide +kernel
theorem dX5_goes_1 : decode cX5_goes 1 = .ok (.getfield 10, 3) := by decide +kernel
theorem dX5_goes_4 : decode cX5_goes 4 = .ok (.iload_n 1, 1) := by decide +kernel
theorem dX5_goes_5 : decode cX5_goes 5 = .ok (.iload_n 2, 1) := by decide +kernel
theorem dX5_goes_6 : decode cX5_goes 6 = .ok (.iload_n 3, 1) := by decide +kernel
theorem dX5_goes_7 : decode cX5_goes 7 = .ok (.invokevirtual 53, 3) := by decide +kernel
theorem dX5_goes_10 : decode cX5_goes 10 = .ok (.ifCond .eq 20, 3) := by decide +kernel
theorem dX5_goes_13 : decode cX5_goes 13 = .ok (.aload_n 0, 1) := by decide +kernel
theorem dX5_goes_14 : decode cX5_goes 14 = .ok (.getfield 10, 3) := by decide +kernel
theorem dX5_goes_17 : decode cX5_goes 17 = .ok (.iload_n 1, 1) := by decide +kernel
theorem dX5_goes_18 : decode cX5_goes 18 = .ok (.iload_n 2, 1) := by decide +kernel
theorem dX5_goes_19 : decode cX5_goes 19 = .ok (.iload_n 3, 1) := by decide +kernel
theorem dX5_goes_20 : decode cX5_goes 20 = .ok (.invokevirtual 57, 3) := by decide +kernel
theorem dX5_goes_23 : decode cX5_goes 23 = .ok (.ifCond .eq 7, 3) := by decide +kernel
theorem dX5_goes_26 : decode cX5_goes 26 = .ok (.iconst 1, 1) := by decide +kernel
theorem dX5_goes_27 : decode cX5_goes 27 = .ok (.goto 4, 3) := by decide +kernel
theorem dX5_goes_30 : decode cX5_goes 30 = .ok (.iconst 0, 1) := by decide +kernel
theorem dX5_goes_31 : decode cX5_goes 31 = .ok (.ireturn, 1) := by decide +kernel
def gm_X5_goes_30 (fu : Nat)  (X : gx_H) : Option (Int32 × gx_H) :=
  some ((0 : Int32), X)
set_option maxHeartbeats 1000000 in
set_option maxRecDepth 20000 in
theorem gt_X5_goes_30 {p : Program} {l : Launch} {e : Env} {s : State} {m : MethodId} {args : Array Value} {below : List Frame} {meth : Method} {c : Code} {D : gx_D} {r : Int32} {X2 : gx_H}  (C : gx_C D gz_cl gz_at gz_tb gz_nb p s m meth c cX5_goes 4 RX5 (some .boolean)) (fu : Nat)  (X : gx_H) (h : gm_X5_goes_30 fu   X = some (r, X2)) : gx_W D gz_cl 4 p l e (gx_rm 2 45 0 0) s m args below meth c 0 0 (MQ below (gx_Q D gz_cl (some (gx_i r)) X2) args s 0 0 (gx_Z D)) X 30 [none, none, none, none] [] := by
  unfold gm_X5_goes_30 at h
  refine gx_iconst (v := 0) C dX5_goes_30 (by decide) ?_
  cases h
  exact gx_zret (Or.inl rfl) C dX5_goes_31
def gm_X5_goes (fu : Nat) (this : Nat) (p_0 : Int32) (p_1 : Int32) (p_2 : Int32) (X : gx_H) : Option (Int32 × gx_H) :=
  (gx_gd X this 5 0).bind fun az1 =>
  gx_ob X az1 4 <|
  gx_b2 (gm_X4_canBe fu az1 p_0 p_1 p_2 X) fun vz4 Xz3 =>
  if vz4 = 0 then (
  gm_X5_goes_30 fu   Xz3) else (
  (gx_gd Xz3 this 5 0).bind fun az6 =>
  gx_ob Xz3 az6 4 <|
  gx_b2 (gm_X4_hasWay fu az6 p_0 p_1 p_2 Xz3) fun vz9 Xz8 =>
  if vz9 = 0 then (
  gm_X5_goes_30 fu   Xz8) else (
  some ((1 : Int32), Xz8)))
set_option maxHeartbeats 1000000 in
set_option maxRecDepth 20000 in
theorem gc_X5_goes {l : Launch} {D : gx_D} (fu : Nat) (this : Nat) (p_0 : Int32) (p_1 : Int32) (p_2 : Int32) (X : gx_H) (r : Int32) (X2 : gx_H) (h : gm_X5_goes fu this p_0 p_1 p_2 X = some (r, X2)) : gx_M D gz_cl gz_at gz_tb gz_nb l yX5_goes cX5_goes 4 (some .boolean) 2 45 [gx_r (some this), gx_i p_0, gx_i p_1, gx_i p_2] X (some (gx_i r)) X2 0 0 := by
  unfold gm_X5_goes at h
  refine gx_enter [some (gx_r (some this)), some (gx_i p_0), some (gx_i p_1), some (gx_i p_2)] rfl (by decide) (Nat.le_of_ble_eq_true rfl) ?_
  intro p e s m below meth c C _
  refine gx_aload_n C dX5_goes_0 rfl rfl ?_
  obtain ⟨az1, eaz1, h⟩ := gx_bd h
  refine gx_get C kcX5 0 (by decide) wl_95 (gx_gd_s eaz1) dX5_goes_1 ?_
  refine gx_iload_n C dX5_goes_4 rfl rfl ?_
  refine gx_iload_n C dX5_goes_5 rfl rfl ?_
  refine gx_iload_n C dX5_goes_6 rfl rfl ?_
  obtain ⟨hoz2, h⟩ := gx_obs h
  obtain ⟨vz4, Xz3, eXz3, h⟩ := gx_bd2 h
  refine gx_callV (As := [gx_i p_0, gx_i p_1, gx_i p_2]) (st := []) (stk2 := [gx_i vz4]) C cd_X4_canBe wl_131 ws_X4_canBe wl_130 rfl hoz2 (gc_X4_canBe fu az1 p_0 p_1 p_2 X vz4 Xz3 eXz3) rfl ⟨Nat.le_of_ble_eq_true rfl, Nat.le_of_ble_eq_true rfl⟩ ⟨Nat.le_of_ble_eq_true rfl, Nat.le_of_ble_eq_true rfl⟩ (Nat.le_of_ble_eq_true rfl) rfl rfl dX5_goes_7 ?_
  refine gx_if_eq (tgt := 30) C dX5_goes_10 (by decide) (fun qz5 => ?_) (fun qz5 => ?_)
  · rw [if_pos qz5] at h
    refine gx_sub (lv2 := [none, none, none, none]) [false, false, false, false] rfl ?_
    exact gt_X5_goes_30 C fu   Xz3 h
  · rw [if_neg qz5] at h
    refine gx_aload_n C dX5_goes_13 rfl rfl ?_
    obtain ⟨az6, eaz6, h⟩ := gx_bd h
    refine gx_get C kcX5 0 (by decide) wl_95 (gx_gd_s eaz6) dX5_goes_14 ?_
    refine gx_iload_n C dX5_goes_17 rfl rfl ?_
    refine gx_iload_n C dX5_goes_18 rfl rfl ?_
    refine gx_iload_n C dX5_goes_19 rfl rfl ?_
    obtain ⟨hoz7, h⟩ := gx_obs h
    obtain ⟨vz9, Xz8, eXz8, h⟩ := gx_bd2 h
    refine gx_callV (As := [gx_i p_0, gx_i p_1, gx_i p_2]) (st := []) (stk2 := [gx_i vz9]) C cd_X4_hasWay wl_143 ws_X4_hasWay wl_142 rfl hoz7 (gc_X4_hasWay fu az6 p_0 p_1 p_2 Xz3 vz9 Xz8 eXz8) rfl ⟨Nat.le_of_ble_eq_true rfl, Nat.le_of_ble_eq_true rfl⟩ ⟨Nat.le_of_ble_eq_true rfl, Nat.le_of_ble_eq_true rfl⟩ (Nat.le_of_ble_eq_true rfl) rfl rfl dX5_goes_20 ?_
    refine gx_if_eq (tgt := 30) C dX5_goes_23 (by decide) (fun qz10 => ?_) (fun qz10 => ?_)
    · rw [if_pos qz10] at h
      refine gx_sub (lv2 := [none, none, none, none]) [false, false, false, false] rfl ?_
      exact gt_X5_goes_30 C fu   Xz8 h
    · rw [if_neg qz10] at h
      refine gx_iconst (v := 1) C dX5_goes_26 (by decide) ?_
      refine gx_goto (tgt := 31) C dX5_goes_27 (by decide) ?_
      cases h
      exact gx_zret (Or.inr rfl) C dX5_goes_31
