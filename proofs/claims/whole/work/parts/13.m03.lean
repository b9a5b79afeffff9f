/-! methods: X4_needsGuard, X4_lacksGuard, X2_copyInstructions, X3_clear, X2_lackingIn, X3_append, X2_moveTargets, X2_copyWithGuards, X2_countLacking, X2_init, X3_countInstructions, X3_init, X4_addWay, X4_isCall, X4_isState -/
theorem dX4_needsGuard_0 : decode cX4_needsGuard 0 = .ok (.aload_n 1, 1) := by decide +kernel
theorem dX4_needsGuard_1 : decode cX4_needsGuard 1 = .ok (.getfield 43, 3) := by decide +kernel
theorem dX4_needsGuard_4 : decode cX4_needsGuard 4 = .ok (.iload_n 2, 1) := by decide +kernel
theorem dX4_needsGuard_5 : decode cX4_needsGuard 5 = .ok (.iaload, 1) := by decide +kernel
theorem dX4_needsGuard_6 : decode cX4_needsGuard 6 = .ok (.iconst 4, 1) := by decide +kernel
theorem dX4_needsGuard_7 : decode cX4_needsGuard 7 = .ok (.if_icmp .eq 5, 3) := by decide +kernel
theorem dX4_needsGuard_10 : decode cX4_needsGuard 10 = .ok (.iconst 0, 1) := by decide +kernel
theorem dX4_needsGuard_11 : decode cX4_needsGuard 11 = .ok (.ireturn, 1) := by decide +kernel
theorem dX4_needsGuard_12 : decode cX4_needsGuard 12 = .ok (.aload_n 1, 1) := by decide +kernel
theorem dX4_needsGuard_13 : decode cX4_needsGuard 13 = .ok (.getfield 49, 3) := by decide +kernel
theorem dX4_needsGuard_16 : decode cX4_needsGuard 16 = .ok (.iload_n 2, 1) := by decide +kernel
theorem dX4_needsGuard_17 : decode cX4_needsGuard 17 = .ok (.iaload, 1) := by decide +kernel
theorem dX4_needsGuard_18 : decode cX4_needsGuard 18 = .ok (.istore_n 3, 1) := by decide +kernel
theorem dX4_needsGuard_19 : decode cX4_needsGuard 19 = .ok (.aload_n 0, 1) := by decide +kernel
theorem dX4_needsGuard_20 : decode cX4_needsGuard 20 = .ok (.getfield 9, 3) := by decide +kernel
theorem dX4_needsGuard_23 : decode cX4_needsGuard 23 = .ok (.iload_n 3, 1) := by decide +kernel
theorem dX4_needsGuard_24 : decode cX4_needsGuard 24 = .ok (.baload, 1) := by decide +kernel
theorem dX4_needsGuard_25 : decode cX4_needsGuard 25 = .ok (.ifCond .ne 17, 3) := by decide +kernel
theorem dX4_needsGuard_28 : decode cX4_needsGuard 28 = .ok (.aload_n 0, 1) := by decide +kernel
theorem dX4_needsGuard_29 : decode cX4_needsGuard 29 = .ok (.iload_n 3, 1) := by decide +kernel
theorem dX4_needsGuard_30 : decode cX4_needsGuard 30 = .ok (.aload_n 1, 1) := by decide +kernel
theorem dX4_needsGuard_31 : decode cX4_needsGuard 31 = .ok (.getfield 52, 3) := by decide +kernel
theorem dX4_needsGuard_34 : decode cX4_needsGuard 34 = .ok (.iload_n 2, 1) := by decide +kernel
theorem dX4_needsGuard_35 : decode cX4_needsGuard 35 = .ok (.laload, 1) := by decide +kernel
theorem dX4_needsGuard_36 : decode cX4_needsGuard 36 = .ok (.invokevirtual 55, 3) := by decide +kernel
theorem dX4_needsGuard_39 : decode cX4_needsGuard 39 = .ok (.ifCond .eq 7, 3) := by decide +kernel
theorem dX4_needsGuard_42 : decode cX4_needsGuard 42 = .ok (.iconst 1, 1) := by decide +kernel
theorem dX4_needsGuard_43 : decode cX4_needsGuard 43 = .ok (.goto 4, 3) := by decide +kernel
theorem dX4_needsGuard_46 : decode cX4_needsGuard 46 = .ok (.iconst 0, 1) := by decide +kernel
theorem dX4_needsGuard_47 : decode cX4_needsGuard 47 = .ok (.ireturn, 1) := by decide +kernel
def gm_X4_needsGuard_42 (fu : Nat)  (X : gx_H) : Option (Int32 × gx_H) :=
  some ((1 : Int32), X)
set_option maxHeartbeats 1000000 in
set_option maxRecDepth 20000 in
theorem gt_X4_needsGuard_42 {p : Program} {l : Launch} {e : Env} {s : State} {m : MethodId} {args : Array Value} {below : List Frame} {meth : Method} {c : Code} {D : gx_D} {r : Int32} {X2 : gx_H}  (C : gx_C D gz_cl gz_at gz_tb gz_nb p s m meth c cX4_needsGuard 4 RX4 (some .boolean)) (fu : Nat)  (X : gx_H) (h : gm_X4_needsGuard_42 fu   X = some (r, X2)) : gx_W D gz_cl 4 p l e (gx_rm 2 46 0 0) s m args below meth c 0 0 (MQ below (gx_Q D gz_cl (some (gx_i r)) X2) args s 0 0 (gx_Z D)) X 42 [none, none, none, none] [] := by
  unfold gm_X4_needsGuard_42 at h
  refine gx_iconst (v := 1) C dX4_needsGuard_42 (by decide) ?_
  refine gx_goto (tgt := 47) C dX4_needsGuard_43 (by decide) ?_
  cases h
  exact gx_zret (Or.inr rfl) C dX4_needsGuard_47
def gm_X4_needsGuard (fu : Nat) (this : Nat) (a_0 : Nat) (p_1 : Int32) (X : gx_H) : Option (Int32 × gx_H) :=
  (gx_gd X a_0 0 1).bind fun az1 =>
  (gx_gai X az1 0 p_1).bind fun vz2 =>
  if vz2 = (4 : Int32) then (
  (gx_gd X a_0 0 2).bind fun az4 =>
  (gx_gai X az4 0 p_1).bind fun vz5 =>
  (gx_gd X this 4 0).bind fun az6 =>
  (gx_gai X az6 2 vz5).bind fun vz7 =>
  if vz7 = 0 then (
  (gx_gd X a_0 0 8).bind fun az9 =>
  (gx_gal X az9 1 p_1).bind fun vz10 =>
  gx_ob X this 4 <|
  gx_b2 (gm_X4_changesSome fu this vz5 vz10 X) fun vz13 Xz12 =>
  if vz13 = 0 then (
  some ((0 : Int32), Xz12)) else (
  gm_X4_needsGuard_42 fu   Xz12)) else (
  gm_X4_needsGuard_42 fu   X)) else (
  some ((0 : Int32), X))
set_option maxHeartbeats 1000000 in
set_option maxRecDepth 20000 in
theorem gc_X4_needsGuard {l : Launch} {D : gx_D} (fu : Nat) (this : Nat) (a_0 : Nat) (p_1 : Int32) (X : gx_H) (r : Int32) (X2 : gx_H) (h : gm_X4_needsGuard fu this a_0 p_1 X = some (r, X2)) : gx_M D gz_cl gz_at gz_tb gz_nb l yX4_needsGuard cX4_needsGuard 4 (some .boolean) 2 46 [gx_r (some this), gx_r (some a_0), gx_i p_1] X (some (gx_i r)) X2 0 0 := by
  unfold gm_X4_needsGuard at h
  refine gx_enter [some (gx_r (some this)), some (gx_r (some a_0)), some (gx_i p_1), none] rfl (by decide) (Nat.le_of_ble_eq_true rfl) ?_
  intro p e s m below meth c C _
  refine gx_aload_n C dX4_needsGuard_0 rfl rfl ?_
  obtain ⟨az1, eaz1, h⟩ := gx_bd h
  refine gx_get C kcX0 1 (by decide) wl_186 (gx_gd_s eaz1) dX4_needsGuard_1 ?_
  refine gx_iload_n C dX4_needsGuard_4 rfl rfl ?_
  obtain ⟨vz2, evz2, h⟩ := gx_bd h
  refine gx_iald C (t := 0) rfl evz2 dX4_needsGuard_5 ?_
  refine gx_iconst (v := 4) C dX4_needsGuard_6 (by decide) ?_
  refine gx_icmp_eq (tgt := 12) C dX4_needsGuard_7 (by decide) (fun qz3 => ?_) (fun qz3 => ?_)
  · rw [if_pos qz3] at h
    refine gx_aload_n C dX4_needsGuard_12 rfl rfl ?_
    obtain ⟨az4, eaz4, h⟩ := gx_bd h
    refine gx_get C kcX0 2 (by decide) wl_191 (gx_gd_s eaz4) dX4_needsGuard_13 ?_
    refine gx_iload_n C dX4_needsGuard_16 rfl rfl ?_
    obtain ⟨vz5, evz5, h⟩ := gx_bd h
    refine gx_iald C (t := 0) rfl evz5 dX4_needsGuard_17 ?_
    refine gx_istore_n (lv2 := [some (gx_r (some this)), some (gx_r (some a_0)), some (gx_i p_1), some (gx_i vz5)]) C dX4_needsGuard_18 rfl (by decide) rfl ?_
    refine gx_aload_n C dX4_needsGuard_19 rfl rfl ?_
    obtain ⟨az6, eaz6, h⟩ := gx_bd h
    refine gx_get C kcX4 0 (by decide) wl_23 (gx_gd_s eaz6) dX4_needsGuard_20 ?_
    refine gx_iload_n C dX4_needsGuard_23 rfl rfl ?_
    obtain ⟨vz7, evz7, h⟩ := gx_bd h
    refine gx_zald C (t := 2) rfl evz7 dX4_needsGuard_24 ?_
    refine gx_if_ne (tgt := 42) C dX4_needsGuard_25 (by decide) (fun qz8 => ?_) (fun qz8 => ?_)
    · rw [if_neg qz8] at h
      refine gx_sub (lv2 := [none, none, none, none]) [false, false, false, false] rfl ?_
      exact gt_X4_needsGuard_42 C fu   X h
    · rw [if_pos qz8] at h
      refine gx_aload_n C dX4_needsGuard_28 rfl rfl ?_
      refine gx_iload_n C dX4_needsGuard_29 rfl rfl ?_
      refine gx_aload_n C dX4_needsGuard_30 rfl rfl ?_
      obtain ⟨az9, eaz9, h⟩ := gx_bd h
      refine gx_get C kcX0 8 (by decide) wl_216 (gx_gd_s eaz9) dX4_needsGuard_31 ?_
      refine gx_iload_n C dX4_needsGuard_34 rfl rfl ?_
      obtain ⟨vz10, evz10, h⟩ := gx_bd h
      refine gx_lald C (t := 1) rfl evz10 dX4_needsGuard_35 ?_
      obtain ⟨hoz11, h⟩ := gx_obs h
      obtain ⟨vz13, Xz12, eXz12, h⟩ := gx_bd2 h
      refine gx_callV (As := [gx_i vz5, gx_l vz10]) (st := []) (stk2 := [gx_i vz13]) C cd_X4_changesSome wl_392 ws_X4_changesSome wl_390 rfl hoz11 (gc_X4_changesSome fu this vz5 vz10 X vz13 Xz12 eXz12) rfl ⟨Nat.le_of_ble_eq_true rfl, Nat.le_of_ble_eq_true rfl⟩ ⟨Nat.le_of_ble_eq_true rfl, Nat.le_of_ble_eq_true rfl⟩ (Nat.le_of_ble_eq_true rfl) rfl rfl dX4_needsGuard_36 ?_
      refine gx_if_eq (tgt := 46) C dX4_needsGuard_39 (by decide) (fun qz14 => ?_) (fun qz14 => ?_)
      · rw [if_pos qz14] at h
        refine gx_iconst (v := 0) C dX4_needsGuard_46 (by decide) ?_
        cases h
        exact gx_zret (Or.inl rfl) C dX4_needsGuard_47
      · rw [if_neg qz14] at h
        refine gx_sub (lv2 := [none, none, none, none]) [false, false, false, false] rfl ?_
        exact gt_X4_needsGuard_42 C fu   Xz12 h
  · rw [if_neg qz3] at h
    refine gx_iconst (v := 0) C dX4_needsGuard_10 (by decide) ?_
    cases h
    exact gx_zret (Or.inl rfl) C dX4_needsGuard_11
theorem dX4_lacksGuard_0 : decode cX4_lacksGuard 0 = .ok (.aload_n 0, 1) := by decide +kernel
theorem dX4_lacksGuard_1 : decode cX4_lacksGuard 1 = .ok (.aload_n 1, 1) := by decide +kernel
theorem dX4_lacksGuard_2 : decode cX4_lacksGuard 2 = .ok (.iload_n 2, 1) := by decide +kernel
theorem dX4_lacksGuard_3 : decode cX4_lacksGuard 3 = .ok (.invokevirtual 59, 3) := by decide +kernel
theorem dX4_lacksGuard_6 : decode cX4_lacksGuard 6 = .ok (.ifCond .eq 15, 3) := by decide +kernel
theorem dX4_lacksGuard_9 : decode cX4_lacksGuard 9 = .ok (.aload_n 1, 1) := by decide +kernel
theorem dX4_lacksGuard_10 : decode cX4_lacksGuard 10 = .ok (.iload_n 2, 1) := by decide +kernel
theorem dX4_lacksGuard_11 : decode cX4_lacksGuard 11 = .ok (.invokevirtual 63, 3) := by decide +kernel
theorem dX4_lacksGuard_14 : decode cX4_lacksGuard 14 = .ok (.ifCond .ne 7, 3) := by decide +kernel
theorem dX4_lacksGuard_17 : decode cX4_lacksGuard 17 = .ok (.iconst 1, 1) := by decide +kernel
theorem dX4_lacksGuard_18 : decode cX4_lacksGuard 18 = .ok (.goto 4, 3) := by decide +kernel
theorem dX4_lacksGuard_21 : decode cX4_lacksGuard 21 = .ok (.iconst 0, 1) := by decide +kernel
theorem dX4_lacksGuard_22 : decode cX4_lacksGuard 22 = .ok (.ireturn, 1) := by decide +kernel
def gm_X4_lacksGuard_21 (fu : Nat)  (X : gx_H) : Option (Int32 × gx_H) :=
  some ((0 : Int32), X)
set_option maxHeartbeats 1000000 in
set_option maxRecDepth 20000 in
theorem gt_X4_lacksGuard_21 {p : Program} {l : Launch} {e : Env} {s : State} {m : MethodId} {args : Array Value} {below : List Frame} {meth : Method} {c : Code} {D : gx_D} {r : Int32} {X2 : gx_H}  (C : gx_C D gz_cl gz_at gz_tb gz_nb p s m meth c cX4_lacksGuard 3 RX4 (some .boolean)) (fu : Nat)  (X : gx_H) (h : gm_X4_lacksGuard_21 fu   X = some (r, X2)) : gx_W D gz_cl 3 p l e (gx_rm 3 69 0 0) s m args below meth c 0 0 (MQ below (gx_Q D gz_cl (some (gx_i r)) X2) args s 0 0 (gx_Z D)) X 21 [none, none, none] [] := by
  unfold gm_X4_lacksGuard_21 at h
  refine gx_iconst (v := 0) C dX4_lacksGuard_21 (by decide) ?_
  cases h
  exact gx_zret (Or.inl rfl) C dX4_lacksGuard_22
def gm_X4_lacksGuard (fu : Nat) (this : Nat) (a_0 : Nat) (p_1 : Int32) (X : gx_H) : Option (Int32 × gx_H) :=
  gx_ob X this 4 <|
  gx_b2 (gm_X4_needsGuard fu this a_0 p_1 X) fun vz3 Xz2 =>
  if vz3 = 0 then (
  gm_X4_lacksGuard_21 fu   Xz2) else (
  gx_ob Xz2 a_0 0 <|
  gx_b2 (gm_X0_isGuarded fu a_0 p_1 Xz2) fun vz7 Xz6 =>
  if vz7 = 0 then (
  some ((1 : Int32), Xz6)) else (
  gm_X4_lacksGuard_21 fu   Xz6))
set_option maxHeartbeats 1000000 in
set_option maxRecDepth 20000 in
theorem gc_X4_lacksGuard {l : Launch} {D : gx_D} (fu : Nat) (this : Nat) (a_0 : Nat) (p_1 : Int32) (X : gx_H) (r : Int32) (X2 : gx_H) (h : gm_X4_lacksGuard fu this a_0 p_1 X = some (r, X2)) : gx_M D gz_cl gz_at gz_tb gz_nb l yX4_lacksGuard cX4_lacksGuard 3 (some .boolean) 3 69 [gx_r (some this), gx_r (some a_0), gx_i p_1] X (some (gx_i r)) X2 0 0 := by
  unfold gm_X4_lacksGuard at h
  refine gx_enter [some (gx_r (some this)), some (gx_r (some a_0)), some (gx_i p_1)] rfl (by decide) (Nat.le_of_ble_eq_true rfl) ?_
  intro p e s m below meth c C _
  refine gx_aload_n C dX4_lacksGuard_0 rfl rfl ?_
  refine gx_aload_n C dX4_lacksGuard_1 rfl rfl ?_
  refine gx_iload_n C dX4_lacksGuard_2 rfl rfl ?_
  obtain ⟨hoz1, h⟩ := gx_obs h
  obtain ⟨vz3, Xz2, eXz2, h⟩ := gx_bd2 h
  refine gx_callV (As := [gx_r (some a_0), gx_i p_1]) (st := []) (stk2 := [gx_i vz3]) C cd_X4_needsGuard wl_387 ws_X4_needsGuard wl_386 rfl hoz1 (gc_X4_needsGuard fu this a_0 p_1 X vz3 Xz2 eXz2) rfl ⟨Nat.le_of_ble_eq_true rfl, Nat.le_of_ble_eq_true rfl⟩ ⟨Nat.le_of_ble_eq_true rfl, Nat.le_of_ble_eq_true rfl⟩ (Nat.le_of_ble_eq_true rfl) rfl rfl dX4_lacksGuard_3 ?_
  refine gx_if_eq (tgt := 21) C dX4_lacksGuard_6 (by decide) (fun qz4 => ?_) (fun qz4 => ?_)
  · rw [if_pos qz4] at h
    refine gx_sub (lv2 := [none, none, none]) [false, false, false] rfl ?_
    exact gt_X4_lacksGuard_21 C fu   Xz2 h
  · rw [if_neg qz4] at h
    refine gx_aload_n C dX4_lacksGuard_9 rfl rfl ?_
    refine gx_iload_n C dX4_lacksGuard_10 rfl rfl ?_
    obtain ⟨hoz5, h⟩ := gx_obs h
    obtain ⟨vz7, Xz6, eXz6, h⟩ := gx_bd2 h
    refine gx_callV (As := [gx_i p_1]) (st := []) (stk2 := [gx_i vz7]) C cd_X0_isGuarded wl_349 ws_X0_isGuarded wl_394 rfl hoz5 (gc_X0_isGuarded fu a_0 p_1 Xz2 vz7 Xz6 eXz6) rfl ⟨Nat.le_of_ble_eq_true rfl, Nat.le_of_ble_eq_true rfl⟩ ⟨Nat.le_of_ble_eq_true rfl, Nat.le_of_ble_eq_true rfl⟩ (Nat.le_of_ble_eq_true rfl) rfl rfl dX4_lacksGuard_11 ?_
    refine gx_if_ne (tgt := 21) C dX4_lacksGuard_14 (by decide) (fun qz8 => ?_) (fun qz8 => ?_)
    · rw [if_neg qz8] at h
      refine gx_sub (lv2 := [none, none, none]) [false, false, false] rfl ?_
      exact gt_X4_lacksGuard_21 C fu   Xz6 h
    · rw [if_pos qz8] at h
      refine gx_iconst (v := 1) C dX4_lacksGuard_17 (by decide) ?_
      refine gx_goto (tgt := 22) C dX4_lacksGuard_18 (by decide) ?_
      cases h
      exact gx_zret (Or.inr rfl) C dX4_lacksGuard_22
theorem dX2_copyInstructions_0 : decode cX2_copyInstructions 0 = .ok (.iconst 0, 1) := by decide +kernel
theorem dX2_copyInstructions_1 : decode cX2_copyInstructions 1 = .ok (.istore_n 3, 1) := by decide +kernel
theorem dX2_copyInstructions_2 : decode cX2_copyInstructions 2 = .ok (.iconst 0, 1) := by decide +kernel
theorem dX2_copyInstructions_3 : decode cX2_copyInstructions 3 = .ok (.istore 4, 2) := by decide +kernel
theorem dX2_copyInstructions_5 : decode cX2_copyInstructions 5 = .ok (.iload 4, 2) := by decide +kernel
theorem dX2_copyInstructions_7 : decode cX2_copyInstructions 7 = .ok (.aload_n 1, 1) := by decide +kernel
theorem dX2_copyInstructions_8 : decode cX2_copyInstructions 8 = .ok (.getfield 29, 3) := by decide +kernel
theorem dX2_copyInstructions_11 : decode cX2_copyInstructions 11 = .ok (.if_icmp .ge 68, 3) := by decide +kernel
theorem dX2_copyInstructions_14 : decode cX2_copyInstructions 14 = .ok (.aload_n 0, 1) := by decide +kernel
theorem dX2_copyInstructions_15 : decode cX2_copyInstructions 15 = .ok (.getfield 9, 3) := by decide +kernel
theorem dX2_copyInstructions_18 : decode cX2_copyInstructions 18 = .ok (.iload 4, 2) := by decide +kernel
theorem dX2_copyInstructions_20 : decode cX2_copyInstructions 20 = .ok (.iload_n 3, 1) := by decide +kernel
theorem dX2_copyInstructions_21 : decode cX2_copyInstructions 21 = .ok (.iastore, 1) := by decide +kernel
theorem dX2_copyInstructions_22 : decode cX2_copyInstructions 22 = .ok (.aload_n 0, 1) := by decide +kernel
theorem dX2_copyInstructions_23 : decode cX2_copyInstructions 23 = .ok (.getfield 15, 3) := by decide +kernel
theorem dX2_copyInstructions_26 : decode cX2_copyInstructions 26 = .ok (.aload_n 1, 1) := by decide +kernel
theorem dX2_copyInstructions_27 : decode cX2_copyInstructions 27 = .ok (.iload 4, 2) := by decide +kernel
theorem dX2_copyInstructions_29 : decode cX2_copyInstructions 29 = .ok (.invokevirtual 35, 3) := by decide +kernel
theorem dX2_copyInstructions_32 : decode cX2_copyInstructions 32 = .ok (.ifCond .eq 19, 3) := by decide +kernel
theorem dX2_copyInstructions_35 : decode cX2_copyInstructions 35 = .ok (.aload_n 2, 1) := by decide +kernel
theorem dX2_copyInstructions_36 : decode cX2_copyInstructions 36 = .ok (.iload_n 3, 1) := by decide +kernel
theorem dX2_copyInstructions_37 : decode cX2_copyInstructions 37 = .ok (.iconst 5, 1) := by decide +kernel
theorem dX2_copyInstructions_38 : decode cX2_copyInstructions 38 = .ok (.aload_n 1, 1) := by decide +kernel
theorem dX2_copyInstructions_39 : decode cX2_copyInstructions 39 = .ok (.getfield 58, 3) := by decide +kernel
theorem dX2_copyInstructions_42 : decode cX2_copyInstructions 42 = .ok (.iload 4, 2) := by decide +kernel
theorem dX2_copyInstructions_44 : decode cX2_copyInstructions 44 = .ok (.iaload, 1) := by decide +kernel
theorem dX2_copyInstructions_45 : decode cX2_copyInstructions 45 = .ok (.invokevirtual 61, 3) := by decide +kernel
theorem dX2_copyInstructions_48 : decode cX2_copyInstructions 48 = .ok (.iinc 3 1, 3) := by decide +kernel
theorem dX2_copyInstructions_51 : decode cX2_copyInstructions 51 = .ok (.aload_n 2, 1) := by decide +kernel
theorem dX2_copyInstructions_52 : decode cX2_copyInstructions 52 = .ok (.iload_n 3, 1) := by decide +kernel
theorem dX2_copyInstructions_53 : decode cX2_copyInstructions 53 = .ok (.aload_n 1, 1) := by decide +kernel
theorem dX2_copyInstructions_54 : decode cX2_copyInstructions 54 = .ok (.getfield 65, 3) := by decide +kernel
theorem dX2_copyInstructions_57 : decode cX2_copyInstructions 57 = .ok (.iload 4, 2) := by decide +kernel
theorem dX2_copyInstructions_59 : decode cX2_copyInstructions 59 = .ok (.iaload, 1) := by decide +kernel
theorem dX2_copyInstructions_60 : decode cX2_copyInstructions 60 = .ok (.aload_n 1, 1) := by decide +kernel
theorem dX2_copyInstructions_61 : decode cX2_copyInstructions 61 = .ok (.getfield 58, 3) := by decide +kernel
theorem dX2_copyInstructions_64 : decode cX2_copyInstructions 64 = .ok (.iload 4, 2) := by decide +kernel
theorem dX2_copyInstructions_66 : decode cX2_copyInstructions 66 = .ok (.iaload, 1) := by decide +kernel
theorem dX2_copyInstructions_67 : decode cX2_copyInstructions 67 = .ok (.invokevirtual 61, 3) := by decide +kernel
theorem dX2_copyInstructions_70 : decode cX2_copyInstructions 70 = .ok (.iinc 3 1, 3) := by decide +kernel
theorem dX2_copyInstructions_73 : decode cX2_copyInstructions 73 = .ok (.iinc 4 1, 3) := by decide +kernel
theorem dX2_copyInstructions_76 : decode cX2_copyInstructions 76 = .ok (.goto (-71), 3) := by decide +kernel
theorem dX2_copyInstructions_79 : decode cX2_copyInstructions 79 = .ok (.aload_n 0, 1) := by decide +kernel
theorem dX2_copyInstructions_80 : decode cX2_copyInstructions 80 = .ok (.getfield 9, 3) := by decide +kernel
theorem dX2_copyInstructions_83 : decode cX2_copyInstructions 83 = .ok (.aload_n 1, 1) := by decide +kernel
theorem dX2_copyInstructions_84 : decode cX2_copyInstructions 84 = .ok (.getfield 29, 3) := by decide +kernel
theorem dX2_copyInstructions_87 : decode cX2_copyInstructions 87 = .ok (.iload_n 3, 1) := by decide +kernel
theorem dX2_copyInstructions_88 : decode cX2_copyInstructions 88 = .ok (.iastore, 1) := by decide +kernel
theorem dX2_copyInstructions_89 : decode cX2_copyInstructions 89 = .ok (.return_, 1) := by decide +kernel
def gm_X2_copyInstructions_51 (fu : Nat) (K5 : Nat → Nat → Nat → Int32 → Int32 → gx_H → Option gx_H) (a0 : Nat) (a1 : Nat) (a2 : Nat) (x3 : Int32) (x4 : Int32) (X : gx_H) : Option gx_H :=
  (gx_gd X a1 0 1).bind fun az1 =>
  (gx_gai X az1 0 x4).bind fun vz2 =>
  (gx_gd X a1 0 2).bind fun az3 =>
  (gx_gai X az3 0 x4).bind fun vz4 =>
  gx_ob X a2 0 <|
  (gm_X0_put fu a2 x3 vz2 vz4 X).bind fun Xz6 =>
  K5 a0 a1 a2 (x3 + 1) (x4 + 1) Xz6
set_option maxHeartbeats 1000000 in
set_option maxRecDepth 20000 in
theorem gt_X2_copyInstructions_51 {p : Program} {l : Launch} {e : Env} {s : State} {m : MethodId} {args : Array Value} {below : List Frame} {meth : Method} {c : Code} {D : gx_D} {X2 : gx_H}  (C : gx_C D gz_cl gz_at gz_tb gz_nb p s m meth c cX2_copyInstructions 5 RX2 none) (fu : Nat) (K5 : Nat → Nat → Nat → Int32 → Int32 → gx_H → Option gx_H) (hK5 : ∀ (a0 : Nat) (a1 : Nat) (a2 : Nat) (x3 : Int32) (x4 : Int32) (X : gx_H), K5 a0 a1 a2 x3 x4 X = some X2 → gx_W D gz_cl 5 p l e (gx_rm 4 91 0 0) s m args below meth c 0 0 (MQ below (gx_Q D gz_cl none X2) args s 0 0 (gx_Z D)) X 5 [some (gx_r (some a0)), some (gx_r (some a1)), some (gx_r (some a2)), some (gx_i x3), some (gx_i x4)] []) (a0 : Nat) (a1 : Nat) (a2 : Nat) (x3 : Int32) (x4 : Int32) (X : gx_H) (h : gm_X2_copyInstructions_51 fu K5 a0 a1 a2 x3 x4 X = some X2) : gx_W D gz_cl 5 p l e (gx_rm 4 91 0 0) s m args below meth c 0 0 (MQ below (gx_Q D gz_cl none X2) args s 0 0 (gx_Z D)) X 51 [some (gx_r (some a0)), some (gx_r (some a1)), some (gx_r (some a2)), some (gx_i x3), some (gx_i x4)] [] := by
  unfold gm_X2_copyInstructions_51 at h
  refine gx_aload_n C dX2_copyInstructions_51 rfl rfl ?_
  refine gx_iload_n C dX2_copyInstructions_52 rfl rfl ?_
  refine gx_aload_n C dX2_copyInstructions_53 rfl rfl ?_
  obtain ⟨az1, eaz1, h⟩ := gx_bd h
  refine gx_get C kcX0 1 (by decide) wl_184 (gx_gd_s eaz1) dX2_copyInstructions_54 ?_
  refine gx_iload C dX2_copyInstructions_57 rfl ?_
  obtain ⟨vz2, evz2, h⟩ := gx_bd h
  refine gx_iald C (t := 0) rfl evz2 dX2_copyInstructions_59 ?_
  refine gx_aload_n C dX2_copyInstructions_60 rfl rfl ?_
  obtain ⟨az3, eaz3, h⟩ := gx_bd h
  refine gx_get C kcX0 2 (by decide) wl_189 (gx_gd_s eaz3) dX2_copyInstructions_61 ?_
  refine gx_iload C dX2_copyInstructions_64 rfl ?_
  obtain ⟨vz4, evz4, h⟩ := gx_bd h
  refine gx_iald C (t := 0) rfl evz4 dX2_copyInstructions_66 ?_
  obtain ⟨hoz5, h⟩ := gx_obs h
  obtain ⟨Xz6, eXz6, h⟩ := gx_bd h
  refine gx_callV (As := [gx_i x3, gx_i vz2, gx_i vz4]) (st := []) (stk2 := []) C cd_X0_put wl_267 ws_X0_put wl_405 rfl hoz5 (gc_X0_put fu a2 x3 vz2 vz4 X Xz6 eXz6) rfl ⟨Nat.le_of_ble_eq_true rfl, Nat.le_of_ble_eq_true rfl⟩ ⟨Nat.le_of_ble_eq_true rfl, Nat.le_of_ble_eq_true rfl⟩ (Nat.le_of_ble_eq_true rfl) rfl rfl dX2_copyInstructions_67 ?_
  refine gx_iinc (v := (x3 + 1)) (lv2 := [some (gx_r (some a0)), some (gx_r (some a1)), some (gx_r (some a2)), some (gx_i (x3 + 1)), some (gx_i x4)]) C dX2_copyInstructions_70 rfl rfl (by decide) rfl ?_
  refine gx_iinc (v := (x4 + 1)) (lv2 := [some (gx_r (some a0)), some (gx_r (some a1)), some (gx_r (some a2)), some (gx_i (x3 + 1)), some (gx_i (x4 + 1))]) C dX2_copyInstructions_73 rfl rfl (by decide) rfl ?_
  refine gx_goto (tgt := 5) C dX2_copyInstructions_76 (by decide) ?_
  exact hK5 a0 a1 a2 (x3 + 1) (x4 + 1) Xz6 h
def gm_X2_copyInstructions_5 (fu : Nat) : Nat → Nat → Nat → Nat → Int32 → Int32 → gx_H → Option gx_H
  | 0, _, _, _, _, _, _ => none
  | n + 1, a0, a1, a2, x3, x4, X =>
    (gx_gi X a1 0 6).bind fun vz7 =>
    if vz7 ≤ x4 then (
    (gx_gd X a0 2 1).bind fun az9 =>
    (gx_gi X a1 0 6).bind fun vz10 =>
    (gx_pai X az9 0 vz10 x3).bind fun Xz11 =>
    some Xz11) else (
    (gx_gd X a0 2 1).bind fun az12 =>
    (gx_pai X az12 0 x4 x3).bind fun Xz13 =>
    (gx_gd Xz13 a0 2 0).bind fun az14 =>
    gx_ob Xz13 az14 4 <|
    gx_b2 (gm_X4_lacksGuard fu az14 a1 x4 Xz13) fun vz17 Xz16 =>
    if vz17 = 0 then (
    gm_X2_copyInstructions_51 fu (gm_X2_copyInstructions_5 fu  n) a0 a1 a2 x3 x4 Xz16) else (
    (gx_gd Xz16 a1 0 2).bind fun az19 =>
    (gx_gai Xz16 az19 0 x4).bind fun vz20 =>
    gx_ob Xz16 a2 0 <|
    (gm_X0_put fu a2 x3 (5 : Int32) vz20 Xz16).bind fun Xz22 =>
    gm_X2_copyInstructions_51 fu (gm_X2_copyInstructions_5 fu  n) a0 a1 a2 (x3 + 1) x4 Xz22))
set_option maxHeartbeats 1000000 in
set_option maxRecDepth 20000 in
theorem gt_X2_copyInstructions_5 {p : Program} {l : Launch} {e : Env} {s : State} {m : MethodId} {args : Array Value} {below : List Frame} {meth : Method} {c : Code} {D : gx_D} {X2 : gx_H}  (C : gx_C D gz_cl gz_at gz_tb gz_nb p s m meth c cX2_copyInstructions 5 RX2 none) (fu : Nat) : ∀ (n : Nat) (a0 : Nat) (a1 : Nat) (a2 : Nat) (x3 : Int32) (x4 : Int32) (X : gx_H) , gm_X2_copyInstructions_5 fu  n a0 a1 a2 x3 x4 X = some X2 → gx_W D gz_cl 5 p l e (gx_rm 4 91 0 0) s m args below meth c 0 0 (MQ below (gx_Q D gz_cl none X2) args s 0 0 (gx_Z D)) X 5 [some (gx_r (some a0)), some (gx_r (some a1)), some (gx_r (some a2)), some (gx_i x3), some (gx_i x4)] [] := by
  intro n
  induction n with
  | zero =>
    intro a0 a1 a2 x3 x4 X h
    have h : none = some _ := h
    cases h
  | succ n ih =>
    intro a0 a1 a2 x3 x4 X h
    rw [gm_X2_copyInstructions_5] at h
    refine gx_iload C dX2_copyInstructions_5 rfl ?_
    refine gx_aload_n C dX2_copyInstructions_7 rfl rfl ?_
    obtain ⟨vz7, evz7, h⟩ := gx_bd h
    refine gx_get C kcX0 6 (by decide) wl_205 (gx_gi_s evz7) dX2_copyInstructions_8 ?_
    refine gx_icmp_ge (tgt := 79) C dX2_copyInstructions_11 (by decide) (fun qz8 => ?_) (fun qz8 => ?_)
    · rw [if_pos qz8] at h
      refine gx_aload_n C dX2_copyInstructions_79 rfl rfl ?_
      obtain ⟨az9, eaz9, h⟩ := gx_bd h
      refine gx_get C kcX2 1 (by decide) wl_68 (gx_gd_s eaz9) dX2_copyInstructions_80 ?_
      refine gx_aload_n C dX2_copyInstructions_83 rfl rfl ?_
      obtain ⟨vz10, evz10, h⟩ := gx_bd h
      refine gx_get C kcX0 6 (by decide) wl_205 (gx_gi_s evz10) dX2_copyInstructions_84 ?_
      refine gx_iload_n C dX2_copyInstructions_87 rfl rfl ?_
      obtain ⟨Xz11, eXz11, h⟩ := gx_bd h
      refine gx_iast C (t := 0) rfl eXz11 dX2_copyInstructions_88 ?_
      cases h
      exact gx_vret C dX2_copyInstructions_89
    · rw [if_neg qz8] at h
      refine gx_aload_n C dX2_copyInstructions_14 rfl rfl ?_
      obtain ⟨az12, eaz12, h⟩ := gx_bd h
      refine gx_get C kcX2 1 (by decide) wl_68 (gx_gd_s eaz12) dX2_copyInstructions_15 ?_
      refine gx_iload C dX2_copyInstructions_18 rfl ?_
      refine gx_iload_n C dX2_copyInstructions_20 rfl rfl ?_
      obtain ⟨Xz13, eXz13, h⟩ := gx_bd h
      refine gx_iast C (t := 0) rfl eXz13 dX2_copyInstructions_21 ?_
      refine gx_aload_n C dX2_copyInstructions_22 rfl rfl ?_
      obtain ⟨az14, eaz14, h⟩ := gx_bd h
      refine gx_get C kcX2 0 (by decide) wl_67 (gx_gd_s eaz14) dX2_copyInstructions_23 ?_
      refine gx_aload_n C dX2_copyInstructions_26 rfl rfl ?_
      refine gx_iload C dX2_copyInstructions_27 rfl ?_
      obtain ⟨hoz15, h⟩ := gx_obs h
      obtain ⟨vz17, Xz16, eXz16, h⟩ := gx_bd2 h
      refine gx_callV (As := [gx_r (some a1), gx_i x4]) (st := []) (stk2 := [gx_i vz17]) C cd_X4_lacksGuard wl_383 ws_X4_lacksGuard wl_382 rfl hoz15 (gc_X4_lacksGuard fu az14 a1 x4 Xz13 vz17 Xz16 eXz16) rfl ⟨Nat.le_of_ble_eq_true rfl, Nat.le_of_ble_eq_true rfl⟩ ⟨Nat.le_of_ble_eq_true rfl, Nat.le_of_ble_eq_true rfl⟩ (Nat.le_of_ble_eq_true rfl) rfl rfl dX2_copyInstructions_29 ?_
      refine gx_if_eq (tgt := 51) C dX2_copyInstructions_32 (by decide) (fun qz18 => ?_) (fun qz18 => ?_)
      · rw [if_pos qz18] at h
        exact gt_X2_copyInstructions_51 C fu (gm_X2_copyInstructions_5 fu  n) ih a0 a1 a2 x3 x4 Xz16 h
      · rw [if_neg qz18] at h
        refine gx_aload_n C dX2_copyInstructions_35 rfl rfl ?_
        refine gx_iload_n C dX2_copyInstructions_36 rfl rfl ?_
        refine gx_iconst (v := 5) C dX2_copyInstructions_37 (by decide) ?_
        refine gx_aload_n C dX2_copyInstructions_38 rfl rfl ?_
        obtain ⟨az19, eaz19, h⟩ := gx_bd h
        refine gx_get C kcX0 2 (by decide) wl_189 (gx_gd_s eaz19) dX2_copyInstructions_39 ?_
        refine gx_iload C dX2_copyInstructions_42 rfl ?_
        obtain ⟨vz20, evz20, h⟩ := gx_bd h
        refine gx_iald C (t := 0) rfl evz20 dX2_copyInstructions_44 ?_
        obtain ⟨hoz21, h⟩ := gx_obs h
        obtain ⟨Xz22, eXz22, h⟩ := gx_bd h
        refine gx_callV (As := [gx_i x3, gx_i (5 : Int32), gx_i vz20]) (st := []) (stk2 := []) C cd_X0_put wl_267 ws_X0_put wl_405 rfl hoz21 (gc_X0_put fu a2 x3 (5 : Int32) vz20 Xz16 Xz22 eXz22) rfl ⟨Nat.le_of_ble_eq_true rfl, Nat.le_of_ble_eq_true rfl⟩ ⟨Nat.le_of_ble_eq_true rfl, Nat.le_of_ble_eq_true rfl⟩ (Nat.le_of_ble_eq_true rfl) rfl rfl dX2_copyInstructions_45 ?_
        refine gx_iinc (v := (x3 + 1)) (lv2 := [some (gx_r (some a0)), some (gx_r (some a1)), some (gx_r (some a2)), some (gx_i (x3 + 1)), some (gx_i x4)]) C dX2_copyInstructions_48 rfl rfl (by decide) rfl ?_
        exact gt_X2_copyInstructions_51 C fu (gm_X2_copyInstructions_5 fu  n) ih a0 a1 a2 (x3 + 1) x4 Xz22 h
def gm_X2_copyInstructions (fu : Nat) (this : Nat) (a_0 : Nat) (a_1 : Nat) (X : gx_H) : Option gx_H :=
  gm_X2_copyInstructions_5 fu  fu this a_0 a_1 (0 : Int32) (0 : Int32) X
set_option maxHeartbeats 1000000 in
set_option maxRecDepth 20000 in
theorem gc_X2_copyInstructions {l : Launch} {D : gx_D} (fu : Nat) (this : Nat) (a_0 : Nat) (a_1 : Nat) (X : gx_H) (X2 : gx_H) (h : gm_X2_copyInstructions fu this a_0 a_1 X = some X2) : gx_M D gz_cl gz_at gz_tb gz_nb l yX2_copyInstructions cX2_copyInstructions 5 none 4 91 [gx_r (some this), gx_r (some a_0), gx_r (some a_1)] X none X2 0 0 := by
  unfold gm_X2_copyInstructions at h
  refine gx_enter [some (gx_r (some this)), some (gx_r (some a_0)), some (gx_r (some a_1)), none, none] rfl (by decide) (Nat.le_of_ble_eq_true rfl) ?_
  intro p e s m below meth c C _
  refine gx_iconst (v := 0) C dX2_copyInstructions_0 (by decide) ?_
  refine gx_istore_n (lv2 := [some (gx_r (some this)), some (gx_r (some a_0)), some (gx_r (some a_1)), some (gx_i (0 : Int32)), none]) C dX2_copyInstructions_1 rfl (by decide) rfl ?_
  refine gx_iconst (v := 0) C dX2_copyInstructions_2 (by decide) ?_
  refine gx_istore (lv2 := [some (gx_r (some this)), some (gx_r (some a_0)), some (gx_r (some a_1)), some (gx_i (0 : Int32)), some (gx_i (0 : Int32))]) C dX2_copyInstructions_3 (by decide) rfl ?_
  exact gt_X2_copyInstructions_5 C fu  fu this a_0 a_1 (0 : Int32) (0 : Int32) X h
theorem dX3_clear_0 : decode cX3_clear 0 = .ok (.aload_n 0, 1) := by decide +kernel
theorem dX3_clear_1 : decode cX3_clear 1 = .ok (.iconst 0, 1) := by decide +kernel
theorem dX3_clear_2 : decode cX3_clear 2 = .ok (.putfield 17, 3) := by decide +kernel
theorem dX3_clear_5 : decode cX3_clear 5 = .ok (.aload_n 0, 1) := by decide +kernel
theorem dX3_clear_6 : decode cX3_clear 6 = .ok (.iconst 0, 1) := by decide +kernel
theorem dX3_clear_7 : decode cX3_clear 7 = .ok (.putfield 21, 3) := by decide +kernel
theorem dX3_clear_10 : decode cX3_clear 10 = .ok (.return_, 1) := by decide +kernel
def gm_X3_clear (fu : Nat) (this : Nat) (X : gx_H) : Option gx_H :=
  (gx_pf X this 3 1 (.int (0 : Int32))).bind fun Xz1 =>
  (gx_pf Xz1 this 3 2 (.int (0 : Int32))).bind fun Xz2 =>
  some Xz2
set_option maxHeartbeats 1000000 in
set_option maxRecDepth 20000 in
theorem gc_X3_clear {l : Launch} {D : gx_D} (fu : Nat) (this : Nat) (X : gx_H) (X2 : gx_H) (h : gm_X3_clear fu this X = some X2) : gx_M D gz_cl gz_at gz_tb gz_nb l yX3_clear cX3_clear 1 none 0 0 [gx_r (some this)] X none X2 0 0 := by
  unfold gm_X3_clear at h
  refine gx_enter [some (gx_r (some this))] rfl (by decide) (Nat.le_of_ble_eq_true rfl) ?_
  intro p e s m below meth c C _
  refine gx_aload_n C dX3_clear_0 rfl rfl ?_
  refine gx_iconst (v := 0) C dX3_clear_1 (by decide) ?_
  obtain ⟨Xz1, eXz1, h⟩ := gx_bd h
  refine gx_put C kcX3 1 (by decide) rfl wl_83 ⟨rfl, rfl⟩ eXz1 dX3_clear_2 ?_
  refine gx_aload_n C dX3_clear_5 rfl rfl ?_
  refine gx_iconst (v := 0) C dX3_clear_6 (by decide) ?_
  obtain ⟨Xz2, eXz2, h⟩ := gx_bd h
  refine gx_put C kcX3 2 (by decide) rfl wl_86 (gx_nz (Or.inl rfl)) eXz2 dX3_clear_7 ?_
  cases h
  exact gx_vret C dX3_clear_10
theorem dX2_lackingIn_0 : decode cX2_lackingIn 0 = .ok (.iconst 0, 1) := by decide +kernel
theorem dX2_lackingIn_1 : decode cX2_lackingIn 1 = .ok (.istore_n 2, 1) := by decide +kernel
theorem dX2_lackingIn_2 : decode cX2_lackingIn 2 = .ok (.iconst 0, 1) := by decide +kernel
theorem dX2_lackingIn_3 : decode cX2_lackingIn 3 = .ok (.istore_n 3, 1) := by decide +kernel
theorem dX2_lackingIn_4 : decode cX2_lackingIn 4 = .ok (.iload_n 3, 1) := by decide +kernel
theorem dX2_lackingIn_5 : decode cX2_lackingIn 5 = .ok (.aload_n 1, 1) := by decide +kernel
theorem dX2_lackingIn_6 : decode cX2_lackingIn 6 = .ok (.getfield 29, 3) := by decide +kernel
theorem dX2_lackingIn_9 : decode cX2_lackingIn 9 = .ok (.if_icmp .ge 29, 3) := by decide +kernel
theorem dX2_lackingIn_12 : decode cX2_lackingIn 12 = .ok (.iload_n 2, 1) := by decide +kernel
theorem dX2_lackingIn_13 : decode cX2_lackingIn 13 = .ok (.aload_n 0, 1) := by decide +kernel
theorem dX2_lackingIn_14 : decode cX2_lackingIn 14 = .ok (.getfield 15, 3) := by decide +kernel
theorem dX2_lackingIn_17 : decode cX2_lackingIn 17 = .ok (.aload_n 1, 1) := by decide +kernel
theorem dX2_lackingIn_18 : decode cX2_lackingIn 18 = .ok (.iload_n 3, 1) := by decide +kernel
theorem dX2_lackingIn_19 : decode cX2_lackingIn 19 = .ok (.invokevirtual 35, 3) := by decide +kernel
theorem dX2_lackingIn_22 : decode cX2_lackingIn 22 = .ok (.ifCond .eq 7, 3) := by decide +kernel
theorem dX2_lackingIn_25 : decode cX2_lackingIn 25 = .ok (.iconst 1, 1) := by decide +kernel
theorem dX2_lackingIn_26 : decode cX2_lackingIn 26 = .ok (.goto 4, 3) := by decide +kernel
theorem dX2_lackingIn_29 : decode cX2_lackingIn 29 = .ok (.iconst 0, 1) := by decide +kernel
theorem dX2_lackingIn_30 : decode cX2_lackingIn 30 = .ok (.iadd, 1) := by decide +kernel
theorem dX2_lackingIn_31 : decode cX2_lackingIn 31 = .ok (.istore_n 2, 1) := by decide +kernel
theorem dX2_lackingIn_32 : decode cX2_lackingIn 32 = .ok (.iinc 3 1, 3) := by decide +kernel
theorem dX2_lackingIn_35 : decode cX2_lackingIn 35 = .ok (.goto (-31), 3) := by decide +kernel
theorem dX2_lackingIn_38 : decode cX2_lackingIn 38 = .ok (.iload_n 2, 1) := by decide +kernel
theorem dX2_lackingIn_39 : decode cX2_lackingIn 39 = .ok (.ireturn, 1) := by decide +kernel
def gm_X2_lackingIn_30 (fu : Nat) (K4 : Nat → Nat → Int32 → Int32 → gx_H → Option (Int32 × gx_H)) (a0 : Nat) (a1 : Nat) (x3 : Int32) (sx0 : Int32) (sx1 : Int32) (X : gx_H) : Option (Int32 × gx_H) :=
  K4 a0 a1 (sx0 + sx1) (x3 + 1) X
set_option maxHeartbeats 1000000 in
set_option maxRecDepth 20000 in
theorem gt_X2_lackingIn_30 {p : Program} {l : Launch} {e : Env} {s : State} {m : MethodId} {args : Array Value} {below : List Frame} {meth : Method} {c : Code} {D : gx_D} {r : Int32} {X2 : gx_H}  (C : gx_C D gz_cl gz_at gz_tb gz_nb p s m meth c cX2_lackingIn 4 RX2 (some .int)) (fu : Nat) (K4 : Nat → Nat → Int32 → Int32 → gx_H → Option (Int32 × gx_H)) (hK4 : ∀ (a0 : Nat) (a1 : Nat) (x2 : Int32) (x3 : Int32) (X : gx_H), K4 a0 a1 x2 x3 X = some (r, X2) → gx_W D gz_cl 4 p l e (gx_rm 4 91 0 0) s m args below meth c 0 0 (MQ below (gx_Q D gz_cl (some (gx_i r)) X2) args s 0 0 (gx_Z D)) X 4 [some (gx_r (some a0)), some (gx_r (some a1)), some (gx_i x2), some (gx_i x3)] []) (a0 : Nat) (a1 : Nat) (x3 : Int32) (sx0 : Int32) (sx1 : Int32) (X : gx_H) (h : gm_X2_lackingIn_30 fu K4 a0 a1 x3 sx0 sx1 X = some (r, X2)) : gx_W D gz_cl 4 p l e (gx_rm 4 91 0 0) s m args below meth c 0 0 (MQ below (gx_Q D gz_cl (some (gx_i r)) X2) args s 0 0 (gx_Z D)) X 30 [some (gx_r (some a0)), some (gx_r (some a1)), none, some (gx_i x3)] [gx_i sx1, gx_i sx0] := by
  unfold gm_X2_lackingIn_30 at h
  refine gx_iadd C dX2_lackingIn_30 ?_
  refine gx_istore_n (lv2 := [some (gx_r (some a0)), some (gx_r (some a1)), some (gx_i (sx0 + sx1)), some (gx_i x3)]) C dX2_lackingIn_31 rfl (by decide) rfl ?_
  refine gx_iinc (v := (x3 + 1)) (lv2 := [some (gx_r (some a0)), some (gx_r (some a1)), some (gx_i (sx0 + sx1)), some (gx_i (x3 + 1))]) C dX2_lackingIn_32 rfl rfl (by decide) rfl ?_
  refine gx_goto (tgt := 4) C dX2_lackingIn_35 (by decide) ?_
  exact hK4 a0 a1 (sx0 + sx1) (x3 + 1) X h
def gm_X2_lackingIn_4 (fu : Nat) : Nat → Nat → Nat → Int32 → Int32 → gx_H → Option (Int32 × gx_H)
  | 0, _, _, _, _, _ => none
  | n + 1, a0, a1, x2, x3, X =>
    (gx_gi X a1 0 6).bind fun vz1 =>
    if vz1 ≤ x3 then (
    some (x2, X)) else (
    (gx_gd X a0 2 0).bind fun az3 =>
    gx_ob X az3 4 <|
    gx_b2 (gm_X4_lacksGuard fu az3 a1 x3 X) fun vz6 Xz5 =>
    if vz6 = 0 then (
    gm_X2_lackingIn_30 fu (gm_X2_lackingIn_4 fu  n) a0 a1 x3 x2 (0 : Int32) Xz5) else (
    gm_X2_lackingIn_30 fu (gm_X2_lackingIn_4 fu  n) a0 a1 x3 x2 (1 : Int32) Xz5))
set_option maxHeartbeats 1000000 in
set_option maxRecDepth 20000 in
theorem gt_X2_lackingIn_4 {p : Program} {l : Launch} {e : Env} {s : State} {m : MethodId} {args : Array Value} {below : List Frame} {meth : Method} {c : Code} {D : gx_D} {r : Int32} {X2 : gx_H}  (C : gx_C D gz_cl gz_at gz_tb gz_nb p s m meth c cX2_lackingIn 4 RX2 (some .int)) (fu : Nat) : ∀ (n : Nat) (a0 : Nat) (a1 : Nat) (x2 : Int32) (x3 : Int32) (X : gx_H) , gm_X2_lackingIn_4 fu  n a0 a1 x2 x3 X = some (r, X2) → gx_W D gz_cl 4 p l e (gx_rm 4 91 0 0) s m args below meth c 0 0 (MQ below (gx_Q D gz_cl (some (gx_i r)) X2) args s 0 0 (gx_Z D)) X 4 [some (gx_r (some a0)), some (gx_r (some a1)), some (gx_i x2), some (gx_i x3)] [] := by
  intro n
  induction n with
  | zero =>
    intro a0 a1 x2 x3 X h
    have h : none = some _ := h
    cases h
  | succ n ih =>
    intro a0 a1 x2 x3 X h
    rw [gm_X2_lackingIn_4] at h
    refine gx_iload_n C dX2_lackingIn_4 rfl rfl ?_
    refine gx_aload_n C dX2_lackingIn_5 rfl rfl ?_
    obtain ⟨vz1, evz1, h⟩ := gx_bd h
    refine gx_get C kcX0 6 (by decide) wl_205 (gx_gi_s evz1) dX2_lackingIn_6 ?_
    refine gx_icmp_ge (tgt := 38) C dX2_lackingIn_9 (by decide) (fun qz2 => ?_) (fun qz2 => ?_)
    · rw [if_pos qz2] at h
      refine gx_iload_n C dX2_lackingIn_38 rfl rfl ?_
      cases h
      exact gx_iret C dX2_lackingIn_39
    · rw [if_neg qz2] at h
      refine gx_iload_n C dX2_lackingIn_12 rfl rfl ?_
      refine gx_aload_n C dX2_lackingIn_13 rfl rfl ?_
      obtain ⟨az3, eaz3, h⟩ := gx_bd h
      refine gx_get C kcX2 0 (by decide) wl_67 (gx_gd_s eaz3) dX2_lackingIn_14 ?_
      refine gx_aload_n C dX2_lackingIn_17 rfl rfl ?_
      refine gx_iload_n C dX2_lackingIn_18 rfl rfl ?_
      obtain ⟨hoz4, h⟩ := gx_obs h
      obtain ⟨vz6, Xz5, eXz5, h⟩ := gx_bd2 h
      refine gx_callV (As := [gx_r (some a1), gx_i x3]) (st := [gx_i x2]) (stk2 := [gx_i vz6, gx_i x2]) C cd_X4_lacksGuard wl_383 ws_X4_lacksGuard wl_382 rfl hoz4 (gc_X4_lacksGuard fu az3 a1 x3 X vz6 Xz5 eXz5) rfl ⟨Nat.le_of_ble_eq_true rfl, Nat.le_of_ble_eq_true rfl⟩ ⟨Nat.le_of_ble_eq_true rfl, Nat.le_of_ble_eq_true rfl⟩ (Nat.le_of_ble_eq_true rfl) rfl rfl dX2_lackingIn_19 ?_
      refine gx_if_eq (tgt := 29) C dX2_lackingIn_22 (by decide) (fun qz7 => ?_) (fun qz7 => ?_)
      · rw [if_pos qz7] at h
        refine gx_iconst (v := 0) C dX2_lackingIn_29 (by decide) ?_
        refine gx_sub (lv2 := [some (gx_r (some a0)), some (gx_r (some a1)), none, some (gx_i x3)]) [true, true, false, true] rfl ?_
        exact gt_X2_lackingIn_30 C fu (gm_X2_lackingIn_4 fu  n) ih a0 a1 x3 x2 (0 : Int32) Xz5 h
      · rw [if_neg qz7] at h
        refine gx_iconst (v := 1) C dX2_lackingIn_25 (by decide) ?_
        refine gx_goto (tgt := 30) C dX2_lackingIn_26 (by decide) ?_
        refine gx_sub (lv2 := [some (gx_r (some a0)), some (gx_r (some a1)), none, some (gx_i x3)]) [true, true, false, true] rfl ?_
        exact gt_X2_lackingIn_30 C fu (gm_X2_lackingIn_4 fu  n) ih a0 a1 x3 x2 (1 : Int32) Xz5 h
def gm_X2_lackingIn (fu : Nat) (this : Nat) (a_0 : Nat) (X : gx_H) : Option (Int32 × gx_H) :=
  gm_X2_lackingIn_4 fu  fu this a_0 (0 : Int32) (0 : Int32) X
set_option maxHeartbeats 1000000 in
set_option maxRecDepth 20000 in
theorem gc_X2_lackingIn {l : Launch} {D : gx_D} (fu : Nat) (this : Nat) (a_0 : Nat) (X : gx_H) (r : Int32) (X2 : gx_H) (h : gm_X2_lackingIn fu this a_0 X = some (r, X2)) : gx_M D gz_cl gz_at gz_tb gz_nb l yX2_lackingIn cX2_lackingIn 4 (some .int) 4 91 [gx_r (some this), gx_r (some a_0)] X (some (gx_i r)) X2 0 0 := by
  unfold gm_X2_lackingIn at h
  refine gx_enter [some (gx_r (some this)), some (gx_r (some a_0)), none, none] rfl (by decide) (Nat.le_of_ble_eq_true rfl) ?_
  intro p e s m below meth c C _
  refine gx_iconst (v := 0) C dX2_lackingIn_0 (by decide) ?_
  refine gx_istore_n (lv2 := [some (gx_r (some this)), some (gx_r (some a_0)), some (gx_i (0 : Int32)), none]) C dX2_lackingIn_1 rfl (by decide) rfl ?_
  refine gx_iconst (v := 0) C dX2_lackingIn_2 (by decide) ?_
  refine gx_istore_n (lv2 := [some (gx_r (some this)), some (gx_r (some a_0)), some (gx_i (0 : Int32)), some (gx_i (0 : Int32))]) C dX2_lackingIn_3 rfl (by decide) rfl ?_
  exact gt_X2_lackingIn_4 C fu  fu this a_0 (0 : Int32) (0 : Int32) X h
theorem dX3_append_0 : decode cX3_append 0 = .ok (.iload_n 1, 1) := by decide +kernel
theorem dX3_append_1 : decode cX3_append 1 = .ok (.iconst 1, 1) := by decide +kernel
theorem dX3_append_2 : decode cX3_append 2 = .ok (.if_icmp .lt 19, 3) := by decide +kernel
theorem dX3_append_5 : decode cX3_append 5 = .ok (.iload_n 1, 1) := by decide +kernel
theorem dX3_append_6 : decode cX3_append 6 = .ok (.sipush 200, 3) := by decide +kernel
theorem dX3_append_9 : decode cX3_append 9 = .ok (.if_icmp .gt 12, 3) := by decide +kernel
theorem dX3_append_12 : decode cX3_append 12 = .ok (.aload_n 0, 1) := by decide +kernel
theorem dX3_append_13 : decode cX3_append 13 = .ok (.getfield 17, 3) := by decide +kernel
theorem dX3_append_16 : decode cX3_append 16 = .ok (.bipush 8, 2) := by decide +kernel
theorem dX3_append_18 : decode cX3_append 18 = .ok (.if_icmp .lt 5, 3) := by decide +kernel
theorem dX3_append_21 : decode cX3_append 21 = .ok (.aconst_null, 1) := by decide +kernel
theorem dX3_append_22 : decode cX3_append 22 = .ok (.areturn, 1) := by decide +kernel
theorem dX3_append_23 : decode cX3_append 23 = .ok (.aload_n 0, 1) := by decide +kernel
theorem dX3_append_24 : decode cX3_append 24 = .ok (.getfield 11, 3) := by decide +kernel
theorem dX3_append_27 : decode cX3_append 27 = .ok (.aload_n 0, 1) := by decide +kernel
theorem dX3_append_28 : decode cX3_append 28 = .ok (.getfield 17, 3) := by decide +kernel
theorem dX3_append_31 : decode cX3_append 31 = .ok (.aaload, 1) := by decide +kernel
theorem dX3_append_32 : decode cX3_append 32 = .ok (.astore_n 2, 1) := by decide +kernel
theorem dX3_append_33 : decode cX3_append 33 = .ok (.aload_n 2, 1) := by decide +kernel
theorem dX3_append_34 : decode cX3_append 34 = .ok (.ifnonnull 25, 3) := by decide +kernel
theorem dX3_append_37 : decode cX3_append 37 = .ok (.new 9, 3) := by decide +kernel
theorem dX3_append_40 : decode cX3_append 40 = .ok (.dup, 1) := by decide +kernel
theorem dX3_append_41 : decode cX3_append 41 = .ok (.aload_n 0, 1) := by decide +kernel
theorem dX3_append_42 : decode cX3_append 42 = .ok (.getfield 17, 3) := by decide +kernel
theorem dX3_append_45 : decode cX3_append 45 = .ok (.invokespecial 25, 3) := by decide +kernel
theorem dX3_append_48 : decode cX3_append 48 = .ok (.astore_n 2, 1) := by decide +kernel
theorem dX3_append_49 : decode cX3_append 49 = .ok (.aload_n 0, 1) := by decide +kernel
theorem dX3_append_50 : decode cX3_append 50 = .ok (.getfield 11, 3) := by decide +kernel
theorem dX3_append_53 : decode cX3_append 53 = .ok (.aload_n 0, 1) := by decide +kernel
theorem dX3_append_54 : decode cX3_append 54 = .ok (.getfield 17, 3) := by decide +kernel
theorem dX3_append_57 : decode cX3_append 57 = .ok (.aload_n 2, 1) := by decide +kernel
theorem dX3_append_58 : decode cX3_append 58 = .ok (.aastore, 1) := by decide +kernel
theorem dX3_append_59 : decode cX3_append 59 = .ok (.aload_n 2, 1) := by decide +kernel
theorem dX3_append_60 : decode cX3_append 60 = .ok (.iload_n 1, 1) := by decide +kernel
theorem dX3_append_61 : decode cX3_append 61 = .ok (.invokevirtual 28, 3) := by decide +kernel
theorem dX3_append_64 : decode cX3_append 64 = .ok (.aload_n 0, 1) := by decide +kernel
theorem dX3_append_65 : decode cX3_append 65 = .ok (.dup, 1) := by decide +kernel
theorem dX3_append_66 : decode cX3_append 66 = .ok (.getfield 17, 3) := by decide +kernel
theorem dX3_append_69 : decode cX3_append 69 = .ok (.iconst 1, 1) := by decide +kernel
theorem dX3_append_70 : decode cX3_append 70 = .ok (.iadd, 1) := by decide +kernel
theorem dX3_append_71 : decode cX3_append 71 = .ok (.putfield 17, 3) := by decide +kernel
theorem dX3_append_74 : decode cX3_append 74 = .ok (.aload_n 0, 1) := by decide +kernel
theorem dX3_append_75 : decode cX3_append 75 = .ok (.iconst 0, 1) := by decide +kernel
theorem dX3_append_76 : decode cX3_append 76 = .ok (.putfield 21, 3) := by decide +kernel
theorem dX3_append_79 : decode cX3_append 79 = .ok (.aload_n 2, 1) := by decide +kernel
theorem dX3_append_80 : decode cX3_append 80 = .ok (.areturn, 1) := by decide +kernel
def gm_X3_append_59 (fu : Nat) (a0 : Nat) (x1 : Int32) (o2 : Option Nat) (X : gx_H) : Option (Option Nat × gx_H × Nat × Nat) :=
  (o2).bind fun az1 =>
  gx_ob X az1 0 <|
  (gm_X0_renew fu az1 x1 X).bind fun Xz3 =>
  (gx_gi Xz3 a0 3 1).bind fun vz4 =>
  (gx_pf Xz3 a0 3 1 (.int (vz4 + (1 : Int32)))).bind fun Xz5 =>
  (gx_pf Xz5 a0 3 2 (.int (0 : Int32))).bind fun Xz6 =>
  some ((some az1), Xz6, 0, 0)
set_option maxHeartbeats 1000000 in
set_option maxRecDepth 20000 in
theorem gt_X3_append_59 {p : Program} {l : Launch} {e : Env} {s : State} {m : MethodId} {args : Array Value} {below : List Frame} {meth : Method} {c : Code} {D : gx_D} {r : Option Nat} {X2 : gx_H} {tc ts : Nat}  (C : gx_C D gz_cl gz_at gz_tb gz_nb p s m meth c cX3_append 3 RX3 (some (.object "GuardFlow$Body"))) (fu : Nat) (a0 : Nat) (x1 : Int32) (o2 : Option Nat) (X : gx_H) (cells slots nc ns : Nat) (h : gm_X3_append_59 fu  a0 x1 o2 X = some (r, X2, nc, ns)) (h1 : cells + nc = tc) (h2 : slots + ns = ts) : gx_W D gz_cl 3 p l e (gx_rm 2 45 tc ts) s m args below meth c cells slots (MQ below (gx_Q D gz_cl (some (gx_r r)) X2) args s tc ts (gx_Z D)) X 59 [some (gx_r (some a0)), some (gx_i x1), some (gx_r o2)] [] := by
  unfold gm_X3_append_59 at h
  refine gx_aload_n C dX3_append_59 rfl rfl ?_
  refine gx_iload_n C dX3_append_60 rfl rfl ?_
  obtain ⟨az1, eaz1, h⟩ := gx_bd h
  subst eaz1
  obtain ⟨hoz2, h⟩ := gx_obs h
  obtain ⟨Xz3, eXz3, h⟩ := gx_bd h
  refine gx_callV (As := [gx_i x1]) (st := []) (stk2 := []) C cd_X0_renew wl_263 ws_X0_renew wl_262 rfl hoz2 (gc_X0_renew fu az1 x1 X Xz3 eXz3) rfl ⟨Nat.le_of_ble_eq_true rfl, Nat.le_of_ble_eq_true rfl⟩ ⟨show cells + 0 ≤ tc by omega, show slots + 0 ≤ ts by omega⟩ (Nat.le_of_ble_eq_true rfl) rfl rfl dX3_append_61 ?_
  refine gx_aload_n C dX3_append_64 rfl rfl ?_
  refine gx_dup C dX3_append_65 rfl ?_
  obtain ⟨vz4, evz4, h⟩ := gx_bd h
  refine gx_get C kcX3 1 (by decide) wl_83 (gx_gi_s evz4) dX3_append_66 ?_
  refine gx_iconst (v := 1) C dX3_append_69 (by decide) ?_
  refine gx_iadd C dX3_append_70 ?_
  obtain ⟨Xz5, eXz5, h⟩ := gx_bd h
  refine gx_put C kcX3 1 (by decide) rfl wl_83 ⟨rfl, rfl⟩ eXz5 dX3_append_71 ?_
  refine gx_aload_n C dX3_append_74 rfl rfl ?_
  refine gx_iconst (v := 0) C dX3_append_75 (by decide) ?_
  obtain ⟨Xz6, eXz6, h⟩ := gx_bd h
  refine gx_put C kcX3 2 (by decide) rfl wl_86 (gx_nz (Or.inl rfl)) eXz6 dX3_append_76 ?_
  refine gx_aload_n C dX3_append_79 rfl rfl ?_
  cases h
  exact gx_widen (by omega) (by omega) (gx_aret C dX3_append_80)
def gm_X3_append (fu : Nat) (this : Nat) (p_0 : Int32) (X : gx_H) : Option (Option Nat × gx_H × Nat × Nat) :=
  if p_0 < (1 : Int32) then (
  some (none, X, 0, 0)) else (
  if (200 : Int32) < p_0 then (
  some (none, X, 0, 0)) else (
  (gx_gi X this 3 1).bind fun vz9 =>
  if vz9 < (8 : Int32) then (
  (gx_gd X this 3 0).bind fun az11 =>
  (gx_gi X this 3 1).bind fun vz12 =>
  (gx_gar X az11 3 vz12).bind fun oz13 =>
  gx_nl oz13 (
  gx_ad 1 15 <|
  (gx_gi (gx_nw X (.inr (0, [.int 0, .null, .null, .null, .null, .null, .int 0, .int 0, .null, .null, .null, .long 0, .long 0, .long 0, .int 0]))) this 3 1).bind fun vz17 =>
  gx_b4 (gm_X0_init fu X.2 vz17 (gx_nw X (.inr (0, [.int 0, .null, .null, .null, .null, .null, .int 0, .int 0, .null, .null, .null, .long 0, .long 0, .long 0, .int 0])))) fun _u Xz18 cz19 sz19 => gx_ad cz19 sz19 <|
  (gx_gd Xz18 this 3 0).bind fun az21 =>
  (gx_gi Xz18 this 3 1).bind fun vz22 =>
  gx_ob Xz18 X.2 0 <|
  (gx_par Xz18 az21 3 vz22 (some X.2)).bind fun Xz24 =>
  gm_X3_append_59 fu  this p_0 (some X.2) Xz24) fun az15 =>
  gm_X3_append_59 fu  this p_0 (some az15) X) else (
  some (none, X, 0, 0))))
set_option maxHeartbeats 1000000 in
set_option maxRecDepth 20000 in
theorem gc_X3_append {l : Launch} {D : gx_D} (fu : Nat) (this : Nat) (p_0 : Int32) (X : gx_H) (r : Option Nat) (X2 : gx_H) (tc ts : Nat) (h : gm_X3_append fu this p_0 X = some (r, X2, tc, ts)) : gx_M D gz_cl gz_at gz_tb gz_nb l yX3_append cX3_append 3 (some (.object "GuardFlow$Body")) 2 45 [gx_r (some this), gx_i p_0] X (some (gx_r r)) X2 tc ts := by
  unfold gm_X3_append at h
  refine gx_enter [some (gx_r (some this)), some (gx_i p_0), none] rfl (by decide) (Nat.le_of_ble_eq_true rfl) ?_
  intro p e s m below meth c C _
  have h1 : 0 + tc = tc := Nat.zero_add tc
  have h2 : 0 + ts = ts := Nat.zero_add ts
  refine gx_iload_n C dX3_append_0 rfl rfl ?_
  refine gx_iconst (v := 1) C dX3_append_1 (by decide) ?_
  refine gx_icmp_lt (tgt := 21) C dX3_append_2 (by decide) (fun qz7 => ?_) (fun qz7 => ?_)
  · rw [if_pos qz7] at h
    refine gx_null C dX3_append_21 ?_
    cases h
    exact gx_widen (by omega) (by omega) (gx_aret C dX3_append_22)
  · rw [if_neg qz7] at h
    refine gx_iload_n C dX3_append_5 rfl rfl ?_
    refine gx_sipush (v := 200) C dX3_append_6 (by decide) ?_
    refine gx_icmp_gt (tgt := 21) C dX3_append_9 (by decide) (fun qz8 => ?_) (fun qz8 => ?_)
    · rw [if_pos qz8] at h
      refine gx_null C dX3_append_21 ?_
      cases h
      exact gx_widen (by omega) (by omega) (gx_aret C dX3_append_22)
    · rw [if_neg qz8] at h
      refine gx_aload_n C dX3_append_12 rfl rfl ?_
      obtain ⟨vz9, evz9, h⟩ := gx_bd h
      refine gx_get C kcX3 1 (by decide) wl_83 (gx_gi_s evz9) dX3_append_13 ?_
      refine gx_bipush (v := 8) C dX3_append_16 (by decide) ?_
      refine gx_icmp_lt (tgt := 23) C dX3_append_18 (by decide) (fun qz10 => ?_) (fun qz10 => ?_)
      · rw [if_pos qz10] at h
        refine gx_aload_n C dX3_append_23 rfl rfl ?_
        obtain ⟨az11, eaz11, h⟩ := gx_bd h
        refine gx_get C kcX3 0 (by decide) wl_82 (gx_gd_s eaz11) dX3_append_24 ?_
        refine gx_aload_n C dX3_append_27 rfl rfl ?_
        obtain ⟨vz12, evz12, h⟩ := gx_bd h
        refine gx_get C kcX3 1 (by decide) wl_83 (gx_gi_s evz12) dX3_append_28 ?_
        obtain ⟨oz13, eoz13, h⟩ := gx_bd h
        refine gx_aald C (t := 3) rfl eoz13 dX3_append_31 ?_
        refine gx_astore_n (lv2 := [some (gx_r (some this)), some (gx_i p_0), some (gx_r oz13)]) C dX3_append_32 rfl (by decide) rfl ?_
        refine gx_aload_n C dX3_append_33 rfl rfl ?_
        refine gx_ifnonnull (tgt := 59) C dX3_append_34 (by decide) (fun az15 qz14 => ?_) (fun qz14 => ?_)
        · subst qz14
          have h := gx_nl_s h
          exact gt_X3_append_59 C fu  this p_0 (some az15) X 0 0 _ _ h (by omega) (by omega)
        · subst qz14
          have h := gx_nl_n h
          obtain ⟨cz16, sz16, h, ecz16, esz16⟩ := gx_add h
          refine gx_new C kcX0 [.int 0, .null, .null, .null, .null, .null, .int 0, .int 0, .null, .null, .null, .long 0, .long 0, .long 0, .int 0] wl_80 wl_174 wl_7 dfX0 (show 0 + 1 ≤ tc by omega) (show 0 + 15 ≤ ts by omega) dX3_append_37 ?_
          refine gx_dup C dX3_append_40 rfl ?_
          refine gx_aload_n C dX3_append_41 rfl rfl ?_
          obtain ⟨vz17, evz17, h⟩ := gx_bd h
          refine gx_get C kcX3 1 (by decide) wl_83 (gx_gi_s evz17) dX3_append_42 ?_
          obtain ⟨⟨⟩, Xz18, cz19, sz19, eXz18, h⟩ := gx_bd4 h
          obtain ⟨cz20, sz20, h, ecz20, esz20⟩ := gx_add h
          refine gx_callI (As := [gx_i vz17]) (st := [gx_r (some X.2)]) (stk2 := [gx_r (some X.2)]) C cd_X0_init wl_176 rfl wl_175 (gc_X0_init fu X.2 vz17 (gx_nw X (.inr (0, [.int 0, .null, .null, .null, .null, .null, .int 0, .int 0, .null, .null, .null, .long 0, .long 0, .long 0, .int 0]))) Xz18 cz19 sz19 eXz18) rfl ⟨Nat.le_of_ble_eq_true rfl, Nat.le_of_ble_eq_true rfl⟩ ⟨show 0 + 1 + cz19 ≤ tc by omega, show 0 + 15 + sz19 ≤ ts by omega⟩ (Nat.le_of_ble_eq_true rfl) rfl rfl dX3_append_45 ?_
          refine gx_astore_n (lv2 := [some (gx_r (some this)), some (gx_i p_0), some (gx_r (some X.2))]) C dX3_append_48 rfl (by decide) rfl ?_
          refine gx_aload_n C dX3_append_49 rfl rfl ?_
          obtain ⟨az21, eaz21, h⟩ := gx_bd h
          refine gx_get C kcX3 0 (by decide) wl_82 (gx_gd_s eaz21) dX3_append_50 ?_
          refine gx_aload_n C dX3_append_53 rfl rfl ?_
          obtain ⟨vz22, evz22, h⟩ := gx_bd h
          refine gx_get C kcX3 1 (by decide) wl_83 (gx_gi_s evz22) dX3_append_54 ?_
          refine gx_aload_n C dX3_append_57 rfl rfl ?_
          obtain ⟨hoz23, h⟩ := gx_obs h
          obtain ⟨Xz24, eXz24, h⟩ := gx_bd h
          refine gx_aast C (t := 3) rfl rfl hoz23 eXz24 dX3_append_58 ?_
          exact gt_X3_append_59 C fu  this p_0 (some X.2) Xz24 (0 + 1 + cz19) (0 + 15 + sz19) _ _ h (by omega) (by omega)
      · rw [if_neg qz10] at h
        refine gx_null C dX3_append_21 ?_
        cases h
        exact gx_widen (by omega) (by omega) (gx_aret C dX3_append_22)
theorem dX2_moveTargets_0 : decode cX2_moveTargets 0 = .ok (.iconst 0, 1) := by decide +kernel
theorem dX2_moveTargets_1 : decode cX2_moveTargets 1 = .ok (.istore_n 2, 1) := by decide +kernel
theorem dX2_moveTargets_2 : decode cX2_moveTargets 2 = .ok (.iload_n 2, 1) := by decide +kernel
theorem dX2_moveTargets_3 : decode cX2_moveTargets 3 = .ok (.aload_n 1, 1) := by decide +kernel
theorem dX2_moveTargets_4 : decode cX2_moveTargets 4 = .ok (.getfield 29, 3) := by decide +kernel
theorem dX2_moveTargets_7 : decode cX2_moveTargets 7 = .ok (.if_icmp .ge 34, 3) := by decide +kernel
theorem dX2_moveTargets_10 : decode cX2_moveTargets 10 = .ok (.aload_n 1, 1) := by decide +kernel
theorem dX2_moveTargets_11 : decode cX2_moveTargets 11 = .ok (.iload_n 2, 1) := by decide +kernel
theorem dX2_moveTargets_12 : decode cX2_moveTargets 12 = .ok (.invokevirtual 68, 3) := by decide +kernel
theorem dX2_moveTargets_15 : decode cX2_moveTargets 15 = .ok (.ifCond .eq 20, 3) := by decide +kernel
theorem dX2_moveTargets_18 : decode cX2_moveTargets 18 = .ok (.aload_n 1, 1) := by decide +kernel
theorem dX2_moveTargets_19 : decode cX2_moveTargets 19 = .ok (.getfield 58, 3) := by decide +kernel
theorem dX2_moveTargets_22 : decode cX2_moveTargets 22 = .ok (.iload_n 2, 1) := by decide +kernel
theorem dX2_moveTargets_23 : decode cX2_moveTargets 23 = .ok (.aload_n 0, 1) := by decide +kernel
theorem dX2_moveTargets_24 : decode cX2_moveTargets 24 = .ok (.getfield 9, 3) := by decide +kernel
theorem dX2_moveTargets_27 : decode cX2_moveTargets 27 = .ok (.aload_n 1, 1) := by decide +kernel
theorem dX2_moveTargets_28 : decode cX2_moveTargets 28 = .ok (.getfield 58, 3) := by decide +kernel
theorem dX2_moveTargets_31 : decode cX2_moveTargets 31 = .ok (.iload_n 2, 1) := by decide +kernel
theorem dX2_moveTargets_32 : decode cX2_moveTargets 32 = .ok (.iaload, 1) := by decide +kernel
theorem dX2_moveTargets_33 : decode cX2_moveTargets 33 = .ok (.iaload, 1) := by decide +kernel
theorem dX2_moveTargets_34 : decode cX2_moveTargets 34 = .ok (.iastore, 1) := by decide +kernel
theorem dX2_moveTargets_35 : decode cX2_moveTargets 35 = .ok (.iinc 2 1, 3) := by decide +kernel
theorem dX2_moveTargets_38 : decode cX2_moveTargets 38 = .ok (.goto (-36), 3) := by decide +kernel
theorem dX2_moveTargets_41 : decode cX2_moveTargets 41 = .ok (.return_, 1) := by decide +kernel
def gm_X2_moveTargets_35 (fu : Nat) (K2 : Nat → Nat → Int32 → gx_H → Option gx_H) (a0 : Nat) (a1 : Nat) (x2 : Int32) (X : gx_H) : Option gx_H :=
  K2 a0 a1 (x2 + 1) X
set_option maxHeartbeats 1000000 in
set_option maxRecDepth 20000 in
theorem gt_X2_moveTargets_35 {p : Program} {l : Launch} {e : Env} {s : State} {m : MethodId} {args : Array Value} {below : List Frame} {meth : Method} {c : Code} {D : gx_D} {X2 : gx_H}  (C : gx_C D gz_cl gz_at gz_tb gz_nb p s m meth c cX2_moveTargets 3 RX2 none) (fu : Nat) (K2 : Nat → Nat → Int32 → gx_H → Option gx_H) (hK2 : ∀ (a0 : Nat) (a1 : Nat) (x2 : Int32) (X : gx_H), K2 a0 a1 x2 X = some X2 → gx_W D gz_cl 3 p l e (gx_rm 1 21 0 0) s m args below meth c 0 0 (MQ below (gx_Q D gz_cl none X2) args s 0 0 (gx_Z D)) X 2 [some (gx_r (some a0)), some (gx_r (some a1)), some (gx_i x2)] []) (a0 : Nat) (a1 : Nat) (x2 : Int32) (X : gx_H) (h : gm_X2_moveTargets_35 fu K2 a0 a1 x2 X = some X2) : gx_W D gz_cl 3 p l e (gx_rm 1 21 0 0) s m args below meth c 0 0 (MQ below (gx_Q D gz_cl none X2) args s 0 0 (gx_Z D)) X 35 [some (gx_r (some a0)), some (gx_r (some a1)), some (gx_i x2)] [] := by
  unfold gm_X2_moveTargets_35 at h
  refine gx_iinc (v := (x2 + 1)) (lv2 := [some (gx_r (some a0)), some (gx_r (some a1)), some (gx_i (x2 + 1))]) C dX2_moveTargets_35 rfl rfl (by decide) rfl ?_
  refine gx_goto (tgt := 2) C dX2_moveTargets_38 (by decide) ?_
  exact hK2 a0 a1 (x2 + 1) X h
def gm_X2_moveTargets_2 (fu : Nat) : Nat → Nat → Nat → Int32 → gx_H → Option gx_H
  | 0, _, _, _, _ => none
  | n + 1, a0, a1, x2, X =>
    (gx_gi X a1 0 6).bind fun vz1 =>
    if vz1 ≤ x2 then (
    some X) else (
    gx_ob X a1 0 <|
    gx_b2 (gm_X0_goesToNumber fu a1 x2 X) fun vz5 Xz4 =>
    if vz5 = 0 then (
    gm_X2_moveTargets_35 fu (gm_X2_moveTargets_2 fu  n) a0 a1 x2 Xz4) else (
    (gx_gd Xz4 a1 0 2).bind fun az7 =>
    (gx_gd Xz4 a0 2 1).bind fun az8 =>
    (gx_gd Xz4 a1 0 2).bind fun az9 =>
    (gx_gai Xz4 az9 0 x2).bind fun vz10 =>
    (gx_gai Xz4 az8 0 vz10).bind fun vz11 =>
    (gx_pai Xz4 az7 0 x2 vz11).bind fun Xz12 =>
    gm_X2_moveTargets_35 fu (gm_X2_moveTargets_2 fu  n) a0 a1 x2 Xz12))
set_option maxHeartbeats 1000000 in
set_option maxRecDepth 20000 in
theorem gt_X2_moveTargets_2 {p : Program} {l : Launch} {e : Env} {s : State} {m : MethodId} {args : Array Value} {below : List Frame} {meth : Method} {c : Code} {D : gx_D} {X2 : gx_H}  (C : gx_C D gz_cl gz_at gz_tb gz_nb p s m meth c cX2_moveTargets 3 RX2 none) (fu : Nat) : ∀ (n : Nat) (a0 : Nat) (a1 : Nat) (x2 : Int32) (X : gx_H) , gm_X2_moveTargets_2 fu  n a0 a1 x2 X = some X2 → gx_W D gz_cl 3 p l e (gx_rm 1 21 0 0) s m args below meth c 0 0 (MQ below (gx_Q D gz_cl none X2) args s 0 0 (gx_Z D)) X 2 [some (gx_r (some a0)), some (gx_r (some a1)), some (gx_i x2)] [] := by
  intro n
  induction n with
  | zero =>
    intro a0 a1 x2 X h
    have h : none = some _ := h
    cases h
  | succ n ih =>
    intro a0 a1 x2 X h
    rw [gm_X2_moveTargets_2] at h
    refine gx_iload_n C dX2_moveTargets_2 rfl rfl ?_
    refine gx_aload_n C dX2_moveTargets_3 rfl rfl ?_
    obtain ⟨vz1, evz1, h⟩ := gx_bd h
    refine gx_get C kcX0 6 (by decide) wl_205 (gx_gi_s evz1) dX2_moveTargets_4 ?_
    refine gx_icmp_ge (tgt := 41) C dX2_moveTargets_7 (by decide) (fun qz2 => ?_) (fun qz2 => ?_)
    · rw [if_pos qz2] at h
      cases h
      exact gx_vret C dX2_moveTargets_41
    · rw [if_neg qz2] at h
      refine gx_aload_n C dX2_moveTargets_10 rfl rfl ?_
      refine gx_iload_n C dX2_moveTargets_11 rfl rfl ?_
      obtain ⟨hoz3, h⟩ := gx_obs h
      obtain ⟨vz5, Xz4, eXz4, h⟩ := gx_bd2 h
      refine gx_callV (As := [gx_i x2]) (st := []) (stk2 := [gx_i vz5]) C cd_X0_goesToNumber wl_318 ws_X0_goesToNumber wl_410 rfl hoz3 (gc_X0_goesToNumber fu a1 x2 X vz5 Xz4 eXz4) rfl ⟨Nat.le_of_ble_eq_true rfl, Nat.le_of_ble_eq_true rfl⟩ ⟨Nat.le_of_ble_eq_true rfl, Nat.le_of_ble_eq_true rfl⟩ (Nat.le_of_ble_eq_true rfl) rfl rfl dX2_moveTargets_12 ?_
      refine gx_if_eq (tgt := 35) C dX2_moveTargets_15 (by decide) (fun qz6 => ?_) (fun qz6 => ?_)
      · rw [if_pos qz6] at h
        exact gt_X2_moveTargets_35 C fu (gm_X2_moveTargets_2 fu  n) ih a0 a1 x2 Xz4 h
      · rw [if_neg qz6] at h
        refine gx_aload_n C dX2_moveTargets_18 rfl rfl ?_
        obtain ⟨az7, eaz7, h⟩ := gx_bd h
        refine gx_get C kcX0 2 (by decide) wl_189 (gx_gd_s eaz7) dX2_moveTargets_19 ?_
        refine gx_iload_n C dX2_moveTargets_22 rfl rfl ?_
        refine gx_aload_n C dX2_moveTargets_23 rfl rfl ?_
        obtain ⟨az8, eaz8, h⟩ := gx_bd h
        refine gx_get C kcX2 1 (by decide) wl_68 (gx_gd_s eaz8) dX2_moveTargets_24 ?_
        refine gx_aload_n C dX2_moveTargets_27 rfl rfl ?_
        obtain ⟨az9, eaz9, h⟩ := gx_bd h
        refine gx_get C kcX0 2 (by decide) wl_189 (gx_gd_s eaz9) dX2_moveTargets_28 ?_
        refine gx_iload_n C dX2_moveTargets_31 rfl rfl ?_
        obtain ⟨vz10, evz10, h⟩ := gx_bd h
        refine gx_iald C (t := 0) rfl evz10 dX2_moveTargets_32 ?_
        obtain ⟨vz11, evz11, h⟩ := gx_bd h
        refine gx_iald C (t := 0) rfl evz11 dX2_moveTargets_33 ?_
        obtain ⟨Xz12, eXz12, h⟩ := gx_bd h
        refine gx_iast C (t := 0) rfl eXz12 dX2_moveTargets_34 ?_
        exact gt_X2_moveTargets_35 C fu (gm_X2_moveTargets_2 fu  n) ih a0 a1 x2 Xz12 h
def gm_X2_moveTargets (fu : Nat) (this : Nat) (a_0 : Nat) (X : gx_H) : Option gx_H :=
  gm_X2_moveTargets_2 fu  fu this a_0 (0 : Int32) X
set_option maxHeartbeats 1000000 in
set_option maxRecDepth 20000 in
theorem gc_X2_moveTargets {l : Launch} {D : gx_D} (fu : Nat) (this : Nat) (a_0 : Nat) (X : gx_H) (X2 : gx_H) (h : gm_X2_moveTargets fu this a_0 X = some X2) : gx_M D gz_cl gz_at gz_tb gz_nb l yX2_moveTargets cX2_moveTargets 3 none 1 21 [gx_r (some this), gx_r (some a_0)] X none X2 0 0 := by
  unfold gm_X2_moveTargets at h
  refine gx_enter [some (gx_r (some this)), some (gx_r (some a_0)), none] rfl (by decide) (Nat.le_of_ble_eq_true rfl) ?_
  intro p e s m below meth c C _
  refine gx_iconst (v := 0) C dX2_moveTargets_0 (by decide) ?_
  refine gx_istore_n (lv2 := [some (gx_r (some this)), some (gx_r (some a_0)), some (gx_i (0 : Int32))]) C dX2_moveTargets_1 rfl (by decide) rfl ?_
  exact gt_X2_moveTargets_2 C fu  fu this a_0 (0 : Int32) X h
theorem dX2_copyWithGuards_0 : decode cX2_copyWithGuards 0 = .ok (.aload_n 2, 1) := by decide +kernel
theorem dX2_copyWithGuards_1 : decode cX2_copyWithGuards 1 = .ok (.invokevirtual 41, 3) := by decide +kernel
theorem dX2_copyWithGuards_4 : decode cX2_copyWithGuards 4 = .ok (.iconst 0, 1) := by decide +kernel
theorem dX2_copyWithGuards_5 : decode cX2_copyWithGuards 5 = .ok (.istore_n 3, 1) := by decide +kernel
theorem dX2_copyWithGuards_6 : decode cX2_copyWithGuards 6 = .ok (.iload_n 3, 1) := by decide +kernel
theorem dX2_copyWithGuards_7 : decode cX2_copyWithGuards 7 = .ok (.bipush 8, 2) := by decide +kernel
theorem dX2_copyWithGuards_9 : decode cX2_copyWithGuards 9 = .ok (.if_icmp .ge 70, 3) := by decide +kernel
theorem dX2_copyWithGuards_12 : decode cX2_copyWithGuards 12 = .ok (.aload_n 1, 1) := by decide +kernel
theorem dX2_copyWithGuards_13 : decode cX2_copyWithGuards 13 = .ok (.iload_n 3, 1) := by decide +kernel
theorem dX2_copyWithGuards_14 : decode cX2_copyWithGuards 14 = .ok (.invokevirtual 19, 3) := by decide +kernel
theorem dX2_copyWithGuards_17 : decode cX2_copyWithGuards 17 = .ok (.astore 4, 2) := by decide +kernel
theorem dX2_copyWithGuards_19 : decode cX2_copyWithGuards 19 = .ok (.aload 4, 2) := by decide +kernel
theorem dX2_copyWithGuards_21 : decode cX2_copyWithGuards 21 = .ok (.ifnonnull 7, 3) := by decide +kernel
theorem dX2_copyWithGuards_24 : decode cX2_copyWithGuards 24 = .ok (.aconst_null, 1) := by decide +kernel
theorem dX2_copyWithGuards_25 : decode cX2_copyWithGuards 25 = .ok (.goto 19, 3) := by decide +kernel
theorem dX2_copyWithGuards_28 : decode cX2_copyWithGuards 28 = .ok (.aload_n 2, 1) := by decide +kernel
theorem dX2_copyWithGuards_29 : decode cX2_copyWithGuards 29 = .ok (.aload 4, 2) := by decide +kernel
theorem dX2_copyWithGuards_31 : decode cX2_copyWithGuards 31 = .ok (.getfield 29, 3) := by decide +kernel
theorem dX2_copyWithGuards_34 : decode cX2_copyWithGuards 34 = .ok (.aload_n 0, 1) := by decide +kernel
theorem dX2_copyWithGuards_35 : decode cX2_copyWithGuards 35 = .ok (.aload 4, 2) := by decide +kernel
theorem dX2_copyWithGuards_37 : decode cX2_copyWithGuards 37 = .ok (.invokevirtual 25, 3) := by decide +kernel
theorem dX2_copyWithGuards_40 : decode cX2_copyWithGuards 40 = .ok (.iadd, 1) := by decide +kernel
theorem dX2_copyWithGuards_41 : decode cX2_copyWithGuards 41 = .ok (.invokevirtual 44, 3) := by decide +kernel
theorem dX2_copyWithGuards_44 : decode cX2_copyWithGuards 44 = .ok (.astore 5, 2) := by decide +kernel
theorem dX2_copyWithGuards_46 : decode cX2_copyWithGuards 46 = .ok (.aload 5, 2) := by decide +kernel
theorem dX2_copyWithGuards_48 : decode cX2_copyWithGuards 48 = .ok (.ifnull 25, 3) := by decide +kernel
theorem dX2_copyWithGuards_51 : decode cX2_copyWithGuards 51 = .ok (.aload_n 0, 1) := by decide +kernel
theorem dX2_copyWithGuards_52 : decode cX2_copyWithGuards 52 = .ok (.aload 4, 2) := by decide +kernel
theorem dX2_copyWithGuards_54 : decode cX2_copyWithGuards 54 = .ok (.aload 5, 2) := by decide +kernel
theorem dX2_copyWithGuards_56 : decode cX2_copyWithGuards 56 = .ok (.invokevirtual 47, 3) := by decide +kernel
theorem dX2_copyWithGuards_59 : decode cX2_copyWithGuards 59 = .ok (.aload_n 0, 1) := by decide +kernel
theorem dX2_copyWithGuards_60 : decode cX2_copyWithGuards 60 = .ok (.aload 5, 2) := by decide +kernel
theorem dX2_copyWithGuards_62 : decode cX2_copyWithGuards 62 = .ok (.invokevirtual 51, 3) := by decide +kernel
theorem dX2_copyWithGuards_65 : decode cX2_copyWithGuards 65 = .ok (.aload_n 0, 1) := by decide +kernel
theorem dX2_copyWithGuards_66 : decode cX2_copyWithGuards 66 = .ok (.aload 4, 2) := by decide +kernel
theorem dX2_copyWithGuards_68 : decode cX2_copyWithGuards 68 = .ok (.aload 5, 2) := by decide +kernel
theorem dX2_copyWithGuards_70 : decode cX2_copyWithGuards 70 = .ok (.invokevirtual 55, 3) := by decide +kernel
theorem dX2_copyWithGuards_73 : decode cX2_copyWithGuards 73 = .ok (.iinc 3 1, 3) := by decide +kernel
theorem dX2_copyWithGuards_76 : decode cX2_copyWithGuards 76 = .ok (.goto (-70), 3) := by decide +kernel
theorem dX2_copyWithGuards_79 : decode cX2_copyWithGuards 79 = .ok (.return_, 1) := by decide +kernel
def gm_X2_copyWithGuards_73 (fu : Nat) (K6 : Nat → Nat → Nat → Int32 → gx_H → Option (Unit × gx_H × Nat × Nat)) (a0 : Nat) (a1 : Nat) (a2 : Nat) (x3 : Int32) (X : gx_H) : Option (Unit × gx_H × Nat × Nat) :=
  K6 a0 a1 a2 (x3 + 1) X
set_option maxHeartbeats 1000000 in
set_option maxRecDepth 20000 in
theorem gt_X2_copyWithGuards_73 {p : Program} {l : Launch} {e : Env} {s : State} {m : MethodId} {args : Array Value} {below : List Frame} {meth : Method} {c : Code} {D : gx_D} {X2 : gx_H} {tc ts : Nat}  (C : gx_C D gz_cl gz_at gz_tb gz_nb p s m meth c cX2_copyWithGuards 6 RX2 none) (fu : Nat) (K6 : Nat → Nat → Nat → Int32 → gx_H → Option (Unit × gx_H × Nat × Nat)) (hK6 : ∀ (a0 : Nat) (a1 : Nat) (a2 : Nat) (x3 : Int32) (X : gx_H) (cells slots nc ns : Nat), K6 a0 a1 a2 x3 X = some ((), X2, nc, ns) → cells + nc = tc → slots + ns = ts → gx_W D gz_cl 6 p l e (gx_rm 5 115 tc ts) s m args below meth c cells slots (MQ below (gx_Q D gz_cl none X2) args s tc ts (gx_Z D)) X 6 [some (gx_r (some a0)), some (gx_r (some a1)), some (gx_r (some a2)), some (gx_i x3), none, none] []) (a0 : Nat) (a1 : Nat) (a2 : Nat) (x3 : Int32) (X : gx_H) (cells slots nc ns : Nat) (h : gm_X2_copyWithGuards_73 fu K6 a0 a1 a2 x3 X = some ((), X2, nc, ns)) (h1 : cells + nc = tc) (h2 : slots + ns = ts) : gx_W D gz_cl 6 p l e (gx_rm 5 115 tc ts) s m args below meth c cells slots (MQ below (gx_Q D gz_cl none X2) args s tc ts (gx_Z D)) X 73 [some (gx_r (some a0)), some (gx_r (some a1)), some (gx_r (some a2)), some (gx_i x3), none, none] [] := by
  unfold gm_X2_copyWithGuards_73 at h
  refine gx_iinc (v := (x3 + 1)) (lv2 := [some (gx_r (some a0)), some (gx_r (some a1)), some (gx_r (some a2)), some (gx_i (x3 + 1)), none, none]) C dX2_copyWithGuards_73 rfl rfl (by decide) rfl ?_
  refine gx_goto (tgt := 6) C dX2_copyWithGuards_76 (by decide) ?_
  exact hK6 a0 a1 a2 (x3 + 1) X cells slots _ _ h (by omega) (by omega)
def gm_X2_copyWithGuards_44 (fu : Nat) (K6 : Nat → Nat → Nat → Int32 → gx_H → Option (Unit × gx_H × Nat × Nat)) (a0 : Nat) (a1 : Nat) (a2 : Nat) (x3 : Int32) (o4 : Option Nat) (so0 : Option Nat) (X : gx_H) : Option (Unit × gx_H × Nat × Nat) :=
  gx_nl so0 (
  gm_X2_copyWithGuards_73 fu K6 a0 a1 a2 x3 X) fun az2 =>
  (o4).bind fun az3 =>
  gx_ob X a0 2 <|
  (gm_X2_copyInstructions fu a0 az3 az2 X).bind fun Xz5 =>
  gx_ob Xz5 a0 2 <|
  (gm_X2_moveTargets fu a0 az2 Xz5).bind fun Xz7 =>
  gx_ob Xz7 a0 2 <|
  (gm_X2_copyHandlers fu a0 az3 az2 Xz7).bind fun Xz9 =>
  gm_X2_copyWithGuards_73 fu K6 a0 a1 a2 x3 Xz9
set_option maxHeartbeats 1000000 in
set_option maxRecDepth 20000 in
theorem gt_X2_copyWithGuards_44 {p : Program} {l : Launch} {e : Env} {s : State} {m : MethodId} {args : Array Value} {below : List Frame} {meth : Method} {c : Code} {D : gx_D} {X2 : gx_H} {tc ts : Nat}  (C : gx_C D gz_cl gz_at gz_tb gz_nb p s m meth c cX2_copyWithGuards 6 RX2 none) (fu : Nat) (K6 : Nat → Nat → Nat → Int32 → gx_H → Option (Unit × gx_H × Nat × Nat)) (hK6 : ∀ (a0 : Nat) (a1 : Nat) (a2 : Nat) (x3 : Int32) (X : gx_H) (cells slots nc ns : Nat), K6 a0 a1 a2 x3 X = some ((), X2, nc, ns) → cells + nc = tc → slots + ns = ts → gx_W D gz_cl 6 p l e (gx_rm 5 115 tc ts) s m args below meth c cells slots (MQ below (gx_Q D gz_cl none X2) args s tc ts (gx_Z D)) X 6 [some (gx_r (some a0)), some (gx_r (some a1)), some (gx_r (some a2)), some (gx_i x3), none, none] []) (a0 : Nat) (a1 : Nat) (a2 : Nat) (x3 : Int32) (o4 : Option Nat) (so0 : Option Nat) (X : gx_H) (cells slots nc ns : Nat) (h : gm_X2_copyWithGuards_44 fu K6 a0 a1 a2 x3 o4 so0 X = some ((), X2, nc, ns)) (h1 : cells + nc = tc) (h2 : slots + ns = ts) : gx_W D gz_cl 6 p l e (gx_rm 5 115 tc ts) s m args below meth c cells slots (MQ below (gx_Q D gz_cl none X2) args s tc ts (gx_Z D)) X 44 [some (gx_r (some a0)), some (gx_r (some a1)), some (gx_r (some a2)), some (gx_i x3), some (gx_r o4), none] [gx_r so0] := by
  unfold gm_X2_copyWithGuards_44 at h
  refine gx_astore (lv2 := [some (gx_r (some a0)), some (gx_r (some a1)), some (gx_r (some a2)), some (gx_i x3), some (gx_r o4), some (gx_r so0)]) C dX2_copyWithGuards_44 (by decide) rfl ?_
  refine gx_aload C dX2_copyWithGuards_46 rfl ?_
  refine gx_ifnull (tgt := 73) C dX2_copyWithGuards_48 (by decide) (fun qz1 => ?_) (fun az2 qz1 => ?_)
  · subst qz1
    have h := gx_nl_n h
    refine gx_sub (lv2 := [some (gx_r (some a0)), some (gx_r (some a1)), some (gx_r (some a2)), some (gx_i x3), none, none]) [true, true, true, true, false, false] rfl ?_
    exact gt_X2_copyWithGuards_73 C fu K6 hK6 a0 a1 a2 x3 X cells slots _ _ h (by omega) (by omega)
  · subst qz1
    have h := gx_nl_s h
    refine gx_aload_n C dX2_copyWithGuards_51 rfl rfl ?_
    refine gx_aload C dX2_copyWithGuards_52 rfl ?_
    refine gx_aload C dX2_copyWithGuards_54 rfl ?_
    obtain ⟨az3, eaz3, h⟩ := gx_bd h
    subst eaz3
    obtain ⟨hoz4, h⟩ := gx_obs h
    obtain ⟨Xz5, eXz5, h⟩ := gx_bd h
    refine gx_callV (As := [gx_r (some az3), gx_r (some az2)]) (st := []) (stk2 := []) C cd_X2_copyInstructions wl_403 ws_X2_copyInstructions wl_401 rfl hoz4 (gc_X2_copyInstructions fu a0 az3 az2 X Xz5 eXz5) rfl ⟨Nat.le_of_ble_eq_true rfl, Nat.le_of_ble_eq_true rfl⟩ ⟨show cells + 0 ≤ tc by omega, show slots + 0 ≤ ts by omega⟩ (Nat.le_of_ble_eq_true rfl) rfl rfl dX2_copyWithGuards_56 ?_
    refine gx_aload_n C dX2_copyWithGuards_59 rfl rfl ?_
    refine gx_aload C dX2_copyWithGuards_60 rfl ?_
    obtain ⟨hoz6, h⟩ := gx_obs h
    obtain ⟨Xz7, eXz7, h⟩ := gx_bd h
    refine gx_callV (As := [gx_r (some az2)]) (st := []) (stk2 := []) C cd_X2_moveTargets wl_408 ws_X2_moveTargets wl_406 rfl hoz6 (gc_X2_moveTargets fu a0 az2 Xz5 Xz7 eXz7) rfl ⟨Nat.le_of_ble_eq_true rfl, Nat.le_of_ble_eq_true rfl⟩ ⟨show cells + 0 + 0 ≤ tc by omega, show slots + 0 + 0 ≤ ts by omega⟩ (Nat.le_of_ble_eq_true rfl) rfl rfl dX2_copyWithGuards_62 ?_
    refine gx_aload_n C dX2_copyWithGuards_65 rfl rfl ?_
    refine gx_aload C dX2_copyWithGuards_66 rfl ?_
    refine gx_aload C dX2_copyWithGuards_68 rfl ?_
    obtain ⟨hoz8, h⟩ := gx_obs h
    obtain ⟨Xz9, eXz9, h⟩ := gx_bd h
    refine gx_callV (As := [gx_r (some az3), gx_r (some az2)]) (st := []) (stk2 := []) C cd_X2_copyHandlers wl_413 ws_X2_copyHandlers wl_411 rfl hoz8 (gc_X2_copyHandlers fu a0 az3 az2 Xz7 Xz9 eXz9) rfl ⟨Nat.le_of_ble_eq_true rfl, Nat.le_of_ble_eq_true rfl⟩ ⟨show cells + 0 + 0 + 0 ≤ tc by omega, show slots + 0 + 0 + 0 ≤ ts by omega⟩ (Nat.le_of_ble_eq_true rfl) rfl rfl dX2_copyWithGuards_70 ?_
    refine gx_sub (lv2 := [some (gx_r (some a0)), some (gx_r (some a1)), some (gx_r (some a2)), some (gx_i x3), none, none]) [true, true, true, true, false, false] rfl ?_
    exact gt_X2_copyWithGuards_73 C fu K6 hK6 a0 a1 a2 x3 Xz9 (cells + 0 + 0 + 0) (slots + 0 + 0 + 0) _ _ h (by omega) (by omega)
def gm_X2_copyWithGuards_6 (fu : Nat) : Nat → Nat → Nat → Nat → Int32 → gx_H → Option (Unit × gx_H × Nat × Nat)
  | 0, _, _, _, _, _ => none
  | n + 1, a0, a1, a2, x3, X =>
    if (8 : Int32) ≤ x3 then (
    some ((), X, 0, 0)) else (
    gx_ob X a1 3 <|
    gx_b2 (gm_X3_body fu a1 x3 X) fun oz13 Xz12 =>
    gx_nl oz13 (
    gm_X2_copyWithGuards_44 fu (gm_X2_copyWithGuards_6 fu  n) a0 a1 a2 x3 none none Xz12) fun az15 =>
    (gx_gi Xz12 az15 0 6).bind fun vz16 =>
    gx_ob Xz12 a0 2 <|
    gx_b2 (gm_X2_lackingIn fu a0 az15 Xz12) fun vz19 Xz18 =>
    gx_ob Xz18 a2 3 <|
    gx_b4 (gm_X3_append fu a2 (vz16 + vz19) Xz18) fun oz22 Xz21 cz23 sz23 => gx_ad cz23 sz23 <|
    gm_X2_copyWithGuards_44 fu (gm_X2_copyWithGuards_6 fu  n) a0 a1 a2 x3 (some az15) oz22 Xz21)
set_option maxHeartbeats 1000000 in
set_option maxRecDepth 20000 in
theorem gt_X2_copyWithGuards_6 {p : Program} {l : Launch} {e : Env} {s : State} {m : MethodId} {args : Array Value} {below : List Frame} {meth : Method} {c : Code} {D : gx_D} {X2 : gx_H} {tc ts : Nat}  (C : gx_C D gz_cl gz_at gz_tb gz_nb p s m meth c cX2_copyWithGuards 6 RX2 none) (fu : Nat) : ∀ (n : Nat) (a0 : Nat) (a1 : Nat) (a2 : Nat) (x3 : Int32) (X : gx_H) (cells slots nc ns : Nat) , gm_X2_copyWithGuards_6 fu  n a0 a1 a2 x3 X = some ((), X2, nc, ns) → cells + nc = tc → slots + ns = ts → gx_W D gz_cl 6 p l e (gx_rm 5 115 tc ts) s m args below meth c cells slots (MQ below (gx_Q D gz_cl none X2) args s tc ts (gx_Z D)) X 6 [some (gx_r (some a0)), some (gx_r (some a1)), some (gx_r (some a2)), some (gx_i x3), none, none] [] := by
  intro n
  induction n with
  | zero =>
    intro a0 a1 a2 x3 X cells slots nc ns h
    have h : none = some _ := h
    cases h
  | succ n ih =>
    intro a0 a1 a2 x3 X cells slots nc ns h h1 h2
    rw [gm_X2_copyWithGuards_6] at h
    refine gx_iload_n C dX2_copyWithGuards_6 rfl rfl ?_
    refine gx_bipush (v := 8) C dX2_copyWithGuards_7 (by decide) ?_
    refine gx_icmp_ge (tgt := 79) C dX2_copyWithGuards_9 (by decide) (fun qz10 => ?_) (fun qz10 => ?_)
    · rw [if_pos qz10] at h
      cases h
      exact gx_widen (by omega) (by omega) (gx_vret C dX2_copyWithGuards_79)
    · rw [if_neg qz10] at h
      refine gx_aload_n C dX2_copyWithGuards_12 rfl rfl ?_
      refine gx_iload_n C dX2_copyWithGuards_13 rfl rfl ?_
      obtain ⟨hoz11, h⟩ := gx_obs h
      obtain ⟨oz13, Xz12, eXz12, h⟩ := gx_bd2 h
      refine gx_callV (As := [gx_i x3]) (st := []) (stk2 := [gx_r oz13]) C cd_X3_body wl_275 ws_X3_body wl_377 rfl hoz11 (gc_X3_body fu a1 x3 X oz13 Xz12 eXz12) rfl ⟨Nat.le_of_ble_eq_true rfl, Nat.le_of_ble_eq_true rfl⟩ ⟨show cells + 0 ≤ tc by omega, show slots + 0 ≤ ts by omega⟩ (Nat.le_of_ble_eq_true rfl) rfl rfl dX2_copyWithGuards_14 ?_
      refine gx_astore (lv2 := [some (gx_r (some a0)), some (gx_r (some a1)), some (gx_r (some a2)), some (gx_i x3), some (gx_r oz13), none]) C dX2_copyWithGuards_17 (by decide) rfl ?_
      refine gx_aload C dX2_copyWithGuards_19 rfl ?_
      refine gx_ifnonnull (tgt := 28) C dX2_copyWithGuards_21 (by decide) (fun az15 qz14 => ?_) (fun qz14 => ?_)
      · subst qz14
        have h := gx_nl_s h
        refine gx_aload_n C dX2_copyWithGuards_28 rfl rfl ?_
        refine gx_aload C dX2_copyWithGuards_29 rfl ?_
        obtain ⟨vz16, evz16, h⟩ := gx_bd h
        refine gx_get C kcX0 6 (by decide) wl_205 (gx_gi_s evz16) dX2_copyWithGuards_31 ?_
        refine gx_aload_n C dX2_copyWithGuards_34 rfl rfl ?_
        refine gx_aload C dX2_copyWithGuards_35 rfl ?_
        obtain ⟨hoz17, h⟩ := gx_obs h
        obtain ⟨vz19, Xz18, eXz18, h⟩ := gx_bd2 h
        refine gx_callV (As := [gx_r (some az15)]) (st := [gx_i vz16, gx_r (some a2)]) (stk2 := [gx_i vz19, gx_i vz16, gx_r (some a2)]) C cd_X2_lackingIn wl_380 ws_X2_lackingIn wl_378 rfl hoz17 (gc_X2_lackingIn fu a0 az15 Xz12 vz19 Xz18 eXz18) rfl ⟨Nat.le_of_ble_eq_true rfl, Nat.le_of_ble_eq_true rfl⟩ ⟨show cells + 0 + 0 ≤ tc by omega, show slots + 0 + 0 ≤ ts by omega⟩ (Nat.le_of_ble_eq_true rfl) rfl rfl dX2_copyWithGuards_37 ?_
        refine gx_iadd C dX2_copyWithGuards_40 ?_
        obtain ⟨hoz20, h⟩ := gx_obs h
        obtain ⟨oz22, Xz21, cz23, sz23, eXz21, h⟩ := gx_bd4 h
        obtain ⟨cz24, sz24, h, ecz24, esz24⟩ := gx_add h
        refine gx_callV (As := [gx_i (vz16 + vz19)]) (st := []) (stk2 := [gx_r oz22]) C cd_X3_append wl_171 ws_X3_append wl_400 rfl hoz20 (gc_X3_append fu a2 (vz16 + vz19) Xz18 oz22 Xz21 cz23 sz23 eXz21) rfl ⟨Nat.le_of_ble_eq_true rfl, Nat.le_of_ble_eq_true rfl⟩ ⟨show cells + 0 + 0 + cz23 ≤ tc by omega, show slots + 0 + 0 + sz23 ≤ ts by omega⟩ (Nat.le_of_ble_eq_true rfl) rfl rfl dX2_copyWithGuards_41 ?_
        exact gt_X2_copyWithGuards_44 C fu (gm_X2_copyWithGuards_6 fu  n) ih a0 a1 a2 x3 (some az15) oz22 Xz21 (cells + 0 + 0 + cz23) (slots + 0 + 0 + sz23) _ _ h (by omega) (by omega)
      · subst qz14
        have h := gx_nl_n h
        refine gx_null C dX2_copyWithGuards_24 ?_
        refine gx_goto (tgt := 44) C dX2_copyWithGuards_25 (by decide) ?_
        exact gt_X2_copyWithGuards_44 C fu (gm_X2_copyWithGuards_6 fu  n) ih a0 a1 a2 x3 none none Xz12 (cells + 0) (slots + 0) _ _ h (by omega) (by omega)
def gm_X2_copyWithGuards (fu : Nat) (this : Nat) (a_0 : Nat) (a_1 : Nat) (X : gx_H) : Option (Unit × gx_H × Nat × Nat) :=
  gx_ob X a_1 3 <|
  (gm_X3_clear fu a_1 X).bind fun Xz26 =>
  gm_X2_copyWithGuards_6 fu  fu this a_0 a_1 (0 : Int32) Xz26
set_option maxHeartbeats 1000000 in
set_option maxRecDepth 20000 in
theorem gc_X2_copyWithGuards {l : Launch} {D : gx_D} (fu : Nat) (this : Nat) (a_0 : Nat) (a_1 : Nat) (X : gx_H) (X2 : gx_H) (tc ts : Nat) (h : gm_X2_copyWithGuards fu this a_0 a_1 X = some ((), X2, tc, ts)) : gx_M D gz_cl gz_at gz_tb gz_nb l yX2_copyWithGuards cX2_copyWithGuards 6 none 5 115 [gx_r (some this), gx_r (some a_0), gx_r (some a_1)] X none X2 tc ts := by
  unfold gm_X2_copyWithGuards at h
  refine gx_enter [some (gx_r (some this)), some (gx_r (some a_0)), some (gx_r (some a_1)), none, none, none] rfl (by decide) (Nat.le_of_ble_eq_true rfl) ?_
  intro p e s m below meth c C _
  have h1 : 0 + tc = tc := Nat.zero_add tc
  have h2 : 0 + ts = ts := Nat.zero_add ts
  refine gx_aload_n C dX2_copyWithGuards_0 rfl rfl ?_
  obtain ⟨hoz25, h⟩ := gx_obs h
  obtain ⟨Xz26, eXz26, h⟩ := gx_bd h
  refine gx_callV (As := []) (st := []) (stk2 := []) C cd_X3_clear wl_123 ws_X3_clear wl_399 rfl hoz25 (gc_X3_clear fu a_1 X Xz26 eXz26) rfl ⟨Nat.le_of_ble_eq_true rfl, Nat.le_of_ble_eq_true rfl⟩ ⟨show 0 + 0 ≤ tc by omega, show 0 + 0 ≤ ts by omega⟩ (Nat.le_of_ble_eq_true rfl) rfl rfl dX2_copyWithGuards_1 ?_
  refine gx_iconst (v := 0) C dX2_copyWithGuards_4 (by decide) ?_
  refine gx_istore_n (lv2 := [some (gx_r (some this)), some (gx_r (some a_0)), some (gx_r (some a_1)), some (gx_i (0 : Int32)), none, none]) C dX2_copyWithGuards_5 rfl (by decide) rfl ?_
  exact gt_X2_copyWithGuards_6 C fu  fu this a_0 a_1 (0 : Int32) Xz26 (0 + 0) (0 + 0) _ _ h (by omega) (by omega)
theorem dX2_countLacking_0 : decode cX2_countLacking 0 = .ok (.iconst 0, 1) := by decide +kernel
theorem dX2_countLacking_1 : decode cX2_countLacking 1 = .ok (.istore_n 2, 1) := by decide +kernel
theorem dX2_countLacking_2 : decode cX2_countLacking 2 = .ok (.iconst 0, 1) := by decide +kernel
theorem dX2_countLacking_3 : decode cX2_countLacking 3 = .ok (.istore_n 3, 1) := by decide +kernel
theorem dX2_countLacking_4 : decode cX2_countLacking 4 = .ok (.iload_n 3, 1) := by decide +kernel
theorem dX2_countLacking_5 : decode cX2_countLacking 5 = .ok (.bipush 8, 2) := by decide +kernel
theorem dX2_countLacking_7 : decode cX2_countLacking 7 = .ok (.if_icmp .ge 50, 3) := by decide +kernel
theorem dX2_countLacking_10 : decode cX2_countLacking 10 = .ok (.aload_n 1, 1) := by decide +kernel
theorem dX2_countLacking_11 : decode cX2_countLacking 11 = .ok (.iload_n 3, 1) := by decide +kernel
theorem dX2_countLacking_12 : decode cX2_countLacking 12 = .ok (.invokevirtual 19, 3) := by decide +kernel
theorem dX2_countLacking_15 : decode cX2_countLacking 15 = .ok (.astore 4, 2) := by decide +kernel
theorem dX2_countLacking_17 : decode cX2_countLacking 17 = .ok (.aload 4, 2) := by decide +kernel
theorem dX2_countLacking_19 : decode cX2_countLacking 19 = .ok (.ifnull 32, 3) := by decide +kernel
theorem dX2_countLacking_22 : decode cX2_countLacking 22 = .ok (.aload_n 0, 1) := by decide +kernel
theorem dX2_countLacking_23 : decode cX2_countLacking 23 = .ok (.aload 4, 2) := by decide +kernel
theorem dX2_countLacking_25 : decode cX2_countLacking 25 = .ok (.invokevirtual 25, 3) := by decide +kernel
theorem dX2_countLacking_28 : decode cX2_countLacking 28 = .ok (.istore 5, 2) := by decide +kernel
theorem dX2_countLacking_30 : decode cX2_countLacking 30 = .ok (.aload 4, 2) := by decide +kernel
theorem dX2_countLacking_32 : decode cX2_countLacking 32 = .ok (.getfield 29, 3) := by decide +kernel
theorem dX2_countLacking_35 : decode cX2_countLacking 35 = .ok (.iload 5, 2) := by decide +kernel
theorem dX2_countLacking_37 : decode cX2_countLacking 37 = .ok (.iadd, 1) := by decide +kernel
theorem dX2_countLacking_38 : decode cX2_countLacking 38 = .ok (.sipush 200, 3) := by decide +kernel
theorem dX2_countLacking_41 : decode cX2_countLacking 41 = .ok (.if_icmp .le 5, 3) := by decide +kernel
theorem dX2_countLacking_44 : decode cX2_countLacking 44 = .ok (.iconst (-1), 1) := by decide +kernel
theorem dX2_countLacking_45 : decode cX2_countLacking 45 = .ok (.ireturn, 1) := by decide +kernel
theorem dX2_countLacking_46 : decode cX2_countLacking 46 = .ok (.iload_n 2, 1) := by decide +kernel
theorem dX2_countLacking_47 : decode cX2_countLacking 47 = .ok (.iload 5, 2) := by decide +kernel
theorem dX2_countLacking_49 : decode cX2_countLacking 49 = .ok (.iadd, 1) := by decide +kernel
theorem dX2_countLacking_50 : decode cX2_countLacking 50 = .ok (.istore_n 2, 1) := by decide +kernel
theorem dX2_countLacking_51 : decode cX2_countLacking 51 = .ok (.iinc 3 1, 3) := by decide +kernel
theorem dX2_countLacking_54 : decode cX2_countLacking 54 = .ok (.goto (-50), 3) := by decide +kernel
theorem dX2_countLacking_57 : decode cX2_countLacking 57 = .ok (.iload_n 2, 1) := by decide +kernel
theorem dX2_countLacking_58 : decode cX2_countLacking 58 = .ok (.ireturn, 1) := by decide +kernel
def gm_X2_countLacking_51 (fu : Nat) (K4 : Nat → Nat → Int32 → Int32 → gx_H → Option (Int32 × gx_H)) (a0 : Nat) (a1 : Nat) (x2 : Int32) (x3 : Int32) (X : gx_H) : Option (Int32 × gx_H) :=
  K4 a0 a1 x2 (x3 + 1) X
set_option maxHeartbeats 1000000 in
set_option maxRecDepth 20000 in
theorem gt_X2_countLacking_51 {p : Program} {l : Launch} {e : Env} {s : State} {m : MethodId} {args : Array Value} {below : List Frame} {meth : Method} {c : Code} {D : gx_D} {r : Int32} {X2 : gx_H}  (C : gx_C D gz_cl gz_at gz_tb gz_nb p s m meth c cX2_countLacking 6 RX2 (some .int)) (fu : Nat) (K4 : Nat → Nat → Int32 → Int32 → gx_H → Option (Int32 × gx_H)) (hK4 : ∀ (a0 : Nat) (a1 : Nat) (x2 : Int32) (x3 : Int32) (X : gx_H), K4 a0 a1 x2 x3 X = some (r, X2) → gx_W D gz_cl 6 p l e (gx_rm 5 114 0 0) s m args below meth c 0 0 (MQ below (gx_Q D gz_cl (some (gx_i r)) X2) args s 0 0 (gx_Z D)) X 4 [some (gx_r (some a0)), some (gx_r (some a1)), some (gx_i x2), some (gx_i x3), none, none] []) (a0 : Nat) (a1 : Nat) (x2 : Int32) (x3 : Int32) (X : gx_H) (h : gm_X2_countLacking_51 fu K4 a0 a1 x2 x3 X = some (r, X2)) : gx_W D gz_cl 6 p l e (gx_rm 5 114 0 0) s m args below meth c 0 0 (MQ below (gx_Q D gz_cl (some (gx_i r)) X2) args s 0 0 (gx_Z D)) X 51 [some (gx_r (some a0)), some (gx_r (some a1)), some (gx_i x2), some (gx_i x3), none, none] [] := by
  unfold gm_X2_countLacking_51 at h
  refine gx_iinc (v := (x3 + 1)) (lv2 := [some (gx_r (some a0)), some (gx_r (some a1)), some (gx_i x2), some (gx_i (x3 + 1)), none, none]) C dX2_countLacking_51 rfl rfl (by decide) rfl ?_
  refine gx_goto (tgt := 4) C dX2_countLacking_54 (by decide) ?_
  exact hK4 a0 a1 x2 (x3 + 1) X h
def gm_X2_countLacking_4 (fu : Nat) : Nat → Nat → Nat → Int32 → Int32 → gx_H → Option (Int32 × gx_H)
  | 0, _, _, _, _, _ => none
  | n + 1, a0, a1, x2, x3, X =>
    if (8 : Int32) ≤ x3 then (
    some (x2, X)) else (
    gx_ob X a1 3 <|
    gx_b2 (gm_X3_body fu a1 x3 X) fun oz4 Xz3 =>
    gx_nl oz4 (
    gm_X2_countLacking_51 fu (gm_X2_countLacking_4 fu  n) a0 a1 x2 x3 Xz3) fun az6 =>
    gx_ob Xz3 a0 2 <|
    gx_b2 (gm_X2_lackingIn fu a0 az6 Xz3) fun vz9 Xz8 =>
    (gx_gi Xz8 az6 0 6).bind fun vz10 =>
    if (vz10 + vz9) ≤ (200 : Int32) then (
    gm_X2_countLacking_51 fu (gm_X2_countLacking_4 fu  n) a0 a1 (x2 + vz9) x3 Xz8) else (
    some ((-1 : Int32), Xz8)))
set_option maxHeartbeats 1000000 in
set_option maxRecDepth 20000 in
theorem gt_X2_countLacking_4 {p : Program} {l : Launch} {e : Env} {s : State} {m : MethodId} {args : Array Value} {below : List Frame} {meth : Method} {c : Code} {D : gx_D} {r : Int32} {X2 : gx_H}  (C : gx_C D gz_cl gz_at gz_tb gz_nb p s m meth c cX2_countLacking 6 RX2 (some .int)) (fu : Nat) : ∀ (n : Nat) (a0 : Nat) (a1 : Nat) (x2 : Int32) (x3 : Int32) (X : gx_H) , gm_X2_countLacking_4 fu  n a0 a1 x2 x3 X = some (r, X2) → gx_W D gz_cl 6 p l e (gx_rm 5 114 0 0) s m args below meth c 0 0 (MQ below (gx_Q D gz_cl (some (gx_i r)) X2) args s 0 0 (gx_Z D)) X 4 [some (gx_r (some a0)), some (gx_r (some a1)), some (gx_i x2), some (gx_i x3), none, none] [] := by
  intro n
  induction n with
  | zero =>
    intro a0 a1 x2 x3 X h
    have h : none = some _ := h
    cases h
  | succ n ih =>
    intro a0 a1 x2 x3 X h
    rw [gm_X2_countLacking_4] at h
    refine gx_iload_n C dX2_countLacking_4 rfl rfl ?_
    refine gx_bipush (v := 8) C dX2_countLacking_5 (by decide) ?_
    refine gx_icmp_ge (tgt := 57) C dX2_countLacking_7 (by decide) (fun qz1 => ?_) (fun qz1 => ?_)
    · rw [if_pos qz1] at h
      refine gx_iload_n C dX2_countLacking_57 rfl rfl ?_
      cases h
      exact gx_iret C dX2_countLacking_58
    · rw [if_neg qz1] at h
      refine gx_aload_n C dX2_countLacking_10 rfl rfl ?_
      refine gx_iload_n C dX2_countLacking_11 rfl rfl ?_
      obtain ⟨hoz2, h⟩ := gx_obs h
      obtain ⟨oz4, Xz3, eXz3, h⟩ := gx_bd2 h
      refine gx_callV (As := [gx_i x3]) (st := []) (stk2 := [gx_r oz4]) C cd_X3_body wl_275 ws_X3_body wl_377 rfl hoz2 (gc_X3_body fu a1 x3 X oz4 Xz3 eXz3) rfl ⟨Nat.le_of_ble_eq_true rfl, Nat.le_of_ble_eq_true rfl⟩ ⟨Nat.le_of_ble_eq_true rfl, Nat.le_of_ble_eq_true rfl⟩ (Nat.le_of_ble_eq_true rfl) rfl rfl dX2_countLacking_12 ?_
      refine gx_astore (lv2 := [some (gx_r (some a0)), some (gx_r (some a1)), some (gx_i x2), some (gx_i x3), some (gx_r oz4), none]) C dX2_countLacking_15 (by decide) rfl ?_
      refine gx_aload C dX2_countLacking_17 rfl ?_
      refine gx_ifnull (tgt := 51) C dX2_countLacking_19 (by decide) (fun qz5 => ?_) (fun az6 qz5 => ?_)
      · subst qz5
        have h := gx_nl_n h
        refine gx_sub (lv2 := [some (gx_r (some a0)), some (gx_r (some a1)), some (gx_i x2), some (gx_i x3), none, none]) [true, true, true, true, false, false] rfl ?_
        exact gt_X2_countLacking_51 C fu (gm_X2_countLacking_4 fu  n) ih a0 a1 x2 x3 Xz3 h
      · subst qz5
        have h := gx_nl_s h
        refine gx_aload_n C dX2_countLacking_22 rfl rfl ?_
        refine gx_aload C dX2_countLacking_23 rfl ?_
        obtain ⟨hoz7, h⟩ := gx_obs h
        obtain ⟨vz9, Xz8, eXz8, h⟩ := gx_bd2 h
        refine gx_callV (As := [gx_r (some az6)]) (st := []) (stk2 := [gx_i vz9]) C cd_X2_lackingIn wl_380 ws_X2_lackingIn wl_378 rfl hoz7 (gc_X2_lackingIn fu a0 az6 Xz3 vz9 Xz8 eXz8) rfl ⟨Nat.le_of_ble_eq_true rfl, Nat.le_of_ble_eq_true rfl⟩ ⟨Nat.le_of_ble_eq_true rfl, Nat.le_of_ble_eq_true rfl⟩ (Nat.le_of_ble_eq_true rfl) rfl rfl dX2_countLacking_25 ?_
        refine gx_istore (lv2 := [some (gx_r (some a0)), some (gx_r (some a1)), some (gx_i x2), some (gx_i x3), some (gx_r (some az6)), some (gx_i vz9)]) C dX2_countLacking_28 (by decide) rfl ?_
        refine gx_aload C dX2_countLacking_30 rfl ?_
        obtain ⟨vz10, evz10, h⟩ := gx_bd h
        refine gx_get C kcX0 6 (by decide) wl_205 (gx_gi_s evz10) dX2_countLacking_32 ?_
        refine gx_iload C dX2_countLacking_35 rfl ?_
        refine gx_iadd C dX2_countLacking_37 ?_
        refine gx_sipush (v := 200) C dX2_countLacking_38 (by decide) ?_
        refine gx_icmp_le (tgt := 46) C dX2_countLacking_41 (by decide) (fun qz11 => ?_) (fun qz11 => ?_)
        · rw [if_pos qz11] at h
          refine gx_iload_n C dX2_countLacking_46 rfl rfl ?_
          refine gx_iload C dX2_countLacking_47 rfl ?_
          refine gx_iadd C dX2_countLacking_49 ?_
          refine gx_istore_n (lv2 := [some (gx_r (some a0)), some (gx_r (some a1)), some (gx_i (x2 + vz9)), some (gx_i x3), some (gx_r (some az6)), some (gx_i vz9)]) C dX2_countLacking_50 rfl (by decide) rfl ?_
          refine gx_sub (lv2 := [some (gx_r (some a0)), some (gx_r (some a1)), some (gx_i (x2 + vz9)), some (gx_i x3), none, none]) [true, true, true, true, false, false] rfl ?_
          exact gt_X2_countLacking_51 C fu (gm_X2_countLacking_4 fu  n) ih a0 a1 (x2 + vz9) x3 Xz8 h
        · rw [if_neg qz11] at h
          refine gx_iconst (v := -1) C dX2_countLacking_44 (by decide) ?_
          cases h
          exact gx_iret C dX2_countLacking_45
def gm_X2_countLacking (fu : Nat) (this : Nat) (a_0 : Nat) (X : gx_H) : Option (Int32 × gx_H) :=
  gm_X2_countLacking_4 fu  fu this a_0 (0 : Int32) (0 : Int32) X
set_option maxHeartbeats 1000000 in
set_option maxRecDepth 20000 in
theorem gc_X2_countLacking {l : Launch} {D : gx_D} (fu : Nat) (this : Nat) (a_0 : Nat) (X : gx_H) (r : Int32) (X2 : gx_H) (h : gm_X2_countLacking fu this a_0 X = some (r, X2)) : gx_M D gz_cl gz_at gz_tb gz_nb l yX2_countLacking cX2_countLacking 6 (some .int) 5 114 [gx_r (some this), gx_r (some a_0)] X (some (gx_i r)) X2 0 0 := by
  unfold gm_X2_countLacking at h
  refine gx_enter [some (gx_r (some this)), some (gx_r (some a_0)), none, none, none, none] rfl (by decide) (Nat.le_of_ble_eq_true rfl) ?_
  intro p e s m below meth c C _
  refine gx_iconst (v := 0) C dX2_countLacking_0 (by decide) ?_
  refine gx_istore_n (lv2 := [some (gx_r (some this)), some (gx_r (some a_0)), some (gx_i (0 : Int32)), none, none, none]) C dX2_countLacking_1 rfl (by decide) rfl ?_
  refine gx_iconst (v := 0) C dX2_countLacking_2 (by decide) ?_
  refine gx_istore_n (lv2 := [some (gx_r (some this)), some (gx_r (some a_0)), some (gx_i (0 : Int32)), some (gx_i (0 : Int32)), none, none]) C dX2_countLacking_3 rfl (by decide) rfl ?_
  exact gt_X2_countLacking_4 C fu  fu this a_0 (0 : Int32) (0 : Int32) X h
theorem dX2_init_0 : decode cX2_init 0 = .ok (.aload_n 0, 1) := by decide +kernel
theorem dX2_init_1 : decode cX2_init 1 = .ok (.invokespecial 3, 3) := by decide +kernel
theorem dX2_init_4 : decode cX2_init 4 = .ok (.aload_n 0, 1) := by decide +kernel
theorem dX2_init_5 : decode cX2_init 5 = .ok (.sipush 201, 3) := by decide +kernel
theorem dX2_init_8 : decode cX2_init 8 = .ok (.newarray .int, 2) := by decide +kernel
theorem dX2_init_10 : decode cX2_init 10 = .ok (.putfield 9, 3) := by decide +kernel
theorem dX2_init_13 : decode cX2_init 13 = .ok (.aload_n 0, 1) := by decide +kernel
theorem dX2_init_14 : decode cX2_init 14 = .ok (.aload_n 1, 1) := by decide +kernel
theorem dX2_init_15 : decode cX2_init 15 = .ok (.putfield 15, 3) := by decide +kernel
theorem dX2_init_18 : decode cX2_init 18 = .ok (.return_, 1) := by decide +kernel
def gm_X2_init (fu : Nat) (this : Nat) (a_0 : Nat) (X : gx_H) : Option (Unit × gx_H × Nat × Nat) :=
  gx_ad 1 201 <|
  (gx_pf (gx_nw X (.inl (0, 201, .inl fun _ => 0))) this 2 1 (.ref X.2)).bind fun Xz2 =>
  (gx_pf Xz2 this 2 0 (.ref a_0)).bind fun Xz3 =>
  some ((), Xz3, 0, 0)
set_option maxHeartbeats 1000000 in
set_option maxRecDepth 20000 in
theorem gc_X2_init {l : Launch} {D : gx_D} (fu : Nat) (this : Nat) (a_0 : Nat) (X : gx_H) (X2 : gx_H) (tc ts : Nat) (h : gm_X2_init fu this a_0 X = some ((), X2, tc, ts)) : gx_M D gz_cl gz_at gz_tb gz_nb l yX2_init cX2_init 2 none 1 20 [gx_r (some this), gx_r (some a_0)] X none X2 tc ts := by
  unfold gm_X2_init at h
  refine gx_enter [some (gx_r (some this)), some (gx_r (some a_0))] rfl (by decide) (Nat.le_of_ble_eq_true rfl) ?_
  intro p e s m below meth c C hin
  have h1 : 0 + tc = tc := Nat.zero_add tc
  have h2 : 0 + ts = ts := Nat.zero_add ts
  refine gx_aload_n C dX2_init_0 rfl rfl ?_
  refine gx_objInit C wl_66 wl_15 wl_16 dX2_init_1 (Nat.le_of_ble_eq_true rfl) (Nat.le_of_ble_eq_true rfl) ?_
  refine gx_aload_n C dX2_init_4 rfl rfl ?_
  refine gx_sipush (v := 201) C dX2_init_5 (by decide) ?_
  obtain ⟨cz1, sz1, h, ecz1, esz1⟩ := gx_add h
  refine gx_newa (t := 0) (N' := 201) (a0 := (201, .inl fun _ => 0)) C rfl rfl (fun _ _ q => q) wl_60 (fun _ => rfl) (by decide) (by decide) (by decide) (show 0 + 1 ≤ tc by omega) (show 0 + 201 ≤ ts by omega) dX2_init_8 ?_
  obtain ⟨Xz2, eXz2, h⟩ := gx_bd h
  refine gx_putF C kcX2 1 (by decide) rfl hin rfl wl_68 ⟨rfl, rfl⟩ eXz2 dX2_init_10 ?_
  refine gx_aload_n C dX2_init_13 rfl rfl ?_
  refine gx_aload_n C dX2_init_14 rfl rfl ?_
  obtain ⟨Xz3, eXz3, h⟩ := gx_bd h
  refine gx_putF C kcX2 0 (by decide) rfl hin rfl wl_67 ⟨rfl, rfl⟩ eXz3 dX2_init_15 ?_
  cases h
  exact gx_widen (by omega) (by omega) (gx_vret C dX2_init_18)
theorem dX3_countInstructions_0 : decode cX3_countInstructions 0 = .ok (.iconst 0, 1) := by decide +kernel
theorem dX3_countInstructions_1 : decode cX3_countInstructions 1 = .ok (.istore_n 1, 1) := by decide +kernel
theorem dX3_countInstructions_2 : decode cX3_countInstructions 2 = .ok (.iconst 0, 1) := by decide +kernel
theorem dX3_countInstructions_3 : decode cX3_countInstructions 3 = .ok (.istore_n 2, 1) := by decide +kernel
theorem dX3_countInstructions_4 : decode cX3_countInstructions 4 = .ok (.iload_n 2, 1) := by decide +kernel
theorem dX3_countInstructions_5 : decode cX3_countInstructions 5 = .ok (.aload_n 0, 1) := by decide +kernel
theorem dX3_countInstructions_6 : decode cX3_countInstructions 6 = .ok (.getfield 17, 3) := by decide +kernel
theorem dX3_countInstructions_9 : decode cX3_countInstructions 9 = .ok (.if_icmp .ge 30, 3) := by decide +kernel
theorem dX3_countInstructions_12 : decode cX3_countInstructions 12 = .ok (.aload_n 0, 1) := by decide +kernel
theorem dX3_countInstructions_13 : decode cX3_countInstructions 13 = .ok (.iload_n 2, 1) := by decide +kernel
theorem dX3_countInstructions_14 : decode cX3_countInstructions 14 = .ok (.invokevirtual 31, 3) := by decide +kernel
theorem dX3_countInstructions_17 : decode cX3_countInstructions 17 = .ok (.astore_n 3, 1) := by decide +kernel
theorem dX3_countInstructions_18 : decode cX3_countInstructions 18 = .ok (.iload_n 1, 1) := by decide +kernel
theorem dX3_countInstructions_19 : decode cX3_countInstructions 19 = .ok (.aload_n 3, 1) := by decide +kernel
theorem dX3_countInstructions_20 : decode cX3_countInstructions 20 = .ok (.ifnonnull 7, 3) := by decide +kernel
theorem dX3_countInstructions_23 : decode cX3_countInstructions 23 = .ok (.iconst 0, 1) := by decide +kernel
theorem dX3_countInstructions_24 : decode cX3_countInstructions 24 = .ok (.goto 7, 3) := by decide +kernel
theorem dX3_countInstructions_27 : decode cX3_countInstructions 27 = .ok (.aload_n 3, 1) := by decide +kernel
theorem dX3_countInstructions_28 : decode cX3_countInstructions 28 = .ok (.getfield 35, 3) := by decide +kernel
theorem dX3_countInstructions_31 : decode cX3_countInstructions 31 = .ok (.iadd, 1) := by decide +kernel
theorem dX3_countInstructions_32 : decode cX3_countInstructions 32 = .ok (.istore_n 1, 1) := by decide +kernel
theorem dX3_countInstructions_33 : decode cX3_countInstructions 33 = .ok (.iinc 2 1, 3) := by decide +kernel
theorem dX3_countInstructions_36 : decode cX3_countInstructions 36 = .ok (.goto (-32), 3) := by decide +kernel
theorem dX3_countInstructions_39 : decode cX3_countInstructions 39 = .ok (.iload_n 1, 1) := by decide +kernel
theorem dX3_countInstructions_40 : decode cX3_countInstructions 40 = .ok (.ireturn, 1) := by decide +kernel
def gm_X3_countInstructions_31 (fu : Nat) (K4 : Nat → Int32 → Int32 → gx_H → Option (Int32 × gx_H)) (a0 : Nat) (x2 : Int32) (sx0 : Int32) (sx1 : Int32) (X : gx_H) : Option (Int32 × gx_H) :=
  K4 a0 (sx0 + sx1) (x2 + 1) X
set_option maxHeartbeats 1000000 in
set_option maxRecDepth 20000 in
theorem gt_X3_countInstructions_31 {p : Program} {l : Launch} {e : Env} {s : State} {m : MethodId} {args : Array Value} {below : List Frame} {meth : Method} {c : Code} {D : gx_D} {r : Int32} {X2 : gx_H}  (C : gx_C D gz_cl gz_at gz_tb gz_nb p s m meth c cX3_countInstructions 4 RX3 (some .int)) (fu : Nat) (K4 : Nat → Int32 → Int32 → gx_H → Option (Int32 × gx_H)) (hK4 : ∀ (a0 : Nat) (x1 : Int32) (x2 : Int32) (X : gx_H), K4 a0 x1 x2 X = some (r, X2) → gx_W D gz_cl 4 p l e (gx_rm 1 21 0 0) s m args below meth c 0 0 (MQ below (gx_Q D gz_cl (some (gx_i r)) X2) args s 0 0 (gx_Z D)) X 4 [some (gx_r (some a0)), some (gx_i x1), some (gx_i x2), none] []) (a0 : Nat) (x2 : Int32) (sx0 : Int32) (sx1 : Int32) (X : gx_H) (h : gm_X3_countInstructions_31 fu K4 a0 x2 sx0 sx1 X = some (r, X2)) : gx_W D gz_cl 4 p l e (gx_rm 1 21 0 0) s m args below meth c 0 0 (MQ below (gx_Q D gz_cl (some (gx_i r)) X2) args s 0 0 (gx_Z D)) X 31 [some (gx_r (some a0)), none, some (gx_i x2), none] [gx_i sx1, gx_i sx0] := by
  unfold gm_X3_countInstructions_31 at h
  refine gx_iadd C dX3_countInstructions_31 ?_
  refine gx_istore_n (lv2 := [some (gx_r (some a0)), some (gx_i (sx0 + sx1)), some (gx_i x2), none]) C dX3_countInstructions_32 rfl (by decide) rfl ?_
  refine gx_iinc (v := (x2 + 1)) (lv2 := [some (gx_r (some a0)), some (gx_i (sx0 + sx1)), some (gx_i (x2 + 1)), none]) C dX3_countInstructions_33 rfl rfl (by decide) rfl ?_
  refine gx_goto (tgt := 4) C dX3_countInstructions_36 (by decide) ?_
  exact hK4 a0 (sx0 + sx1) (x2 + 1) X h
def gm_X3_countInstructions_4 (fu : Nat) : Nat → Nat → Int32 → Int32 → gx_H → Option (Int32 × gx_H)
  | 0, _, _, _, _ => none
  | n + 1, a0, x1, x2, X =>
    (gx_gi X a0 3 1).bind fun vz1 =>
    if vz1 ≤ x2 then (
    some (x1, X)) else (
    gx_ob X a0 3 <|
    gx_b2 (gm_X3_body fu a0 x2 X) fun oz5 Xz4 =>
    gx_nl oz5 (
    gm_X3_countInstructions_31 fu (gm_X3_countInstructions_4 fu  n) a0 x2 x1 (0 : Int32) Xz4) fun az7 =>
    (gx_gi Xz4 az7 0 6).bind fun vz8 =>
    gm_X3_countInstructions_31 fu (gm_X3_countInstructions_4 fu  n) a0 x2 x1 vz8 Xz4)
set_option maxHeartbeats 1000000 in
set_option maxRecDepth 20000 in
theorem gt_X3_countInstructions_4 {p : Program} {l : Launch} {e : Env} {s : State} {m : MethodId} {args : Array Value} {below : List Frame} {meth : Method} {c : Code} {D : gx_D} {r : Int32} {X2 : gx_H}  (C : gx_C D gz_cl gz_at gz_tb gz_nb p s m meth c cX3_countInstructions 4 RX3 (some .int)) (fu : Nat) : ∀ (n : Nat) (a0 : Nat) (x1 : Int32) (x2 : Int32) (X : gx_H) , gm_X3_countInstructions_4 fu  n a0 x1 x2 X = some (r, X2) → gx_W D gz_cl 4 p l e (gx_rm 1 21 0 0) s m args below meth c 0 0 (MQ below (gx_Q D gz_cl (some (gx_i r)) X2) args s 0 0 (gx_Z D)) X 4 [some (gx_r (some a0)), some (gx_i x1), some (gx_i x2), none] [] := by
  intro n
  induction n with
  | zero =>
    intro a0 x1 x2 X h
    have h : none = some _ := h
    cases h
  | succ n ih =>
    intro a0 x1 x2 X h
    rw [gm_X3_countInstructions_4] at h
    refine gx_iload_n C dX3_countInstructions_4 rfl rfl ?_
    refine gx_aload_n C dX3_countInstructions_5 rfl rfl ?_
    obtain ⟨vz1, evz1, h⟩ := gx_bd h
    refine gx_get C kcX3 1 (by decide) wl_83 (gx_gi_s evz1) dX3_countInstructions_6 ?_
    refine gx_icmp_ge (tgt := 39) C dX3_countInstructions_9 (by decide) (fun qz2 => ?_) (fun qz2 => ?_)
    · rw [if_pos qz2] at h
      refine gx_iload_n C dX3_countInstructions_39 rfl rfl ?_
      cases h
      exact gx_iret C dX3_countInstructions_40
    · rw [if_neg qz2] at h
      refine gx_aload_n C dX3_countInstructions_12 rfl rfl ?_
      refine gx_iload_n C dX3_countInstructions_13 rfl rfl ?_
      obtain ⟨hoz3, h⟩ := gx_obs h
      obtain ⟨oz5, Xz4, eXz4, h⟩ := gx_bd2 h
      refine gx_callV (As := [gx_i x2]) (st := []) (stk2 := [gx_r oz5]) C cd_X3_body wl_275 ws_X3_body wl_485 rfl hoz3 (gc_X3_body fu a0 x2 X oz5 Xz4 eXz4) rfl ⟨Nat.le_of_ble_eq_true rfl, Nat.le_of_ble_eq_true rfl⟩ ⟨Nat.le_of_ble_eq_true rfl, Nat.le_of_ble_eq_true rfl⟩ (Nat.le_of_ble_eq_true rfl) rfl rfl dX3_countInstructions_14 ?_
      refine gx_astore_n (lv2 := [some (gx_r (some a0)), some (gx_i x1), some (gx_i x2), some (gx_r oz5)]) C dX3_countInstructions_17 rfl (by decide) rfl ?_
      refine gx_iload_n C dX3_countInstructions_18 rfl rfl ?_
      refine gx_aload_n C dX3_countInstructions_19 rfl rfl ?_
      refine gx_ifnonnull (tgt := 27) C dX3_countInstructions_20 (by decide) (fun az7 qz6 => ?_) (fun qz6 => ?_)
      · subst qz6
        have h := gx_nl_s h
        refine gx_aload_n C dX3_countInstructions_27 rfl rfl ?_
        obtain ⟨vz8, evz8, h⟩ := gx_bd h
        refine gx_get C kcX0 6 (by decide) wl_206 (gx_gi_s evz8) dX3_countInstructions_28 ?_
        refine gx_sub (lv2 := [some (gx_r (some a0)), none, some (gx_i x2), none]) [true, false, true, false] rfl ?_
        exact gt_X3_countInstructions_31 C fu (gm_X3_countInstructions_4 fu  n) ih a0 x2 x1 vz8 Xz4 h
      · subst qz6
        have h := gx_nl_n h
        refine gx_iconst (v := 0) C dX3_countInstructions_23 (by decide) ?_
        refine gx_goto (tgt := 31) C dX3_countInstructions_24 (by decide) ?_
        refine gx_sub (lv2 := [some (gx_r (some a0)), none, some (gx_i x2), none]) [true, false, true, false] rfl ?_
        exact gt_X3_countInstructions_31 C fu (gm_X3_countInstructions_4 fu  n) ih a0 x2 x1 (0 : Int32) Xz4 h
def gm_X3_countInstructions (fu : Nat) (this : Nat) (X : gx_H) : Option (Int32 × gx_H) :=
  gm_X3_countInstructions_4 fu  fu this (0 : Int32) (0 : Int32) X
set_option maxHeartbeats 1000000 in
set_option maxRecDepth 20000 in
theorem gc_X3_countInstructions {l : Launch} {D : gx_D} (fu : Nat) (this : Nat) (X : gx_H) (r : Int32) (X2 : gx_H) (h : gm_X3_countInstructions fu this X = some (r, X2)) : gx_M D gz_cl gz_at gz_tb gz_nb l yX3_countInstructions cX3_countInstructions 4 (some .int) 1 21 [gx_r (some this)] X (some (gx_i r)) X2 0 0 := by
  unfold gm_X3_countInstructions at h
  refine gx_enter [some (gx_r (some this)), none, none, none] rfl (by decide) (Nat.le_of_ble_eq_true rfl) ?_
  intro p e s m below meth c C _
  refine gx_iconst (v := 0) C dX3_countInstructions_0 (by decide) ?_
  refine gx_istore_n (lv2 := [some (gx_r (some this)), some (gx_i (0 : Int32)), none, none]) C dX3_countInstructions_1 rfl (by decide) rfl ?_
  refine gx_iconst (v := 0) C dX3_countInstructions_2 (by decide) ?_
  refine gx_istore_n (lv2 := [some (gx_r (some this)), some (gx_i (0 : Int32)), some (gx_i (0 : Int32)), none]) C dX3_countInstructions_3 rfl (by decide) rfl ?_
  exact gt_X3_countInstructions_4 C fu  fu this (0 : Int32) (0 : Int32) X h
theorem dX3_init_0 : decode cX3_init 0 = .ok (.aload_n 0, 1) := by decide +kernel
theorem dX3_init_1 : decode cX3_init 1 = .ok (.invokespecial 3, 3) := by decide +kernel
theorem dX3_init_4 : decode cX3_init 4 = .ok (.aload_n 0, 1) := by decide +kernel
theorem dX3_init_5 : decode cX3_init 5 = .ok (.bipush 8, 2) := by decide +kernel
theorem dX3_init_7 : decode cX3_init 7 = .ok (.anewarray 9, 3) := by decide +kernel
theorem dX3_init_10 : decode cX3_init 10 = .ok (.putfield 11, 3) := by decide +kernel
theorem dX3_init_13 : decode cX3_init 13 = .ok (.return_, 1) := by decide +kernel
def gm_X3_init (fu : Nat) (this : Nat) (X : gx_H) : Option (Unit × gx_H × Nat × Nat) :=
  gx_ad 1 8 <|
  (gx_pf (gx_nw X (.inl (3, 8, .inr (.inr (.inr (.inr fun _ => none)))))) this 3 0 (.ref X.2)).bind fun Xz2 =>
  some ((), Xz2, 0, 0)
set_option maxHeartbeats 1000000 in
set_option maxRecDepth 20000 in
theorem gc_X3_init {l : Launch} {D : gx_D} (fu : Nat) (this : Nat) (X : gx_H) (X2 : gx_H) (tc ts : Nat) (h : gm_X3_init fu this X = some ((), X2, tc, ts)) : gx_M D gz_cl gz_at gz_tb gz_nb l yX3_init cX3_init 1 none 1 20 [gx_r (some this)] X none X2 tc ts := by
  unfold gm_X3_init at h
  refine gx_enter [some (gx_r (some this))] rfl (by decide) (Nat.le_of_ble_eq_true rfl) ?_
  intro p e s m below meth c C hin
  have h1 : 0 + tc = tc := Nat.zero_add tc
  have h2 : 0 + ts = ts := Nat.zero_add ts
  refine gx_aload_n C dX3_init_0 rfl rfl ?_
  refine gx_objInit C wl_79 wl_15 wl_16 dX3_init_1 (Nat.le_of_ble_eq_true rfl) (Nat.le_of_ble_eq_true rfl) ?_
  refine gx_aload_n C dX3_init_4 rfl rfl ?_
  refine gx_bipush (v := 8) C dX3_init_5 (by decide) ?_
  obtain ⟨cz1, sz1, h, ecz1, esz1⟩ := gx_add h
  refine gx_anew (t := 3) (N' := 8) C rfl wl_80 wn_81 (by decide) (by decide) (by decide) (show 0 + 1 ≤ tc by omega) (show 0 + 8 ≤ ts by omega) dX3_init_7 ?_
  obtain ⟨Xz2, eXz2, h⟩ := gx_bd h
  refine gx_putF C kcX3 0 (by decide) rfl hin rfl wl_82 ⟨rfl, rfl⟩ eXz2 dX3_init_10 ?_
  cases h
  exact gx_widen (by omega) (by omega) (gx_vret C dX3_init_13)
theorem dX4_addWay_0 : decode cX4_addWay 0 = .ok (.aload_n 0, 1) := by decide +kernel
theorem dX4_addWay_1 : decode cX4_addWay 1 = .ok (.getfield 15, 3) := by decide +kernel
theorem dX4_addWay_4 : decode cX4_addWay 4 = .ok (.iload_n 1, 1) := by decide +kernel
theorem dX4_addWay_5 : decode cX4_addWay 5 = .ok (.bipush 60, 2) := by decide +kernel
theorem dX4_addWay_7 : decode cX4_addWay 7 = .ok (.imul, 1) := by decide +kernel
theorem dX4_addWay_8 : decode cX4_addWay 8 = .ok (.iload_n 2, 1) := by decide +kernel
theorem dX4_addWay_9 : decode cX4_addWay 9 = .ok (.iadd, 1) := by decide +kernel
theorem dX4_addWay_10 : decode cX4_addWay 10 = .ok (.dup2, 1) := by decide +kernel
theorem dX4_addWay_11 : decode cX4_addWay 11 = .ok (.laload, 1) := by decide +kernel
theorem dX4_addWay_12 : decode cX4_addWay 12 = .ok (.iload_n 3, 1) := by decide +kernel
theorem dX4_addWay_13 : decode cX4_addWay 13 = .ok (.invokestatic 37, 3) := by decide +kernel
theorem dX4_addWay_16 : decode cX4_addWay 16 = .ok (.lor, 1) := by decide +kernel
theorem dX4_addWay_17 : decode cX4_addWay 17 = .ok (.lastore, 1) := by decide +kernel
theorem dX4_addWay_18 : decode cX4_addWay 18 = .ok (.aload_n 0, 1) := by decide +kernel
theorem dX4_addWay_19 : decode cX4_addWay 19 = .ok (.dup, 1) := by decide +kernel
theorem dX4_addWay_20 : decode cX4_addWay 20 = .ok (.getfield 23, 3) := by decide +kernel
theorem dX4_addWay_23 : decode cX4_addWay 23 = .ok (.iconst 1, 1) := by decide +kernel
theorem dX4_addWay_24 : decode cX4_addWay 24 = .ok (.iadd, 1) := by decide +kernel
theorem dX4_addWay_25 : decode cX4_addWay 25 = .ok (.putfield 23, 3) := by decide +kernel
theorem dX4_addWay_28 : decode cX4_addWay 28 = .ok (.return_, 1) := by decide +kernel
def gm_X4_addWay (fu : Nat) (this : Nat) (p_0 : Int32) (p_1 : Int32) (p_2 : Int32) (X : gx_H) : Option gx_H :=
  (gx_gd X this 4 1).bind fun az1 =>
  (gx_gal X az1 1 ((p_0 * (60 : Int32)) + p_1)).bind fun vz2 =>
  gx_b2 (gm_X4_bitOf fu p_2 X) fun vz4 Xz3 =>
  (gx_pal Xz3 az1 1 ((p_0 * (60 : Int32)) + p_1) (vz2 ||| vz4)).bind fun Xz5 =>
  (gx_gi Xz5 this 4 3).bind fun vz6 =>
  (gx_pf Xz5 this 4 3 (.int (vz6 + (1 : Int32)))).bind fun Xz7 =>
  some Xz7
set_option maxHeartbeats 1000000 in
set_option maxRecDepth 20000 in
theorem gc_X4_addWay {l : Launch} {D : gx_D} (fu : Nat) (this : Nat) (p_0 : Int32) (p_1 : Int32) (p_2 : Int32) (X : gx_H) (X2 : gx_H) (h : gm_X4_addWay fu this p_0 p_1 p_2 X = some X2) : gx_M D gz_cl gz_at gz_tb gz_nb l yX4_addWay cX4_addWay 4 none 1 20 [gx_r (some this), gx_i p_0, gx_i p_1, gx_i p_2] X none X2 0 0 := by
  unfold gm_X4_addWay at h
  refine gx_enter [some (gx_r (some this)), some (gx_i p_0), some (gx_i p_1), some (gx_i p_2)] rfl (by decide) (Nat.le_of_ble_eq_true rfl) ?_
  intro p e s m below meth c C _
  refine gx_aload_n C dX4_addWay_0 rfl rfl ?_
  obtain ⟨az1, eaz1, h⟩ := gx_bd h
  refine gx_get C kcX4 1 (by decide) wl_25 (gx_gd_s eaz1) dX4_addWay_1 ?_
  refine gx_iload_n C dX4_addWay_4 rfl rfl ?_
  refine gx_bipush (v := 60) C dX4_addWay_5 (by decide) ?_
  refine gx_imul C dX4_addWay_7 ?_
  refine gx_iload_n C dX4_addWay_8 rfl rfl ?_
  refine gx_iadd C dX4_addWay_9 ?_
  refine gx_dup2 C dX4_addWay_10 rfl rfl ?_
  obtain ⟨vz2, evz2, h⟩ := gx_bd h
  refine gx_lald C (t := 1) rfl evz2 dX4_addWay_11 ?_
  refine gx_iload_n C dX4_addWay_12 rfl rfl ?_
  obtain ⟨vz4, Xz3, eXz3, h⟩ := gx_bd2 h
  refine gx_callS (As := [gx_i p_2]) (st := [gx_l vz2, gx_i ((p_0 * (60 : Int32)) + p_1), gx_r (some az1)]) (stk2 := [gx_l vz4, gx_l vz2, gx_i ((p_0 * (60 : Int32)) + p_1), gx_r (some az1)]) C cd_X4_bitOf wl_151 wl_150 (gc_X4_bitOf fu p_2 X vz4 Xz3 eXz3) rfl ⟨Nat.le_of_ble_eq_true rfl, Nat.le_of_ble_eq_true rfl⟩ ⟨Nat.le_of_ble_eq_true rfl, Nat.le_of_ble_eq_true rfl⟩ (Nat.le_of_ble_eq_true rfl) rfl rfl dX4_addWay_13 ?_
  refine gx_lor C dX4_addWay_16 ?_
  obtain ⟨Xz5, eXz5, h⟩ := gx_bd h
  refine gx_last C (t := 1) rfl eXz5 dX4_addWay_17 ?_
  refine gx_aload_n C dX4_addWay_18 rfl rfl ?_
  refine gx_dup C dX4_addWay_19 rfl ?_
  obtain ⟨vz6, evz6, h⟩ := gx_bd h
  refine gx_get C kcX4 3 (by decide) wl_28 (gx_gi_s evz6) dX4_addWay_20 ?_
  refine gx_iconst (v := 1) C dX4_addWay_23 (by decide) ?_
  refine gx_iadd C dX4_addWay_24 ?_
  obtain ⟨Xz7, eXz7, h⟩ := gx_bd h
  refine gx_put C kcX4 3 (by decide) rfl wl_28 ⟨rfl, rfl⟩ eXz7 dX4_addWay_25 ?_
  cases h
  exact gx_vret C dX4_addWay_28
theorem dX4_isCall_0 : decode cX4_isCall 0 = .ok (.iload_n 1, 1) := by decide +kernel
theorem dX4_isCall_1 : decode cX4_isCall 1 = .ok (.ifCond .lt 13, 3) := by decide +kernel
theorem dX4_isCall_4 : decode cX4_isCall 4 = .ok (.iload_n 1, 1) := by decide +kernel
theorem dX4_isCall_5 : decode cX4_isCall 5 = .ok (.bipush 16, 2) := by decide +kernel
theorem dX4_isCall_7 : decode cX4_isCall 7 = .ok (.if_icmp .ge 7, 3) := by decide +kernel
theorem dX4_isCall_10 : decode cX4_isCall 10 = .ok (.iconst 1, 1) := by decide +kernel
theorem dX4_isCall_11 : decode cX4_isCall 11 = .ok (.goto 4, 3) := by decide +kernel
theorem dX4_isCall_14 : decode cX4_isCall 14 = .ok (.iconst 0, 1) := by decide +kernel
theorem dX4_isCall_15 : decode cX4_isCall 15 = .ok (.ireturn, 1) := by decide +kernel
def gm_X4_isCall_14 (fu : Nat)  (X : gx_H) : Option (Int32 × gx_H) :=
  some ((0 : Int32), X)
set_option maxHeartbeats 1000000 in
set_option maxRecDepth 20000 in
theorem gt_X4_isCall_14 {p : Program} {l : Launch} {e : Env} {s : State} {m : MethodId} {args : Array Value} {below : List Frame} {meth : Method} {c : Code} {D : gx_D} {r : Int32} {X2 : gx_H}  (C : gx_C D gz_cl gz_at gz_tb gz_nb p s m meth c cX4_isCall 2 RX4 (some .boolean)) (fu : Nat)  (X : gx_H) (h : gm_X4_isCall_14 fu   X = some (r, X2)) : gx_W D gz_cl 2 p l e (gx_rm 0 0 0 0) s m args below meth c 0 0 (MQ below (gx_Q D gz_cl (some (gx_i r)) X2) args s 0 0 (gx_Z D)) X 14 [none, none] [] := by
  unfold gm_X4_isCall_14 at h
  refine gx_iconst (v := 0) C dX4_isCall_14 (by decide) ?_
  cases h
  exact gx_zret (Or.inl rfl) C dX4_isCall_15
def gm_X4_isCall (fu : Nat) (this : Nat) (p_0 : Int32) (X : gx_H) : Option (Int32 × gx_H) :=
  if p_0 < 0 then (
  gm_X4_isCall_14 fu   X) else (
  if (16 : Int32) ≤ p_0 then (
  gm_X4_isCall_14 fu   X) else (
  some ((1 : Int32), X)))
set_option maxHeartbeats 1000000 in
set_option maxRecDepth 20000 in
theorem gc_X4_isCall {l : Launch} {D : gx_D} (fu : Nat) (this : Nat) (p_0 : Int32) (X : gx_H) (r : Int32) (X2 : gx_H) (h : gm_X4_isCall fu this p_0 X = some (r, X2)) : gx_M D gz_cl gz_at gz_tb gz_nb l yX4_isCall cX4_isCall 2 (some .boolean) 0 0 [gx_r (some this), gx_i p_0] X (some (gx_i r)) X2 0 0 := by
  unfold gm_X4_isCall at h
  refine gx_enter [some (gx_r (some this)), some (gx_i p_0)] rfl (by decide) (Nat.le_of_ble_eq_true rfl) ?_
  intro p e s m below meth c C _
  refine gx_iload_n C dX4_isCall_0 rfl rfl ?_
  refine gx_if_lt (tgt := 14) C dX4_isCall_1 (by decide) (fun qz1 => ?_) (fun qz1 => ?_)
  · rw [if_pos qz1] at h
    refine gx_sub (lv2 := [none, none]) [false, false] rfl ?_
    exact gt_X4_isCall_14 C fu   X h
  · rw [if_neg qz1] at h
    refine gx_iload_n C dX4_isCall_4 rfl rfl ?_
    refine gx_bipush (v := 16) C dX4_isCall_5 (by decide) ?_
    refine gx_icmp_ge (tgt := 14) C dX4_isCall_7 (by decide) (fun qz2 => ?_) (fun qz2 => ?_)
    · rw [if_pos qz2] at h
      refine gx_sub (lv2 := [none, none]) [false, false] rfl ?_
      exact gt_X4_isCall_14 C fu   X h
    · rw [if_neg qz2] at h
      refine gx_iconst (v := 1) C dX4_isCall_10 (by decide) ?_
      refine gx_goto (tgt := 15) C dX4_isCall_11 (by decide) ?_
      cases h
      exact gx_zret (Or.inr rfl) C dX4_isCall_15
theorem dX4_isState_0 : decode cX4_isState 0 = .ok (.iload_n 1, 1) := by decide +kernel
theorem dX4_isState_1 : decode cX4_isState 1 = .ok (.ifCond .lt 15, 3) := by decide +kernel
theorem dX4_isState_4 : decode cX4_isState 4 = .ok (.iload_n 1, 1) := by decide +kernel
theorem dX4_isState_5 : decode cX4_isState 5 = .ok (.aload_n 0, 1) := by decide +kernel
theorem dX4_isState_6 : decode cX4_isState 6 = .ok (.getfield 19, 3) := by decide +kernel
theorem dX4_isState_9 : decode cX4_isState 9 = .ok (.if_icmp .ge 7, 3) := by decide +kernel
theorem dX4_isState_12 : decode cX4_isState 12 = .ok (.iconst 1, 1) := by decide +kernel
theorem dX4_isState_13 : decode cX4_isState 13 = .ok (.goto 4, 3) := by decide +kernel
theorem dX4_isState_16 : decode cX4_isState 16 = .ok (.iconst 0, 1) := by decide +kernel
theorem dX4_isState_17 : decode cX4_isState 17 = .ok (.ireturn, 1) := by decide +kernel
def gm_X4_isState_16 (fu : Nat)  (X : gx_H) : Option (Int32 × gx_H) :=
  some ((0 : Int32), X)
set_option maxHeartbeats 1000000 in
set_option maxRecDepth 20000 in
theorem gt_X4_isState_16 {p : Program} {l : Launch} {e : Env} {s : State} {m : MethodId} {args : Array Value} {below : List Frame} {meth : Method} {c : Code} {D : gx_D} {r : Int32} {X2 : gx_H}  (C : gx_C D gz_cl gz_at gz_tb gz_nb p s m meth c cX4_isState 2 RX4 (some .boolean)) (fu : Nat)  (X : gx_H) (h : gm_X4_isState_16 fu   X = some (r, X2)) : gx_W D gz_cl 2 p l e (gx_rm 0 0 0 0) s m args below meth c 0 0 (MQ below (gx_Q D gz_cl (some (gx_i r)) X2) args s 0 0 (gx_Z D)) X 16 [none, none] [] := by
  unfold gm_X4_isState_16 at h
  refine gx_iconst (v := 0) C dX4_isState_16 (by decide) ?_
  cases h
  exact gx_zret (Or.inl rfl) C dX4_isState_17
def gm_X4_isState (fu : Nat) (this : Nat) (p_0 : Int32) (X : gx_H) : Option (Int32 × gx_H) :=
  if p_0 < 0 then (
  gm_X4_isState_16 fu   X) else (
  (gx_gi X this 4 2).bind fun vz2 =>
  if vz2 ≤ p_0 then (
  gm_X4_isState_16 fu   X) else (
  some ((1 : Int32), X)))
set_option maxHeartbeats 1000000 in
set_option maxRecDepth 20000 in
theorem gc_X4_isState {l : Launch} {D : gx_D} (fu : Nat) (this : Nat) (p_0 : Int32) (X : gx_H) (r : Int32) (X2 : gx_H) (h : gm_X4_isState fu this p_0 X = some (r, X2)) : gx_M D gz_cl gz_at gz_tb gz_nb l yX4_isState cX4_isState 2 (some .boolean) 0 0 [gx_r (some this), gx_i p_0] X (some (gx_i r)) X2 0 0 := by
  unfold gm_X4_isState at h
  refine gx_enter [some (gx_r (some this)), some (gx_i p_0)] rfl (by decide) (Nat.le_of_ble_eq_true rfl) ?_
  intro p e s m below meth c C _
  refine gx_iload_n C dX4_isState_0 rfl rfl ?_
  refine gx_if_lt (tgt := 16) C dX4_isState_1 (by decide) (fun qz1 => ?_) (fun qz1 => ?_)
  · rw [if_pos qz1] at h
    refine gx_sub (lv2 := [none, none]) [false, false] rfl ?_
    exact gt_X4_isState_16 C fu   X h
  · rw [if_neg qz1] at h
    refine gx_iload_n C dX4_isState_4 rfl rfl ?_
    refine gx_aload_n C dX4_isState_5 rfl rfl ?_
    obtain ⟨vz2, evz2, h⟩ := gx_bd h
    refine gx_get C kcX4 2 (by decide) wl_26 (gx_gi_s evz2) dX4_isState_6 ?_
    refine gx_icmp_ge (tgt := 16) C dX4_isState_9 (by decide) (fun qz3 => ?_) (fun qz3 => ?_)
    · rw [if_pos qz3] at h
      refine gx_sub (lv2 := [none, none]) [false, false] rfl ?_
      exact gt_X4_isState_16 C fu   X h
    · rw [if_neg qz3] at h
      refine gx_iconst (v := 1) C dX4_isState_12 (by decide) ?_
      refine gx_goto (tgt := 17) C dX4_isState_13 (by decide) ?_
      cases h
      exact gx_zret (Or.inr rfl) C dX4_isState_17
