/-! methods: X6_goes, X6_handler, X6_init, X6_instructions, X6_wayMany, X6_neededMany, X6_look, X6_which, X6_may -/
theorem dX6_goes_0 : decode cX6_goes 0 = .ok (.aload_n 0, 1) := by decide +kernel
theorem dX6_goes_1 : decode cX6_goes 1 = .ok (.iconst 0, 1) := by decide +kernel
theorem dX6_goes_2 : decode cX6_goes 2 = .ok (.putfield 65, 3) := by decide +kernel
theorem dX6_goes_5 : decode cX6_goes 5 = .ok (.aload_n 0, 1) := by decide +kernel
theorem dX6_goes_6 : decode cX6_goes 6 = .ok (.iload_n 1, 1) := by decide +kernel
theorem dX6_goes_7 : decode cX6_goes 7 = .ok (.iload_n 2, 1) := by decide +kernel
theorem dX6_goes_8 : decode cX6_goes 8 = .ok (.iload_n 3, 1) := by decide +kernel
theorem dX6_goes_9 : decode cX6_goes 9 = .ok (.invokevirtual 79, 3) := by decide +kernel
theorem dX6_goes_12 : decode cX6_goes 12 = .ok (.ifCond .eq 21, 3) := by decide +kernel
theorem dX6_goes_15 : decode cX6_goes 15 = .ok (.aload_n 0, 1) := by decide +kernel
theorem dX6_goes_16 : decode cX6_goes 16 = .ok (.getfield 14, 3) := by decide +kernel
theorem dX6_goes_19 : decode cX6_goes 19 = .ok (.iload_n 1, 1) := by decide +kernel
theorem dX6_goes_20 : decode cX6_goes 20 = .ok (.iload_n 2, 1) := by decide +kernel
theorem dX6_goes_21 : decode cX6_goes 21 = .ok (.iload_n 3, 1) := by decide +kernel
theorem dX6_goes_22 : decode cX6_goes 22 = .ok (.invokestatic 83, 3) := by decide +kernel
theorem dX6_goes_25 : decode cX6_goes 25 = .ok (.baload, 1) := by decide +kernel
theorem dX6_goes_26 : decode cX6_goes 26 = .ok (.ifCond .eq 7, 3) := by decide +kernel
theorem dX6_goes_29 : decode cX6_goes 29 = .ok (.iconst 1, 1) := by decide +kernel
theorem dX6_goes_30 : decode cX6_goes 30 = .ok (.goto 4, 3) := by decide +kernel
theorem dX6_goes_33 : decode cX6_goes 33 = .ok (.iconst 0, 1) := by decide +kernel
theorem dX6_goes_34 : decode cX6_goes 34 = .ok (.ireturn, 1) := by decide +kernel
def gm_X6_goes_33 (fu : Nat)  (X : gx_H) : Option (Int32 × gx_H) :=
  some ((0 : Int32), X)
set_option maxHeartbeats 1000000 in
set_option maxRecDepth 20000 in
theorem gt_X6_goes_33 {p : Program} {l : Launch} {e : Env} {s : State} {m : MethodId} {args : Array Value} {below : List Frame} {meth : Method} {c : Code} {D : gx_D} {r : Int32} {X2 : gx_H}  (C : gx_C D gz_cl gz_at gz_tb gz_nb p s m meth c cX6_goes 4 RX6 (some .boolean)) (fu : Nat)  (X : gx_H) (h : gm_X6_goes_33 fu   X = some (r, X2)) : gx_W D gz_cl 4 p l e (gx_rm 2 44 0 0) s m args below meth c 0 0 (MQ below (gx_Q D gz_cl (some (gx_i r)) X2) args s 0 0 (gx_Z D)) X 33 [none, none, none, none] [] := by
  unfold gm_X6_goes_33 at h
  refine gx_iconst (v := 0) C dX6_goes_33 (by decide) ?_
  cases h
  exact gx_zret (Or.inl rfl) C dX6_goes_34
def gm_X6_goes (fu : Nat) (this : Nat) (p_0 : Int32) (p_1 : Int32) (p_2 : Int32) (X : gx_H) : Option (Int32 × gx_H) :=
  (gx_pf X this 6 0 (.int (0 : Int32))).bind fun Xz1 =>
  gx_ob Xz1 this 6 <|
  gx_b2 (gm_X6_canWay fu this p_0 p_1 p_2 Xz1) fun vz4 Xz3 =>
  if vz4 = 0 then (
  gm_X6_goes_33 fu   Xz3) else (
  (gx_gd Xz3 this 6 2).bind fun az6 =>
  gx_b2 (gm_X6_wayAt fu p_0 p_1 p_2 Xz3) fun vz8 Xz7 =>
  (gx_gai Xz7 az6 2 vz8).bind fun vz9 =>
  if vz9 = 0 then (
  gm_X6_goes_33 fu   Xz7) else (
  some ((1 : Int32), Xz7)))
set_option maxHeartbeats 1000000 in
set_option maxRecDepth 20000 in
theorem gc_X6_goes {l : Launch} {D : gx_D} (fu : Nat) (this : Nat) (p_0 : Int32) (p_1 : Int32) (p_2 : Int32) (X : gx_H) (r : Int32) (X2 : gx_H) (h : gm_X6_goes fu this p_0 p_1 p_2 X = some (r, X2)) : gx_M D gz_cl gz_at gz_tb gz_nb l yX6_goes cX6_goes 4 (some .boolean) 2 44 [gx_r (some this), gx_i p_0, gx_i p_1, gx_i p_2] X (some (gx_i r)) X2 0 0 := by
  unfold gm_X6_goes at h
  refine gx_enter [some (gx_r (some this)), some (gx_i p_0), some (gx_i p_1), some (gx_i p_2)] rfl (by decide) (Nat.le_of_ble_eq_true rfl) ?_
  intro p e s m below meth c C _
  refine gx_aload_n C dX6_goes_0 rfl rfl ?_
  refine gx_iconst (v := 0) C dX6_goes_1 (by decide) ?_
  obtain ⟨Xz1, eXz1, h⟩ := gx_bd h
  refine gx_put C kcX6 0 (by decide) rfl wl_497 ⟨rfl, rfl⟩ eXz1 dX6_goes_2 ?_
  refine gx_aload_n C dX6_goes_5 rfl rfl ?_
  refine gx_iload_n C dX6_goes_6 rfl rfl ?_
  refine gx_iload_n C dX6_goes_7 rfl rfl ?_
  refine gx_iload_n C dX6_goes_8 rfl rfl ?_
  obtain ⟨hoz2, h⟩ := gx_obs h
  obtain ⟨vz4, Xz3, eXz3, h⟩ := gx_bd2 h
  refine gx_callV (As := [gx_i p_0, gx_i p_1, gx_i p_2]) (st := []) (stk2 := [gx_i vz4]) C cd_X6_canWay wl_572 ws_X6_canWay wl_570 rfl hoz2 (gc_X6_canWay fu this p_0 p_1 p_2 Xz1 vz4 Xz3 eXz3) rfl ⟨Nat.le_of_ble_eq_true rfl, Nat.le_of_ble_eq_true rfl⟩ ⟨Nat.le_of_ble_eq_true rfl, Nat.le_of_ble_eq_true rfl⟩ (Nat.le_of_ble_eq_true rfl) rfl rfl dX6_goes_9 ?_
  refine gx_if_eq (tgt := 33) C dX6_goes_12 (by decide) (fun qz5 => ?_) (fun qz5 => ?_)
  · rw [if_pos qz5] at h
    refine gx_sub (lv2 := [none, none, none, none]) [false, false, false, false] rfl ?_
    exact gt_X6_goes_33 C fu   Xz3 h
  · rw [if_neg qz5] at h
    refine gx_aload_n C dX6_goes_15 rfl rfl ?_
    obtain ⟨az6, eaz6, h⟩ := gx_bd h
    refine gx_get C kcX6 2 (by decide) wl_499 (gx_gd_s eaz6) dX6_goes_16 ?_
    refine gx_iload_n C dX6_goes_19 rfl rfl ?_
    refine gx_iload_n C dX6_goes_20 rfl rfl ?_
    refine gx_iload_n C dX6_goes_21 rfl rfl ?_
    obtain ⟨vz8, Xz7, eXz7, h⟩ := gx_bd2 h
    refine gx_callS (As := [gx_i p_0, gx_i p_1, gx_i p_2]) (st := [gx_r (some az6)]) (stk2 := [gx_i vz8, gx_r (some az6)]) C cd_X6_wayAt wl_579 wl_578 (gc_X6_wayAt fu p_0 p_1 p_2 Xz3 vz8 Xz7 eXz7) rfl ⟨Nat.le_of_ble_eq_true rfl, Nat.le_of_ble_eq_true rfl⟩ ⟨Nat.le_of_ble_eq_true rfl, Nat.le_of_ble_eq_true rfl⟩ (Nat.le_of_ble_eq_true rfl) rfl rfl dX6_goes_22 ?_
    obtain ⟨vz9, evz9, h⟩ := gx_bd h
    refine gx_zald C (t := 2) rfl evz9 dX6_goes_25 ?_
    refine gx_if_eq (tgt := 33) C dX6_goes_26 (by decide) (fun qz10 => ?_) (fun qz10 => ?_)
    · rw [if_pos qz10] at h
      refine gx_sub (lv2 := [none, none, none, none]) [false, false, false, false] rfl ?_
      exact gt_X6_goes_33 C fu   Xz7 h
    · rw [if_neg qz10] at h
      refine gx_iconst (v := 1) C dX6_goes_29 (by decide) ?_
      refine gx_goto (tgt := 34) C dX6_goes_30 (by decide) ?_
      cases h
      exact gx_zret (Or.inr rfl) C dX6_goes_34
theorem dX6_handler_0 : decode cX6_handler 0 = .ok (.aload_n 0, 1) := by decide +kernel
theorem dX6_handler_1 : decode cX6_handler 1 = .ok (.iconst 0, 1) := by decide +kernel
theorem dX6_handler_2 : decode cX6_handler 2 = .ok (.putfield 65, 3) := by decide +kernel
theorem dX6_handler_5 : decode cX6_handler 5 = .ok (.aload_n 0, 1) := by decide +kernel
theorem dX6_handler_6 : decode cX6_handler 6 = .ok (.iconst 0, 1) := by decide +kernel
theorem dX6_handler_7 : decode cX6_handler 7 = .ok (.iload_n 1, 1) := by decide +kernel
theorem dX6_handler_8 : decode cX6_handler 8 = .ok (.iconst 0, 1) := by decide +kernel
theorem dX6_handler_9 : decode cX6_handler 9 = .ok (.invokevirtual 87, 3) := by decide +kernel
theorem dX6_handler_12 : decode cX6_handler 12 = .ok (.ifCond .eq 14, 3) := by decide +kernel
theorem dX6_handler_15 : decode cX6_handler 15 = .ok (.aload_n 0, 1) := by decide +kernel
theorem dX6_handler_16 : decode cX6_handler 16 = .ok (.getfield 28, 3) := by decide +kernel
theorem dX6_handler_19 : decode cX6_handler 19 = .ok (.iload_n 1, 1) := by decide +kernel
theorem dX6_handler_20 : decode cX6_handler 20 = .ok (.iaload, 1) := by decide +kernel
theorem dX6_handler_21 : decode cX6_handler 21 = .ok (.bipush 6, 2) := by decide +kernel
theorem dX6_handler_23 : decode cX6_handler 23 = .ok (.if_icmp .ne 5, 3) := by decide +kernel
theorem dX6_handler_26 : decode cX6_handler 26 = .ok (.iconst 0, 1) := by decide +kernel
theorem dX6_handler_27 : decode cX6_handler 27 = .ok (.ireturn, 1) := by decide +kernel
theorem dX6_handler_28 : decode cX6_handler 28 = .ok (.iload_n 2, 1) := by decide +kernel
theorem dX6_handler_29 : decode cX6_handler 29 = .ok (.ifCond .lt 34, 3) := by decide +kernel
theorem dX6_handler_32 : decode cX6_handler 32 = .ok (.iload_n 3, 1) := by decide +kernel
theorem dX6_handler_33 : decode cX6_handler 33 = .ok (.iload_n 2, 1) := by decide +kernel
theorem dX6_handler_34 : decode cX6_handler 34 = .ok (.if_icmp .le 29, 3) := by decide +kernel
theorem dX6_handler_37 : decode cX6_handler 37 = .ok (.iload_n 3, 1) := by decide +kernel
theorem dX6_handler_38 : decode cX6_handler 38 = .ok (.aload_n 0, 1) := by decide +kernel
theorem dX6_handler_39 : decode cX6_handler 39 = .ok (.getfield 25, 3) := by decide +kernel
theorem dX6_handler_42 : decode cX6_handler 42 = .ok (.iload_n 1, 1) := by decide +kernel
theorem dX6_handler_43 : decode cX6_handler 43 = .ok (.iaload, 1) := by decide +kernel
theorem dX6_handler_44 : decode cX6_handler 44 = .ok (.if_icmp .gt 19, 3) := by decide +kernel
theorem dX6_handler_47 : decode cX6_handler 47 = .ok (.iload 4, 2) := by decide +kernel
theorem dX6_handler_49 : decode cX6_handler 49 = .ok (.ifCond .lt 14, 3) := by decide +kernel
theorem dX6_handler_52 : decode cX6_handler 52 = .ok (.iload 4, 2) := by decide +kernel
theorem dX6_handler_54 : decode cX6_handler 54 = .ok (.aload_n 0, 1) := by decide +kernel
theorem dX6_handler_55 : decode cX6_handler 55 = .ok (.getfield 25, 3) := by decide +kernel
theorem dX6_handler_58 : decode cX6_handler 58 = .ok (.iload_n 1, 1) := by decide +kernel
theorem dX6_handler_59 : decode cX6_handler 59 = .ok (.iaload, 1) := by decide +kernel
theorem dX6_handler_60 : decode cX6_handler 60 = .ok (.if_icmp .lt 5, 3) := by decide +kernel
theorem dX6_handler_63 : decode cX6_handler 63 = .ok (.iconst 0, 1) := by decide +kernel
theorem dX6_handler_64 : decode cX6_handler 64 = .ok (.ireturn, 1) := by decide +kernel
theorem dX6_handler_65 : decode cX6_handler 65 = .ok (.aload_n 0, 1) := by decide +kernel
theorem dX6_handler_66 : decode cX6_handler 66 = .ok (.invokevirtual 76, 3) := by decide +kernel
theorem dX6_handler_69 : decode cX6_handler 69 = .ok (.bipush 6, 2) := by decide +kernel
theorem dX6_handler_71 : decode cX6_handler 71 = .ok (.iload_n 1, 1) := by decide +kernel
theorem dX6_handler_72 : decode cX6_handler 72 = .ok (.imul, 1) := by decide +kernel
theorem dX6_handler_73 : decode cX6_handler 73 = .ok (.aload_n 0, 1) := by decide +kernel
theorem dX6_handler_74 : decode cX6_handler 74 = .ok (.getfield 28, 3) := by decide +kernel
theorem dX6_handler_77 : decode cX6_handler 77 = .ok (.iload_n 1, 1) := by decide +kernel
theorem dX6_handler_78 : decode cX6_handler 78 = .ok (.iaload, 1) := by decide +kernel
theorem dX6_handler_79 : decode cX6_handler 79 = .ok (.iadd, 1) := by decide +kernel
theorem dX6_handler_80 : decode cX6_handler 80 = .ok (.istore 5, 2) := by decide +kernel
theorem dX6_handler_82 : decode cX6_handler 82 = .ok (.aload_n 0, 1) := by decide +kernel
theorem dX6_handler_83 : decode cX6_handler 83 = .ok (.getfield 37, 3) := by decide +kernel
theorem dX6_handler_86 : decode cX6_handler 86 = .ok (.iload 5, 2) := by decide +kernel
theorem dX6_handler_88 : decode cX6_handler 88 = .ok (.iload_n 2, 1) := by decide +kernel
theorem dX6_handler_89 : decode cX6_handler 89 = .ok (.iastore, 1) := by decide +kernel
theorem dX6_handler_90 : decode cX6_handler 90 = .ok (.aload_n 0, 1) := by decide +kernel
theorem dX6_handler_91 : decode cX6_handler 91 = .ok (.getfield 40, 3) := by decide +kernel
theorem dX6_handler_94 : decode cX6_handler 94 = .ok (.iload 5, 2) := by decide +kernel
theorem dX6_handler_96 : decode cX6_handler 96 = .ok (.iload_n 3, 1) := by decide +kernel
theorem dX6_handler_97 : decode cX6_handler 97 = .ok (.iastore, 1) := by decide +kernel
theorem dX6_handler_98 : decode cX6_handler 98 = .ok (.aload_n 0, 1) := by decide +kernel
theorem dX6_handler_99 : decode cX6_handler 99 = .ok (.getfield 43, 3) := by decide +kernel
theorem dX6_handler_102 : decode cX6_handler 102 = .ok (.iload 5, 2) := by decide +kernel
theorem dX6_handler_104 : decode cX6_handler 104 = .ok (.iload 4, 2) := by decide +kernel
theorem dX6_handler_106 : decode cX6_handler 106 = .ok (.iastore, 1) := by decide +kernel
theorem dX6_handler_107 : decode cX6_handler 107 = .ok (.aload_n 0, 1) := by decide +kernel
theorem dX6_handler_108 : decode cX6_handler 108 = .ok (.getfield 28, 3) := by decide +kernel
theorem dX6_handler_111 : decode cX6_handler 111 = .ok (.iload_n 1, 1) := by decide +kernel
theorem dX6_handler_112 : decode cX6_handler 112 = .ok (.dup2, 1) := by decide +kernel
theorem dX6_handler_113 : decode cX6_handler 113 = .ok (.iaload, 1) := by decide +kernel
theorem dX6_handler_114 : decode cX6_handler 114 = .ok (.iconst 1, 1) := by decide +kernel
theorem dX6_handler_115 : decode cX6_handler 115 = .ok (.iadd, 1) := by decide +kernel
theorem dX6_handler_116 : decode cX6_handler 116 = .ok (.iastore, 1) := by decide +kernel
theorem dX6_handler_117 : decode cX6_handler 117 = .ok (.iconst 1, 1) := by decide +kernel
theorem dX6_handler_118 : decode cX6_handler 118 = .ok (.ireturn, 1) := by decide +kernel
def gm_X6_handler (fu : Nat) (this : Nat) (p_0 : Int32) (p_1 : Int32) (p_2 : Int32) (p_3 : Int32) (X : gx_H) : Option (Int32 × gx_H) :=
  (gx_pf X this 6 0 (.int (0 : Int32))).bind fun Xz1 =>
  gx_ob Xz1 this 6 <|
  gx_b2 (gm_X6_isThere fu this (0 : Int32) p_0 (0 : Int32) Xz1) fun vz4 Xz3 =>
  if vz4 = 0 then (
  some ((0 : Int32), Xz3)) else (
  (gx_gd Xz3 this 6 6).bind fun az6 =>
  (gx_gai Xz3 az6 0 p_0).bind fun vz7 =>
  if vz7 = (6 : Int32) then (
  some ((0 : Int32), Xz3)) else (
  if p_1 < 0 then (
  some ((0 : Int32), Xz3)) else (
  if p_2 ≤ p_1 then (
  some ((0 : Int32), Xz3)) else (
  (gx_gd Xz3 this 6 5).bind fun az11 =>
  (gx_gai Xz3 az11 0 p_0).bind fun vz12 =>
  if vz12 < p_2 then (
  some ((0 : Int32), Xz3)) else (
  if p_3 < 0 then (
  some ((0 : Int32), Xz3)) else (
  (gx_gd Xz3 this 6 5).bind fun az15 =>
  (gx_gai Xz3 az15 0 p_0).bind fun vz16 =>
  if p_3 < vz16 then (
  gx_ob Xz3 this 6 <|
  (gm_X6_change fu this Xz3).bind fun Xz19 =>
  (gx_gd Xz19 this 6 6).bind fun az20 =>
  (gx_gai Xz19 az20 0 p_0).bind fun vz21 =>
  (gx_gd Xz19 this 6 9).bind fun az22 =>
  (gx_pai Xz19 az22 0 (((6 : Int32) * p_0) + vz21) p_1).bind fun Xz23 =>
  (gx_gd Xz23 this 6 10).bind fun az24 =>
  (gx_pai Xz23 az24 0 (((6 : Int32) * p_0) + vz21) p_2).bind fun Xz25 =>
  (gx_gd Xz25 this 6 11).bind fun az26 =>
  (gx_pai Xz25 az26 0 (((6 : Int32) * p_0) + vz21) p_3).bind fun Xz27 =>
  (gx_gd Xz27 this 6 6).bind fun az28 =>
  (gx_gai Xz27 az28 0 p_0).bind fun vz29 =>
  (gx_pai Xz27 az28 0 p_0 (vz29 + (1 : Int32))).bind fun Xz30 =>
  some ((1 : Int32), Xz30)) else (
  some ((0 : Int32), Xz3))))))))
set_option maxHeartbeats 1000000 in
set_option maxRecDepth 20000 in
theorem gc_X6_handler {l : Launch} {D : gx_D} (fu : Nat) (this : Nat) (p_0 : Int32) (p_1 : Int32) (p_2 : Int32) (p_3 : Int32) (X : gx_H) (r : Int32) (X2 : gx_H) (h : gm_X6_handler fu this p_0 p_1 p_2 p_3 X = some (r, X2)) : gx_M D gz_cl gz_at gz_tb gz_nb l yX6_handler cX6_handler 6 (some .boolean) 1 23 [gx_r (some this), gx_i p_0, gx_i p_1, gx_i p_2, gx_i p_3] X (some (gx_i r)) X2 0 0 := by
  unfold gm_X6_handler at h
  refine gx_enter [some (gx_r (some this)), some (gx_i p_0), some (gx_i p_1), some (gx_i p_2), some (gx_i p_3), none] rfl (by decide) (Nat.le_of_ble_eq_true rfl) ?_
  intro p e s m below meth c C _
  refine gx_aload_n C dX6_handler_0 rfl rfl ?_
  refine gx_iconst (v := 0) C dX6_handler_1 (by decide) ?_
  obtain ⟨Xz1, eXz1, h⟩ := gx_bd h
  refine gx_put C kcX6 0 (by decide) rfl wl_497 ⟨rfl, rfl⟩ eXz1 dX6_handler_2 ?_
  refine gx_aload_n C dX6_handler_5 rfl rfl ?_
  refine gx_iconst (v := 0) C dX6_handler_6 (by decide) ?_
  refine gx_iload_n C dX6_handler_7 rfl rfl ?_
  refine gx_iconst (v := 0) C dX6_handler_8 (by decide) ?_
  obtain ⟨hoz2, h⟩ := gx_obs h
  obtain ⟨vz4, Xz3, eXz3, h⟩ := gx_bd2 h
  refine gx_callV (As := [gx_i (0 : Int32), gx_i p_0, gx_i (0 : Int32)]) (st := []) (stk2 := [gx_i vz4]) C cd_X6_isThere wl_599 ws_X6_isThere wl_597 rfl hoz2 (gc_X6_isThere fu this (0 : Int32) p_0 (0 : Int32) Xz1 vz4 Xz3 eXz3) rfl ⟨Nat.le_of_ble_eq_true rfl, Nat.le_of_ble_eq_true rfl⟩ ⟨Nat.le_of_ble_eq_true rfl, Nat.le_of_ble_eq_true rfl⟩ (Nat.le_of_ble_eq_true rfl) rfl rfl dX6_handler_9 ?_
  refine gx_if_eq (tgt := 26) C dX6_handler_12 (by decide) (fun qz5 => ?_) (fun qz5 => ?_)
  · rw [if_pos qz5] at h
    refine gx_iconst (v := 0) C dX6_handler_26 (by decide) ?_
    cases h
    exact gx_zret (Or.inl rfl) C dX6_handler_27
  · rw [if_neg qz5] at h
    refine gx_aload_n C dX6_handler_15 rfl rfl ?_
    obtain ⟨az6, eaz6, h⟩ := gx_bd h
    refine gx_get C kcX6 6 (by decide) wl_503 (gx_gd_s eaz6) dX6_handler_16 ?_
    refine gx_iload_n C dX6_handler_19 rfl rfl ?_
    obtain ⟨vz7, evz7, h⟩ := gx_bd h
    refine gx_iald C (t := 0) rfl evz7 dX6_handler_20 ?_
    refine gx_bipush (v := 6) C dX6_handler_21 (by decide) ?_
    refine gx_icmp_ne (tgt := 28) C dX6_handler_23 (by decide) (fun qz8 => ?_) (fun qz8 => ?_)
    · rw [if_neg qz8] at h
      refine gx_iload_n C dX6_handler_28 rfl rfl ?_
      refine gx_if_lt (tgt := 63) C dX6_handler_29 (by decide) (fun qz9 => ?_) (fun qz9 => ?_)
      · rw [if_pos qz9] at h
        refine gx_iconst (v := 0) C dX6_handler_63 (by decide) ?_
        cases h
        exact gx_zret (Or.inl rfl) C dX6_handler_64
      · rw [if_neg qz9] at h
        refine gx_iload_n C dX6_handler_32 rfl rfl ?_
        refine gx_iload_n C dX6_handler_33 rfl rfl ?_
        refine gx_icmp_le (tgt := 63) C dX6_handler_34 (by decide) (fun qz10 => ?_) (fun qz10 => ?_)
        · rw [if_pos qz10] at h
          refine gx_iconst (v := 0) C dX6_handler_63 (by decide) ?_
          cases h
          exact gx_zret (Or.inl rfl) C dX6_handler_64
        · rw [if_neg qz10] at h
          refine gx_iload_n C dX6_handler_37 rfl rfl ?_
          refine gx_aload_n C dX6_handler_38 rfl rfl ?_
          obtain ⟨az11, eaz11, h⟩ := gx_bd h
          refine gx_get C kcX6 5 (by decide) wl_502 (gx_gd_s eaz11) dX6_handler_39 ?_
          refine gx_iload_n C dX6_handler_42 rfl rfl ?_
          obtain ⟨vz12, evz12, h⟩ := gx_bd h
          refine gx_iald C (t := 0) rfl evz12 dX6_handler_43 ?_
          refine gx_icmp_gt (tgt := 63) C dX6_handler_44 (by decide) (fun qz13 => ?_) (fun qz13 => ?_)
          · rw [if_pos qz13] at h
            refine gx_iconst (v := 0) C dX6_handler_63 (by decide) ?_
            cases h
            exact gx_zret (Or.inl rfl) C dX6_handler_64
          · rw [if_neg qz13] at h
            refine gx_iload C dX6_handler_47 rfl ?_
            refine gx_if_lt (tgt := 63) C dX6_handler_49 (by decide) (fun qz14 => ?_) (fun qz14 => ?_)
            · rw [if_pos qz14] at h
              refine gx_iconst (v := 0) C dX6_handler_63 (by decide) ?_
              cases h
              exact gx_zret (Or.inl rfl) C dX6_handler_64
            · rw [if_neg qz14] at h
              refine gx_iload C dX6_handler_52 rfl ?_
              refine gx_aload_n C dX6_handler_54 rfl rfl ?_
              obtain ⟨az15, eaz15, h⟩ := gx_bd h
              refine gx_get C kcX6 5 (by decide) wl_502 (gx_gd_s eaz15) dX6_handler_55 ?_
              refine gx_iload_n C dX6_handler_58 rfl rfl ?_
              obtain ⟨vz16, evz16, h⟩ := gx_bd h
              refine gx_iald C (t := 0) rfl evz16 dX6_handler_59 ?_
              refine gx_icmp_lt (tgt := 65) C dX6_handler_60 (by decide) (fun qz17 => ?_) (fun qz17 => ?_)
              · rw [if_pos qz17] at h
                refine gx_aload_n C dX6_handler_65 rfl rfl ?_
                obtain ⟨hoz18, h⟩ := gx_obs h
                obtain ⟨Xz19, eXz19, h⟩ := gx_bd h
                refine gx_callV (As := []) (st := []) (stk2 := []) C cd_X6_change wl_564 ws_X6_change wl_562 rfl hoz18 (gc_X6_change fu this Xz3 Xz19 eXz19) rfl ⟨Nat.le_of_ble_eq_true rfl, Nat.le_of_ble_eq_true rfl⟩ ⟨Nat.le_of_ble_eq_true rfl, Nat.le_of_ble_eq_true rfl⟩ (Nat.le_of_ble_eq_true rfl) rfl rfl dX6_handler_66 ?_
                refine gx_bipush (v := 6) C dX6_handler_69 (by decide) ?_
                refine gx_iload_n C dX6_handler_71 rfl rfl ?_
                refine gx_imul C dX6_handler_72 ?_
                refine gx_aload_n C dX6_handler_73 rfl rfl ?_
                obtain ⟨az20, eaz20, h⟩ := gx_bd h
                refine gx_get C kcX6 6 (by decide) wl_503 (gx_gd_s eaz20) dX6_handler_74 ?_
                refine gx_iload_n C dX6_handler_77 rfl rfl ?_
                obtain ⟨vz21, evz21, h⟩ := gx_bd h
                refine gx_iald C (t := 0) rfl evz21 dX6_handler_78 ?_
                refine gx_iadd C dX6_handler_79 ?_
                refine gx_istore (lv2 := [some (gx_r (some this)), some (gx_i p_0), some (gx_i p_1), some (gx_i p_2), some (gx_i p_3), some (gx_i (((6 : Int32) * p_0) + vz21))]) C dX6_handler_80 (by decide) rfl ?_
                refine gx_aload_n C dX6_handler_82 rfl rfl ?_
                obtain ⟨az22, eaz22, h⟩ := gx_bd h
                refine gx_get C kcX6 9 (by decide) wl_506 (gx_gd_s eaz22) dX6_handler_83 ?_
                refine gx_iload C dX6_handler_86 rfl ?_
                refine gx_iload_n C dX6_handler_88 rfl rfl ?_
                obtain ⟨Xz23, eXz23, h⟩ := gx_bd h
                refine gx_iast C (t := 0) rfl eXz23 dX6_handler_89 ?_
                refine gx_aload_n C dX6_handler_90 rfl rfl ?_
                obtain ⟨az24, eaz24, h⟩ := gx_bd h
                refine gx_get C kcX6 10 (by decide) wl_507 (gx_gd_s eaz24) dX6_handler_91 ?_
                refine gx_iload C dX6_handler_94 rfl ?_
                refine gx_iload_n C dX6_handler_96 rfl rfl ?_
                obtain ⟨Xz25, eXz25, h⟩ := gx_bd h
                refine gx_iast C (t := 0) rfl eXz25 dX6_handler_97 ?_
                refine gx_aload_n C dX6_handler_98 rfl rfl ?_
                obtain ⟨az26, eaz26, h⟩ := gx_bd h
                refine gx_get C kcX6 11 (by decide) wl_508 (gx_gd_s eaz26) dX6_handler_99 ?_
                refine gx_iload C dX6_handler_102 rfl ?_
                refine gx_iload C dX6_handler_104 rfl ?_
                obtain ⟨Xz27, eXz27, h⟩ := gx_bd h
                refine gx_iast C (t := 0) rfl eXz27 dX6_handler_106 ?_
                refine gx_aload_n C dX6_handler_107 rfl rfl ?_
                obtain ⟨az28, eaz28, h⟩ := gx_bd h
                refine gx_get C kcX6 6 (by decide) wl_503 (gx_gd_s eaz28) dX6_handler_108 ?_
                refine gx_iload_n C dX6_handler_111 rfl rfl ?_
                refine gx_dup2 C dX6_handler_112 rfl rfl ?_
                obtain ⟨vz29, evz29, h⟩ := gx_bd h
                refine gx_iald C (t := 0) rfl evz29 dX6_handler_113 ?_
                refine gx_iconst (v := 1) C dX6_handler_114 (by decide) ?_
                refine gx_iadd C dX6_handler_115 ?_
                obtain ⟨Xz30, eXz30, h⟩ := gx_bd h
                refine gx_iast C (t := 0) rfl eXz30 dX6_handler_116 ?_
                refine gx_iconst (v := 1) C dX6_handler_117 (by decide) ?_
                cases h
                exact gx_zret (Or.inr rfl) C dX6_handler_118
              · rw [if_neg qz17] at h
                refine gx_iconst (v := 0) C dX6_handler_63 (by decide) ?_
                cases h
                exact gx_zret (Or.inl rfl) C dX6_handler_64
    · rw [if_pos qz8] at h
      refine gx_iconst (v := 0) C dX6_handler_26 (by decide) ?_
      cases h
      exact gx_zret (Or.inl rfl) C dX6_handler_27
theorem dX6_init_0 : decode cX6_init 0 = .ok (.aload_n 0, 1) := by decide +kernel
theorem dX6_init_1 : decode cX6_init 1 = .ok (.invokespecial 1, 3) := by decide +kernel
theorem dX6_init_4 : decode cX6_init 4 = .ok (.aload_n 0, 1) := by decide +kernel
theorem dX6_init_5 : decode cX6_init 5 = .ok (.iconst 1, 1) := by decide +kernel
theorem dX6_init_6 : decode cX6_init 6 = .ok (.putfield 7, 3) := by decide +kernel
theorem dX6_init_9 : decode cX6_init 9 = .ok (.aload_n 0, 1) := by decide +kernel
theorem dX6_init_10 : decode cX6_init 10 = .ok (.ldc 13, 2) := by decide +kernel
theorem dX6_init_12 : decode cX6_init 12 = .ok (.newarray .boolean, 2) := by decide +kernel
theorem dX6_init_14 : decode cX6_init 14 = .ok (.putfield 14, 3) := by decide +kernel
theorem dX6_init_17 : decode cX6_init 17 = .ok (.aload_n 0, 1) := by decide +kernel
theorem dX6_init_18 : decode cX6_init 18 = .ok (.bipush 16, 2) := by decide +kernel
theorem dX6_init_20 : decode cX6_init 20 = .ok (.newarray .boolean, 2) := by decide +kernel
theorem dX6_init_22 : decode cX6_init 22 = .ok (.putfield 18, 3) := by decide +kernel
theorem dX6_init_25 : decode cX6_init 25 = .ok (.aload_n 0, 1) := by decide +kernel
theorem dX6_init_26 : decode cX6_init 26 = .ok (.iconst 2, 1) := by decide +kernel
theorem dX6_init_27 : decode cX6_init 27 = .ok (.newarray .int, 2) := by decide +kernel
theorem dX6_init_29 : decode cX6_init 29 = .ok (.putfield 21, 3) := by decide +kernel
theorem dX6_init_32 : decode cX6_init 32 = .ok (.aload_n 0, 1) := by decide +kernel
theorem dX6_init_33 : decode cX6_init 33 = .ok (.bipush 16, 2) := by decide +kernel
theorem dX6_init_35 : decode cX6_init 35 = .ok (.newarray .int, 2) := by decide +kernel
theorem dX6_init_37 : decode cX6_init 37 = .ok (.putfield 25, 3) := by decide +kernel
theorem dX6_init_40 : decode cX6_init 40 = .ok (.aload_n 0, 1) := by decide +kernel
theorem dX6_init_41 : decode cX6_init 41 = .ok (.bipush 16, 2) := by decide +kernel
theorem dX6_init_43 : decode cX6_init 43 = .ok (.newarray .int, 2) := by decide +kernel
theorem dX6_init_45 : decode cX6_init 45 = .ok (.putfield 28, 3) := by decide +kernel
theorem dX6_init_48 : decode cX6_init 48 = .ok (.aload_n 0, 1) := by decide +kernel
theorem dX6_init_49 : decode cX6_init 49 = .ok (.sipush 3200, 3) := by decide +kernel
theorem dX6_init_52 : decode cX6_init 52 = .ok (.newarray .int, 2) := by decide +kernel
theorem dX6_init_54 : decode cX6_init 54 = .ok (.putfield 31, 3) := by decide +kernel
theorem dX6_init_57 : decode cX6_init 57 = .ok (.aload_n 0, 1) := by decide +kernel
theorem dX6_init_58 : decode cX6_init 58 = .ok (.sipush 3200, 3) := by decide +kernel
theorem dX6_init_61 : decode cX6_init 61 = .ok (.newarray .int, 2) := by decide +kernel
theorem dX6_init_63 : decode cX6_init 63 = .ok (.putfield 34, 3) := by decide +kernel
theorem dX6_init_66 : decode cX6_init 66 = .ok (.aload_n 0, 1) := by decide +kernel
theorem dX6_init_67 : decode cX6_init 67 = .ok (.bipush 96, 2) := by decide +kernel
theorem dX6_init_69 : decode cX6_init 69 = .ok (.newarray .int, 2) := by decide +kernel
theorem dX6_init_71 : decode cX6_init 71 = .ok (.putfield 37, 3) := by decide +kernel
theorem dX6_init_74 : decode cX6_init 74 = .ok (.aload_n 0, 1) := by decide +kernel
theorem dX6_init_75 : decode cX6_init 75 = .ok (.bipush 96, 2) := by decide +kernel
theorem dX6_init_77 : decode cX6_init 77 = .ok (.newarray .int, 2) := by decide +kernel
theorem dX6_init_79 : decode cX6_init 79 = .ok (.putfield 40, 3) := by decide +kernel
theorem dX6_init_82 : decode cX6_init 82 = .ok (.aload_n 0, 1) := by decide +kernel
theorem dX6_init_83 : decode cX6_init 83 = .ok (.bipush 96, 2) := by decide +kernel
theorem dX6_init_85 : decode cX6_init 85 = .ok (.newarray .int, 2) := by decide +kernel
theorem dX6_init_87 : decode cX6_init 87 = .ok (.putfield 43, 3) := by decide +kernel
theorem dX6_init_90 : decode cX6_init 90 = .ok (.aload_n 0, 1) := by decide +kernel
theorem dX6_init_91 : decode cX6_init 91 = .ok (.iconst 2, 1) := by decide +kernel
theorem dX6_init_92 : decode cX6_init 92 = .ok (.newarray .boolean, 2) := by decide +kernel
theorem dX6_init_94 : decode cX6_init 94 = .ok (.putfield 46, 3) := by decide +kernel
theorem dX6_init_97 : decode cX6_init 97 = .ok (.aload_n 0, 1) := by decide +kernel
theorem dX6_init_98 : decode cX6_init 98 = .ok (.sipush 3200, 3) := by decide +kernel
theorem dX6_init_101 : decode cX6_init 101 = .ok (.newarray .long, 2) := by decide +kernel
theorem dX6_init_103 : decode cX6_init 103 = .ok (.putfield 49, 3) := by decide +kernel
theorem dX6_init_106 : decode cX6_init 106 = .ok (.aload_n 0, 1) := by decide +kernel
theorem dX6_init_107 : decode cX6_init 107 = .ok (.bipush 16, 2) := by decide +kernel
theorem dX6_init_109 : decode cX6_init 109 = .ok (.newarray .long, 2) := by decide +kernel
theorem dX6_init_111 : decode cX6_init 111 = .ok (.putfield 53, 3) := by decide +kernel
theorem dX6_init_114 : decode cX6_init 114 = .ok (.aload_n 0, 1) := by decide +kernel
theorem dX6_init_115 : decode cX6_init 115 = .ok (.bipush 16, 2) := by decide +kernel
theorem dX6_init_117 : decode cX6_init 117 = .ok (.newarray .long, 2) := by decide +kernel
theorem dX6_init_119 : decode cX6_init 119 = .ok (.putfield 56, 3) := by decide +kernel
theorem dX6_init_122 : decode cX6_init 122 = .ok (.aload_n 0, 1) := by decide +kernel
theorem dX6_init_123 : decode cX6_init 123 = .ok (.bipush 16, 2) := by decide +kernel
theorem dX6_init_125 : decode cX6_init 125 = .ok (.newarray .long, 2) := by decide +kernel
theorem dX6_init_127 : decode cX6_init 127 = .ok (.putfield 59, 3) := by decide +kernel
theorem dX6_init_130 : decode cX6_init 130 = .ok (.aload_n 0, 1) := by decide +kernel
theorem dX6_init_131 : decode cX6_init 131 = .ok (.sipush 201, 3) := by decide +kernel
theorem dX6_init_134 : decode cX6_init 134 = .ok (.newarray .int, 2) := by decide +kernel
theorem dX6_init_136 : decode cX6_init 136 = .ok (.putfield 62, 3) := by decide +kernel
theorem dX6_init_139 : decode cX6_init 139 = .ok (.return_, 1) := by decide +kernel
def gm_X6_init (fu : Nat) (this : Nat) (X : gx_H) : Option (Unit × gx_H × Nat × Nat) :=
  (gx_pf X this 6 1 (.int (1 : Int32))).bind fun Xz1 =>
  gx_ad 1 58560 <|
  (gx_pf (gx_nw Xz1 (.inl (2, 58560, .inl fun _ => 0))) this 6 2 (.ref Xz1.2)).bind fun Xz3 =>
  gx_ad 1 16 <|
  (gx_pf (gx_nw Xz3 (.inl (2, 16, .inl fun _ => 0))) this 6 3 (.ref Xz3.2)).bind fun Xz5 =>
  gx_ad 1 2 <|
  (gx_pf (gx_nw Xz5 (.inl (0, 2, .inl fun _ => 0))) this 6 4 (.ref Xz5.2)).bind fun Xz7 =>
  gx_ad 1 16 <|
  (gx_pf (gx_nw Xz7 (.inl (0, 16, .inl fun _ => 0))) this 6 5 (.ref Xz7.2)).bind fun Xz9 =>
  gx_ad 1 16 <|
  (gx_pf (gx_nw Xz9 (.inl (0, 16, .inl fun _ => 0))) this 6 6 (.ref Xz9.2)).bind fun Xz11 =>
  gx_ad 1 3200 <|
  (gx_pf (gx_nw Xz11 (.inl (0, 3200, .inl fun _ => 0))) this 6 7 (.ref Xz11.2)).bind fun Xz13 =>
  gx_ad 1 3200 <|
  (gx_pf (gx_nw Xz13 (.inl (0, 3200, .inl fun _ => 0))) this 6 8 (.ref Xz13.2)).bind fun Xz15 =>
  gx_ad 1 96 <|
  (gx_pf (gx_nw Xz15 (.inl (0, 96, .inl fun _ => 0))) this 6 9 (.ref Xz15.2)).bind fun Xz17 =>
  gx_ad 1 96 <|
  (gx_pf (gx_nw Xz17 (.inl (0, 96, .inl fun _ => 0))) this 6 10 (.ref Xz17.2)).bind fun Xz19 =>
  gx_ad 1 96 <|
  (gx_pf (gx_nw Xz19 (.inl (0, 96, .inl fun _ => 0))) this 6 11 (.ref Xz19.2)).bind fun Xz21 =>
  gx_ad 1 2 <|
  (gx_pf (gx_nw Xz21 (.inl (2, 2, .inl fun _ => 0))) this 6 13 (.ref Xz21.2)).bind fun Xz23 =>
  gx_ad 1 3200 <|
  (gx_pf (gx_nw Xz23 (.inl (1, 3200, .inr (.inl fun _ => 0)))) this 6 14 (.ref Xz23.2)).bind fun Xz25 =>
  gx_ad 1 16 <|
  (gx_pf (gx_nw Xz25 (.inl (1, 16, .inr (.inl fun _ => 0)))) this 6 15 (.ref Xz25.2)).bind fun Xz27 =>
  gx_ad 1 16 <|
  (gx_pf (gx_nw Xz27 (.inl (1, 16, .inr (.inl fun _ => 0)))) this 6 16 (.ref Xz27.2)).bind fun Xz29 =>
  gx_ad 1 16 <|
  (gx_pf (gx_nw Xz29 (.inl (1, 16, .inr (.inl fun _ => 0)))) this 6 17 (.ref Xz29.2)).bind fun Xz31 =>
  gx_ad 1 201 <|
  (gx_pf (gx_nw Xz31 (.inl (0, 201, .inl fun _ => 0))) this 6 19 (.ref Xz31.2)).bind fun Xz33 =>
  some ((), Xz33, 0, 0)
set_option maxHeartbeats 1000000 in
set_option maxRecDepth 20000 in
theorem gc_X6_init {l : Launch} {D : gx_D} (fu : Nat) (this : Nat) (X : gx_H) (X2 : gx_H) (tc ts : Nat) (h : gm_X6_init fu this X = some ((), X2, tc, ts)) : gx_M D gz_cl gz_at gz_tb gz_nb l yX6_init cX6_init 1 none 1 20 [gx_r (some this)] X none X2 tc ts := by
  unfold gm_X6_init at h
  refine gx_enter [some (gx_r (some this))] rfl (by decide) (Nat.le_of_ble_eq_true rfl) ?_
  intro p e s m below meth c C hin
  have h1 : 0 + tc = tc := Nat.zero_add tc
  have h2 : 0 + ts = ts := Nat.zero_add ts
  refine gx_aload_n C dX6_init_0 rfl rfl ?_
  refine gx_objInit C wl_495 wl_15 wl_16 dX6_init_1 (Nat.le_of_ble_eq_true rfl) (Nat.le_of_ble_eq_true rfl) ?_
  refine gx_aload_n C dX6_init_4 rfl rfl ?_
  refine gx_iconst (v := 1) C dX6_init_5 (by decide) ?_
  obtain ⟨Xz1, eXz1, h⟩ := gx_bd h
  refine gx_put C kcX6 1 (by decide) rfl wl_498 ⟨rfl, rfl⟩ eXz1 dX6_init_6 ?_
  refine gx_aload_n C dX6_init_9 rfl rfl ?_
  refine gx_ldc (v := 58560) C wl_496 dX6_init_10 ?_
  obtain ⟨cz2, sz2, h, ecz2, esz2⟩ := gx_add h
  refine gx_newa (t := 2) (N' := 58560) (a0 := (58560, .inl fun _ => 0)) C rfl rfl (fun _ _ q => q) wl_39 (fun _ => rfl) (by decide) (by decide) (by decide) (show 0 + 1 ≤ tc by omega) (show 0 + 58560 ≤ ts by omega) dX6_init_12 ?_
  obtain ⟨Xz3, eXz3, h⟩ := gx_bd h
  refine gx_putF C kcX6 2 (by decide) rfl hin rfl wl_499 ⟨rfl, rfl⟩ eXz3 dX6_init_14 ?_
  refine gx_aload_n C dX6_init_17 rfl rfl ?_
  refine gx_bipush (v := 16) C dX6_init_18 (by decide) ?_
  obtain ⟨cz4, sz4, h, ecz4, esz4⟩ := gx_add h
  refine gx_newa (t := 2) (N' := 16) (a0 := (16, .inl fun _ => 0)) C rfl rfl (fun _ _ q => q) wl_39 (fun _ => rfl) (by decide) (by decide) (by decide) (show 0 + 1 + 1 ≤ tc by omega) (show 0 + 58560 + 16 ≤ ts by omega) dX6_init_20 ?_
  obtain ⟨Xz5, eXz5, h⟩ := gx_bd h
  refine gx_putF C kcX6 3 (by decide) rfl hin rfl wl_500 ⟨rfl, rfl⟩ eXz5 dX6_init_22 ?_
  refine gx_aload_n C dX6_init_25 rfl rfl ?_
  refine gx_iconst (v := 2) C dX6_init_26 (by decide) ?_
  obtain ⟨cz6, sz6, h, ecz6, esz6⟩ := gx_add h
  refine gx_newa (t := 0) (N' := 2) (a0 := (2, .inl fun _ => 0)) C rfl rfl (fun _ _ q => q) wl_60 (fun _ => rfl) (by decide) (by decide) (by decide) (show 0 + 1 + 1 + 1 ≤ tc by omega) (show 0 + 58560 + 16 + 2 ≤ ts by omega) dX6_init_27 ?_
  obtain ⟨Xz7, eXz7, h⟩ := gx_bd h
  refine gx_putF C kcX6 4 (by decide) rfl hin rfl wl_501 ⟨rfl, rfl⟩ eXz7 dX6_init_29 ?_
  refine gx_aload_n C dX6_init_32 rfl rfl ?_
  refine gx_bipush (v := 16) C dX6_init_33 (by decide) ?_
  obtain ⟨cz8, sz8, h, ecz8, esz8⟩ := gx_add h
  refine gx_newa (t := 0) (N' := 16) (a0 := (16, .inl fun _ => 0)) C rfl rfl (fun _ _ q => q) wl_60 (fun _ => rfl) (by decide) (by decide) (by decide) (show 0 + 1 + 1 + 1 + 1 ≤ tc by omega) (show 0 + 58560 + 16 + 2 + 16 ≤ ts by omega) dX6_init_35 ?_
  obtain ⟨Xz9, eXz9, h⟩ := gx_bd h
  refine gx_putF C kcX6 5 (by decide) rfl hin rfl wl_502 ⟨rfl, rfl⟩ eXz9 dX6_init_37 ?_
  refine gx_aload_n C dX6_init_40 rfl rfl ?_
  refine gx_bipush (v := 16) C dX6_init_41 (by decide) ?_
  obtain ⟨cz10, sz10, h, ecz10, esz10⟩ := gx_add h
  refine gx_newa (t := 0) (N' := 16) (a0 := (16, .inl fun _ => 0)) C rfl rfl (fun _ _ q => q) wl_60 (fun _ => rfl) (by decide) (by decide) (by decide) (show 0 + 1 + 1 + 1 + 1 + 1 ≤ tc by omega) (show 0 + 58560 + 16 + 2 + 16 + 16 ≤ ts by omega) dX6_init_43 ?_
  obtain ⟨Xz11, eXz11, h⟩ := gx_bd h
  refine gx_putF C kcX6 6 (by decide) rfl hin rfl wl_503 ⟨rfl, rfl⟩ eXz11 dX6_init_45 ?_
  refine gx_aload_n C dX6_init_48 rfl rfl ?_
  refine gx_sipush (v := 3200) C dX6_init_49 (by decide) ?_
  obtain ⟨cz12, sz12, h, ecz12, esz12⟩ := gx_add h
  refine gx_newa (t := 0) (N' := 3200) (a0 := (3200, .inl fun _ => 0)) C rfl rfl (fun _ _ q => q) wl_60 (fun _ => rfl) (by decide) (by decide) (by decide) (show 0 + 1 + 1 + 1 + 1 + 1 + 1 ≤ tc by omega) (show 0 + 58560 + 16 + 2 + 16 + 16 + 3200 ≤ ts by omega) dX6_init_52 ?_
  obtain ⟨Xz13, eXz13, h⟩ := gx_bd h
  refine gx_putF C kcX6 7 (by decide) rfl hin rfl wl_504 ⟨rfl, rfl⟩ eXz13 dX6_init_54 ?_
  refine gx_aload_n C dX6_init_57 rfl rfl ?_
  refine gx_sipush (v := 3200) C dX6_init_58 (by decide) ?_
  obtain ⟨cz14, sz14, h, ecz14, esz14⟩ := gx_add h
  refine gx_newa (t := 0) (N' := 3200) (a0 := (3200, .inl fun _ => 0)) C rfl rfl (fun _ _ q => q) wl_60 (fun _ => rfl) (by decide) (by decide) (by decide) (show 0 + 1 + 1 + 1 + 1 + 1 + 1 + 1 ≤ tc by omega) (show 0 + 58560 + 16 + 2 + 16 + 16 + 3200 + 3200 ≤ ts by omega) dX6_init_61 ?_
  obtain ⟨Xz15, eXz15, h⟩ := gx_bd h
  refine gx_putF C kcX6 8 (by decide) rfl hin rfl wl_505 ⟨rfl, rfl⟩ eXz15 dX6_init_63 ?_
  refine gx_aload_n C dX6_init_66 rfl rfl ?_
  refine gx_bipush (v := 96) C dX6_init_67 (by decide) ?_
  obtain ⟨cz16, sz16, h, ecz16, esz16⟩ := gx_add h
  refine gx_newa (t := 0) (N' := 96) (a0 := (96, .inl fun _ => 0)) C rfl rfl (fun _ _ q => q) wl_60 (fun _ => rfl) (by decide) (by decide) (by decide) (show 0 + 1 + 1 + 1 + 1 + 1 + 1 + 1 + 1 ≤ tc by omega) (show 0 + 58560 + 16 + 2 + 16 + 16 + 3200 + 3200 + 96 ≤ ts by omega) dX6_init_69 ?_
  obtain ⟨Xz17, eXz17, h⟩ := gx_bd h
  refine gx_putF C kcX6 9 (by decide) rfl hin rfl wl_506 ⟨rfl, rfl⟩ eXz17 dX6_init_71 ?_
  refine gx_aload_n C dX6_init_74 rfl rfl ?_
  refine gx_bipush (v := 96) C dX6_init_75 (by decide) ?_
  obtain ⟨cz18, sz18, h, ecz18, esz18⟩ := gx_add h
  refine gx_newa (t := 0) (N' := 96) (a0 := (96, .inl fun _ => 0)) C rfl rfl (fun _ _ q => q) wl_60 (fun _ => rfl) (by decide) (by decide) (by decide) (show 0 + 1 + 1 + 1 + 1 + 1 + 1 + 1 + 1 + 1 ≤ tc by omega) (show 0 + 58560 + 16 + 2 + 16 + 16 + 3200 + 3200 + 96 + 96 ≤ ts by omega) dX6_init_77 ?_
  obtain ⟨Xz19, eXz19, h⟩ := gx_bd h
  refine gx_putF C kcX6 10 (by decide) rfl hin rfl wl_507 ⟨rfl, rfl⟩ eXz19 dX6_init_79 ?_
  refine gx_aload_n C dX6_init_82 rfl rfl ?_
  refine gx_bipush (v := 96) C dX6_init_83 (by decide) ?_
  obtain ⟨cz20, sz20, h, ecz20, esz20⟩ := gx_add h
  refine gx_newa (t := 0) (N' := 96) (a0 := (96, .inl fun _ => 0)) C rfl rfl (fun _ _ q => q) wl_60 (fun _ => rfl) (by decide) (by decide) (by decide) (show 0 + 1 + 1 + 1 + 1 + 1 + 1 + 1 + 1 + 1 + 1 ≤ tc by omega) (show 0 + 58560 + 16 + 2 + 16 + 16 + 3200 + 3200 + 96 + 96 + 96 ≤ ts by omega) dX6_init_85 ?_
  obtain ⟨Xz21, eXz21, h⟩ := gx_bd h
  refine gx_putF C kcX6 11 (by decide) rfl hin rfl wl_508 ⟨rfl, rfl⟩ eXz21 dX6_init_87 ?_
  refine gx_aload_n C dX6_init_90 rfl rfl ?_
  refine gx_iconst (v := 2) C dX6_init_91 (by decide) ?_
  obtain ⟨cz22, sz22, h, ecz22, esz22⟩ := gx_add h
  refine gx_newa (t := 2) (N' := 2) (a0 := (2, .inl fun _ => 0)) C rfl rfl (fun _ _ q => q) wl_39 (fun _ => rfl) (by decide) (by decide) (by decide) (show 0 + 1 + 1 + 1 + 1 + 1 + 1 + 1 + 1 + 1 + 1 + 1 ≤ tc by omega) (show 0 + 58560 + 16 + 2 + 16 + 16 + 3200 + 3200 + 96 + 96 + 96 + 2 ≤ ts by omega) dX6_init_92 ?_
  obtain ⟨Xz23, eXz23, h⟩ := gx_bd h
  refine gx_putF C kcX6 13 (by decide) rfl hin rfl wl_510 ⟨rfl, rfl⟩ eXz23 dX6_init_94 ?_
  refine gx_aload_n C dX6_init_97 rfl rfl ?_
  refine gx_sipush (v := 3200) C dX6_init_98 (by decide) ?_
  obtain ⟨cz24, sz24, h, ecz24, esz24⟩ := gx_add h
  refine gx_newa (t := 1) (N' := 3200) (a0 := (3200, .inr (.inl fun _ => 0))) C rfl rfl (fun _ _ q => q) wl_40 (fun _ => rfl) (by decide) (by decide) (by decide) (show 0 + 1 + 1 + 1 + 1 + 1 + 1 + 1 + 1 + 1 + 1 + 1 + 1 ≤ tc by omega) (show 0 + 58560 + 16 + 2 + 16 + 16 + 3200 + 3200 + 96 + 96 + 96 + 2 + 3200 ≤ ts by omega) dX6_init_101 ?_
  obtain ⟨Xz25, eXz25, h⟩ := gx_bd h
  refine gx_putF C kcX6 14 (by decide) rfl hin rfl wl_511 ⟨rfl, rfl⟩ eXz25 dX6_init_103 ?_
  refine gx_aload_n C dX6_init_106 rfl rfl ?_
  refine gx_bipush (v := 16) C dX6_init_107 (by decide) ?_
  obtain ⟨cz26, sz26, h, ecz26, esz26⟩ := gx_add h
  refine gx_newa (t := 1) (N' := 16) (a0 := (16, .inr (.inl fun _ => 0))) C rfl rfl (fun _ _ q => q) wl_40 (fun _ => rfl) (by decide) (by decide) (by decide) (show 0 + 1 + 1 + 1 + 1 + 1 + 1 + 1 + 1 + 1 + 1 + 1 + 1 + 1 ≤ tc by omega) (show 0 + 58560 + 16 + 2 + 16 + 16 + 3200 + 3200 + 96 + 96 + 96 + 2 + 3200 + 16 ≤ ts by omega) dX6_init_109 ?_
  obtain ⟨Xz27, eXz27, h⟩ := gx_bd h
  refine gx_putF C kcX6 15 (by decide) rfl hin rfl wl_512 ⟨rfl, rfl⟩ eXz27 dX6_init_111 ?_
  refine gx_aload_n C dX6_init_114 rfl rfl ?_
  refine gx_bipush (v := 16) C dX6_init_115 (by decide) ?_
  obtain ⟨cz28, sz28, h, ecz28, esz28⟩ := gx_add h
  refine gx_newa (t := 1) (N' := 16) (a0 := (16, .inr (.inl fun _ => 0))) C rfl rfl (fun _ _ q => q) wl_40 (fun _ => rfl) (by decide) (by decide) (by decide) (show 0 + 1 + 1 + 1 + 1 + 1 + 1 + 1 + 1 + 1 + 1 + 1 + 1 + 1 + 1 ≤ tc by omega) (show 0 + 58560 + 16 + 2 + 16 + 16 + 3200 + 3200 + 96 + 96 + 96 + 2 + 3200 + 16 + 16 ≤ ts by omega) dX6_init_117 ?_
  obtain ⟨Xz29, eXz29, h⟩ := gx_bd h
  refine gx_putF C kcX6 16 (by decide) rfl hin rfl wl_513 ⟨rfl, rfl⟩ eXz29 dX6_init_119 ?_
  refine gx_aload_n C dX6_init_122 rfl rfl ?_
  refine gx_bipush (v := 16) C dX6_init_123 (by decide) ?_
  obtain ⟨cz30, sz30, h, ecz30, esz30⟩ := gx_add h
  refine gx_newa (t := 1) (N' := 16) (a0 := (16, .inr (.inl fun _ => 0))) C rfl rfl (fun _ _ q => q) wl_40 (fun _ => rfl) (by decide) (by decide) (by decide) (show 0 + 1 + 1 + 1 + 1 + 1 + 1 + 1 + 1 + 1 + 1 + 1 + 1 + 1 + 1 + 1 ≤ tc by omega) (show 0 + 58560 + 16 + 2 + 16 + 16 + 3200 + 3200 + 96 + 96 + 96 + 2 + 3200 + 16 + 16 + 16 ≤ ts by omega) dX6_init_125 ?_
  obtain ⟨Xz31, eXz31, h⟩ := gx_bd h
  refine gx_putF C kcX6 17 (by decide) rfl hin rfl wl_514 ⟨rfl, rfl⟩ eXz31 dX6_init_127 ?_
  refine gx_aload_n C dX6_init_130 rfl rfl ?_
  refine gx_sipush (v := 201) C dX6_init_131 (by decide) ?_
  obtain ⟨cz32, sz32, h, ecz32, esz32⟩ := gx_add h
  refine gx_newa (t := 0) (N' := 201) (a0 := (201, .inl fun _ => 0)) C rfl rfl (fun _ _ q => q) wl_60 (fun _ => rfl) (by decide) (by decide) (by decide) (show 0 + 1 + 1 + 1 + 1 + 1 + 1 + 1 + 1 + 1 + 1 + 1 + 1 + 1 + 1 + 1 + 1 ≤ tc by omega) (show 0 + 58560 + 16 + 2 + 16 + 16 + 3200 + 3200 + 96 + 96 + 96 + 2 + 3200 + 16 + 16 + 16 + 201 ≤ ts by omega) dX6_init_134 ?_
  obtain ⟨Xz33, eXz33, h⟩ := gx_bd h
  refine gx_putF C kcX6 19 (by decide) rfl hin rfl wl_516 ⟨rfl, rfl⟩ eXz33 dX6_init_136 ?_
  cases h
  exact gx_widen (by omega) (by omega) (gx_vret C dX6_init_139)
theorem dX6_instructions_0 : decode cX6_instructions 0 = .ok (.iconst 0, 1) := by decide +kernel
theorem dX6_instructions_1 : decode cX6_instructions 1 = .ok (.istore_n 2, 1) := by decide +kernel
theorem dX6_instructions_2 : decode cX6_instructions 2 = .ok (.iconst 0, 1) := by decide +kernel
theorem dX6_instructions_3 : decode cX6_instructions 3 = .ok (.istore_n 3, 1) := by decide +kernel
theorem dX6_instructions_4 : decode cX6_instructions 4 = .ok (.iload_n 3, 1) := by decide +kernel
theorem dX6_instructions_5 : decode cX6_instructions 5 = .ok (.aload_n 0, 1) := by decide +kernel
theorem dX6_instructions_6 : decode cX6_instructions 6 = .ok (.getfield 21, 3) := by decide +kernel
theorem dX6_instructions_9 : decode cX6_instructions 9 = .ok (.iload_n 1, 1) := by decide +kernel
theorem dX6_instructions_10 : decode cX6_instructions 10 = .ok (.iaload, 1) := by decide +kernel
theorem dX6_instructions_11 : decode cX6_instructions 11 = .ok (.if_icmp .ge 23, 3) := by decide +kernel
theorem dX6_instructions_14 : decode cX6_instructions 14 = .ok (.iload_n 2, 1) := by decide +kernel
theorem dX6_instructions_15 : decode cX6_instructions 15 = .ok (.aload_n 0, 1) := by decide +kernel
theorem dX6_instructions_16 : decode cX6_instructions 16 = .ok (.getfield 25, 3) := by decide +kernel
theorem dX6_instructions_19 : decode cX6_instructions 19 = .ok (.bipush 8, 2) := by decide +kernel
theorem dX6_instructions_21 : decode cX6_instructions 21 = .ok (.iload_n 1, 1) := by decide +kernel
theorem dX6_instructions_22 : decode cX6_instructions 22 = .ok (.imul, 1) := by decide +kernel
theorem dX6_instructions_23 : decode cX6_instructions 23 = .ok (.iload_n 3, 1) := by decide +kernel
theorem dX6_instructions_24 : decode cX6_instructions 24 = .ok (.iadd, 1) := by decide +kernel
theorem dX6_instructions_25 : decode cX6_instructions 25 = .ok (.iaload, 1) := by decide +kernel
theorem dX6_instructions_26 : decode cX6_instructions 26 = .ok (.iadd, 1) := by decide +kernel
theorem dX6_instructions_27 : decode cX6_instructions 27 = .ok (.istore_n 2, 1) := by decide +kernel
theorem dX6_instructions_28 : decode cX6_instructions 28 = .ok (.iinc 3 1, 3) := by decide +kernel
theorem dX6_instructions_31 : decode cX6_instructions 31 = .ok (.goto (-27), 3) := by decide +kernel
theorem dX6_instructions_34 : decode cX6_instructions 34 = .ok (.iload_n 2, 1) := by decide +kernel
theorem dX6_instructions_35 : decode cX6_instructions 35 = .ok (.ireturn, 1) := by decide +kernel
def gm_X6_instructions_4 (fu : Nat) : Nat → Nat → Int32 → Int32 → Int32 → gx_H → Option (Int32 × gx_H)
  | 0, _, _, _, _, _ => none
  | n + 1, a0, x1, x2, x3, X =>
    (gx_gd X a0 6 4).bind fun az1 =>
    (gx_gai X az1 0 x1).bind fun vz2 =>
    if vz2 ≤ x3 then (
    some (x2, X)) else (
    (gx_gd X a0 6 5).bind fun az4 =>
    (gx_gai X az4 0 (((8 : Int32) * x1) + x3)).bind fun vz5 =>
    (gm_X6_instructions_4 fu  n) a0 x1 (x2 + vz5) (x3 + 1) X)
set_option maxHeartbeats 1000000 in
set_option maxRecDepth 20000 in
theorem gt_X6_instructions_4 {p : Program} {l : Launch} {e : Env} {s : State} {m : MethodId} {args : Array Value} {below : List Frame} {meth : Method} {c : Code} {D : gx_D} {r : Int32} {X2 : gx_H}  (C : gx_C D gz_cl gz_at gz_tb gz_nb p s m meth c cX6_instructions 4 RX6 (some .int)) (fu : Nat) : ∀ (n : Nat) (a0 : Nat) (x1 : Int32) (x2 : Int32) (x3 : Int32) (X : gx_H) , gm_X6_instructions_4 fu  n a0 x1 x2 x3 X = some (r, X2) → gx_W D gz_cl 4 p l e (gx_rm 0 0 0 0) s m args below meth c 0 0 (MQ below (gx_Q D gz_cl (some (gx_i r)) X2) args s 0 0 (gx_Z D)) X 4 [some (gx_r (some a0)), some (gx_i x1), some (gx_i x2), some (gx_i x3)] [] := by
  intro n
  induction n with
  | zero =>
    intro a0 x1 x2 x3 X h
    have h : none = some _ := h
    cases h
  | succ n ih =>
    intro a0 x1 x2 x3 X h
    rw [gm_X6_instructions_4] at h
    refine gx_iload_n C dX6_instructions_4 rfl rfl ?_
    refine gx_aload_n C dX6_instructions_5 rfl rfl ?_
    obtain ⟨az1, eaz1, h⟩ := gx_bd h
    refine gx_get C kcX6 4 (by decide) wl_501 (gx_gd_s eaz1) dX6_instructions_6 ?_
    refine gx_iload_n C dX6_instructions_9 rfl rfl ?_
    obtain ⟨vz2, evz2, h⟩ := gx_bd h
    refine gx_iald C (t := 0) rfl evz2 dX6_instructions_10 ?_
    refine gx_icmp_ge (tgt := 34) C dX6_instructions_11 (by decide) (fun qz3 => ?_) (fun qz3 => ?_)
    · rw [if_pos qz3] at h
      refine gx_iload_n C dX6_instructions_34 rfl rfl ?_
      cases h
      exact gx_iret C dX6_instructions_35
    · rw [if_neg qz3] at h
      refine gx_iload_n C dX6_instructions_14 rfl rfl ?_
      refine gx_aload_n C dX6_instructions_15 rfl rfl ?_
      obtain ⟨az4, eaz4, h⟩ := gx_bd h
      refine gx_get C kcX6 5 (by decide) wl_502 (gx_gd_s eaz4) dX6_instructions_16 ?_
      refine gx_bipush (v := 8) C dX6_instructions_19 (by decide) ?_
      refine gx_iload_n C dX6_instructions_21 rfl rfl ?_
      refine gx_imul C dX6_instructions_22 ?_
      refine gx_iload_n C dX6_instructions_23 rfl rfl ?_
      refine gx_iadd C dX6_instructions_24 ?_
      obtain ⟨vz5, evz5, h⟩ := gx_bd h
      refine gx_iald C (t := 0) rfl evz5 dX6_instructions_25 ?_
      refine gx_iadd C dX6_instructions_26 ?_
      refine gx_istore_n (lv2 := [some (gx_r (some a0)), some (gx_i x1), some (gx_i (x2 + vz5)), some (gx_i x3)]) C dX6_instructions_27 rfl (by decide) rfl ?_
      refine gx_iinc (v := (x3 + 1)) (lv2 := [some (gx_r (some a0)), some (gx_i x1), some (gx_i (x2 + vz5)), some (gx_i (x3 + 1))]) C dX6_instructions_28 rfl rfl (by decide) rfl ?_
      refine gx_goto (tgt := 4) C dX6_instructions_31 (by decide) ?_
      exact ih a0 x1 (x2 + vz5) (x3 + 1) X h
def gm_X6_instructions (fu : Nat) (this : Nat) (p_0 : Int32) (X : gx_H) : Option (Int32 × gx_H) :=
  gm_X6_instructions_4 fu  fu this p_0 (0 : Int32) (0 : Int32) X
set_option maxHeartbeats 1000000 in
set_option maxRecDepth 20000 in
theorem gc_X6_instructions {l : Launch} {D : gx_D} (fu : Nat) (this : Nat) (p_0 : Int32) (X : gx_H) (r : Int32) (X2 : gx_H) (h : gm_X6_instructions fu this p_0 X = some (r, X2)) : gx_M D gz_cl gz_at gz_tb gz_nb l yX6_instructions cX6_instructions 4 (some .int) 0 0 [gx_r (some this), gx_i p_0] X (some (gx_i r)) X2 0 0 := by
  unfold gm_X6_instructions at h
  refine gx_enter [some (gx_r (some this)), some (gx_i p_0), none, none] rfl (by decide) (Nat.le_of_ble_eq_true rfl) ?_
  intro p e s m below meth c C _
  refine gx_iconst (v := 0) C dX6_instructions_0 (by decide) ?_
  refine gx_istore_n (lv2 := [some (gx_r (some this)), some (gx_i p_0), some (gx_i (0 : Int32)), none]) C dX6_instructions_1 rfl (by decide) rfl ?_
  refine gx_iconst (v := 0) C dX6_instructions_2 (by decide) ?_
  refine gx_istore_n (lv2 := [some (gx_r (some this)), some (gx_i p_0), some (gx_i (0 : Int32)), some (gx_i (0 : Int32))]) C dX6_instructions_3 rfl (by decide) rfl ?_
  exact gt_X6_instructions_4 C fu  fu this p_0 (0 : Int32) (0 : Int32) X h
theorem dX6_wayMany_0 : decode cX6_wayMany 0 = .ok (.iconst 0, 1) := by decide +kernel
theorem dX6_wayMany_1 : decode cX6_wayMany 1 = .ok (.istore_n 1, 1) := by decide +kernel
theorem dX6_wayMany_2 : decode cX6_wayMany 2 = .ok (.iconst 0, 1) := by decide +kernel
theorem dX6_wayMany_3 : decode cX6_wayMany 3 = .ok (.istore_n 2, 1) := by decide +kernel
theorem dX6_wayMany_4 : decode cX6_wayMany 4 = .ok (.iload_n 2, 1) := by decide +kernel
theorem dX6_wayMany_5 : decode cX6_wayMany 5 = .ok (.ldc 13, 2) := by decide +kernel
theorem dX6_wayMany_7 : decode cX6_wayMany 7 = .ok (.if_icmp .ge 26, 3) := by decide +kernel
theorem dX6_wayMany_10 : decode cX6_wayMany 10 = .ok (.iload_n 1, 1) := by decide +kernel
theorem dX6_wayMany_11 : decode cX6_wayMany 11 = .ok (.aload_n 0, 1) := by decide +kernel
theorem dX6_wayMany_12 : decode cX6_wayMany 12 = .ok (.getfield 14, 3) := by decide +kernel
theorem dX6_wayMany_15 : decode cX6_wayMany 15 = .ok (.iload_n 2, 1) := by decide +kernel
theorem dX6_wayMany_16 : decode cX6_wayMany 16 = .ok (.baload, 1) := by decide +kernel
theorem dX6_wayMany_17 : decode cX6_wayMany 17 = .ok (.ifCond .eq 7, 3) := by decide +kernel
theorem dX6_wayMany_20 : decode cX6_wayMany 20 = .ok (.iconst 1, 1) := by decide +kernel
theorem dX6_wayMany_21 : decode cX6_wayMany 21 = .ok (.goto 4, 3) := by decide +kernel
theorem dX6_wayMany_24 : decode cX6_wayMany 24 = .ok (.iconst 0, 1) := by decide +kernel
theorem dX6_wayMany_25 : decode cX6_wayMany 25 = .ok (.iadd, 1) := by decide +kernel
theorem dX6_wayMany_26 : decode cX6_wayMany 26 = .ok (.istore_n 1, 1) := by decide +kernel
theorem dX6_wayMany_27 : decode cX6_wayMany 27 = .ok (.iinc 2 1, 3) := by decide +kernel
theorem dX6_wayMany_30 : decode cX6_wayMany 30 = .ok (.goto (-26), 3) := by decide +kernel
theorem dX6_wayMany_33 : decode cX6_wayMany 33 = .ok (.iload_n 1, 1) := by decide +kernel
theorem dX6_wayMany_34 : decode cX6_wayMany 34 = .ok (.ireturn, 1) := by decide +kernel
def gm_X6_wayMany_25 (fu : Nat) (K4 : Nat → Int32 → Int32 → gx_H → Option (Int32 × gx_H)) (a0 : Nat) (x2 : Int32) (sx0 : Int32) (sx1 : Int32) (X : gx_H) : Option (Int32 × gx_H) :=
  K4 a0 (sx0 + sx1) (x2 + 1) X
set_option maxHeartbeats 1000000 in
set_option maxRecDepth 20000 in
theorem gt_X6_wayMany_25 {p : Program} {l : Launch} {e : Env} {s : State} {m : MethodId} {args : Array Value} {below : List Frame} {meth : Method} {c : Code} {D : gx_D} {r : Int32} {X2 : gx_H}  (C : gx_C D gz_cl gz_at gz_tb gz_nb p s m meth c cX6_wayMany 3 RX6 (some .int)) (fu : Nat) (K4 : Nat → Int32 → Int32 → gx_H → Option (Int32 × gx_H)) (hK4 : ∀ (a0 : Nat) (x1 : Int32) (x2 : Int32) (X : gx_H), K4 a0 x1 x2 X = some (r, X2) → gx_W D gz_cl 3 p l e (gx_rm 0 0 0 0) s m args below meth c 0 0 (MQ below (gx_Q D gz_cl (some (gx_i r)) X2) args s 0 0 (gx_Z D)) X 4 [some (gx_r (some a0)), some (gx_i x1), some (gx_i x2)] []) (a0 : Nat) (x2 : Int32) (sx0 : Int32) (sx1 : Int32) (X : gx_H) (h : gm_X6_wayMany_25 fu K4 a0 x2 sx0 sx1 X = some (r, X2)) : gx_W D gz_cl 3 p l e (gx_rm 0 0 0 0) s m args below meth c 0 0 (MQ below (gx_Q D gz_cl (some (gx_i r)) X2) args s 0 0 (gx_Z D)) X 25 [some (gx_r (some a0)), none, some (gx_i x2)] [gx_i sx1, gx_i sx0] := by
  unfold gm_X6_wayMany_25 at h
  refine gx_iadd C dX6_wayMany_25 ?_
  refine gx_istore_n (lv2 := [some (gx_r (some a0)), some (gx_i (sx0 + sx1)), some (gx_i x2)]) C dX6_wayMany_26 rfl (by decide) rfl ?_
  refine gx_iinc (v := (x2 + 1)) (lv2 := [some (gx_r (some a0)), some (gx_i (sx0 + sx1)), some (gx_i (x2 + 1))]) C dX6_wayMany_27 rfl rfl (by decide) rfl ?_
  refine gx_goto (tgt := 4) C dX6_wayMany_30 (by decide) ?_
  exact hK4 a0 (sx0 + sx1) (x2 + 1) X h
def gm_X6_wayMany_4 (fu : Nat) : Nat → Nat → Int32 → Int32 → gx_H → Option (Int32 × gx_H)
  | 0, _, _, _, _ => none
  | n + 1, a0, x1, x2, X =>
    if (58560 : Int32) ≤ x2 then (
    some (x1, X)) else (
    (gx_gd X a0 6 2).bind fun az2 =>
    (gx_gai X az2 2 x2).bind fun vz3 =>
    if vz3 = 0 then (
    gm_X6_wayMany_25 fu (gm_X6_wayMany_4 fu  n) a0 x2 x1 (0 : Int32) X) else (
    gm_X6_wayMany_25 fu (gm_X6_wayMany_4 fu  n) a0 x2 x1 (1 : Int32) X))
set_option maxHeartbeats 1000000 in
set_option maxRecDepth 20000 in
theorem gt_X6_wayMany_4 {p : Program} {l : Launch} {e : Env} {s : State} {m : MethodId} {args : Array Value} {below : List Frame} {meth : Method} {c : Code} {D : gx_D} {r : Int32} {X2 : gx_H}  (C : gx_C D gz_cl gz_at gz_tb gz_nb p s m meth c cX6_wayMany 3 RX6 (some .int)) (fu : Nat) : ∀ (n : Nat) (a0 : Nat) (x1 : Int32) (x2 : Int32) (X : gx_H) , gm_X6_wayMany_4 fu  n a0 x1 x2 X = some (r, X2) → gx_W D gz_cl 3 p l e (gx_rm 0 0 0 0) s m args below meth c 0 0 (MQ below (gx_Q D gz_cl (some (gx_i r)) X2) args s 0 0 (gx_Z D)) X 4 [some (gx_r (some a0)), some (gx_i x1), some (gx_i x2)] [] := by
  intro n
  induction n with
  | zero =>
    intro a0 x1 x2 X h
    have h : none = some _ := h
    cases h
  | succ n ih =>
    intro a0 x1 x2 X h
    rw [gm_X6_wayMany_4] at h
    refine gx_iload_n C dX6_wayMany_4 rfl rfl ?_
    refine gx_ldc (v := 58560) C wl_496 dX6_wayMany_5 ?_
    refine gx_icmp_ge (tgt := 33) C dX6_wayMany_7 (by decide) (fun qz1 => ?_) (fun qz1 => ?_)
    · rw [if_pos qz1] at h
      refine gx_iload_n C dX6_wayMany_33 rfl rfl ?_
      cases h
      exact gx_iret C dX6_wayMany_34
    · rw [if_neg qz1] at h
      refine gx_iload_n C dX6_wayMany_10 rfl rfl ?_
      refine gx_aload_n C dX6_wayMany_11 rfl rfl ?_
      obtain ⟨az2, eaz2, h⟩ := gx_bd h
      refine gx_get C kcX6 2 (by decide) wl_499 (gx_gd_s eaz2) dX6_wayMany_12 ?_
      refine gx_iload_n C dX6_wayMany_15 rfl rfl ?_
      obtain ⟨vz3, evz3, h⟩ := gx_bd h
      refine gx_zald C (t := 2) rfl evz3 dX6_wayMany_16 ?_
      refine gx_if_eq (tgt := 24) C dX6_wayMany_17 (by decide) (fun qz4 => ?_) (fun qz4 => ?_)
      · rw [if_pos qz4] at h
        refine gx_iconst (v := 0) C dX6_wayMany_24 (by decide) ?_
        refine gx_sub (lv2 := [some (gx_r (some a0)), none, some (gx_i x2)]) [true, false, true] rfl ?_
        exact gt_X6_wayMany_25 C fu (gm_X6_wayMany_4 fu  n) ih a0 x2 x1 (0 : Int32) X h
      · rw [if_neg qz4] at h
        refine gx_iconst (v := 1) C dX6_wayMany_20 (by decide) ?_
        refine gx_goto (tgt := 25) C dX6_wayMany_21 (by decide) ?_
        refine gx_sub (lv2 := [some (gx_r (some a0)), none, some (gx_i x2)]) [true, false, true] rfl ?_
        exact gt_X6_wayMany_25 C fu (gm_X6_wayMany_4 fu  n) ih a0 x2 x1 (1 : Int32) X h
def gm_X6_wayMany (fu : Nat) (this : Nat) (X : gx_H) : Option (Int32 × gx_H) :=
  gm_X6_wayMany_4 fu  fu this (0 : Int32) (0 : Int32) X
set_option maxHeartbeats 1000000 in
set_option maxRecDepth 20000 in
theorem gc_X6_wayMany {l : Launch} {D : gx_D} (fu : Nat) (this : Nat) (X : gx_H) (r : Int32) (X2 : gx_H) (h : gm_X6_wayMany fu this X = some (r, X2)) : gx_M D gz_cl gz_at gz_tb gz_nb l yX6_wayMany cX6_wayMany 3 (some .int) 0 0 [gx_r (some this)] X (some (gx_i r)) X2 0 0 := by
  unfold gm_X6_wayMany at h
  refine gx_enter [some (gx_r (some this)), none, none] rfl (by decide) (Nat.le_of_ble_eq_true rfl) ?_
  intro p e s m below meth c C _
  refine gx_iconst (v := 0) C dX6_wayMany_0 (by decide) ?_
  refine gx_istore_n (lv2 := [some (gx_r (some this)), some (gx_i (0 : Int32)), none]) C dX6_wayMany_1 rfl (by decide) rfl ?_
  refine gx_iconst (v := 0) C dX6_wayMany_2 (by decide) ?_
  refine gx_istore_n (lv2 := [some (gx_r (some this)), some (gx_i (0 : Int32)), some (gx_i (0 : Int32))]) C dX6_wayMany_3 rfl (by decide) rfl ?_
  exact gt_X6_wayMany_4 C fu  fu this (0 : Int32) (0 : Int32) X h
theorem dX6_neededMany_0 : decode cX6_neededMany 0 = .ok (.iconst 0, 1) := by decide +kernel
theorem dX6_neededMany_1 : decode cX6_neededMany 1 = .ok (.istore_n 1, 1) := by decide +kernel
theorem dX6_neededMany_2 : decode cX6_neededMany 2 = .ok (.iconst 0, 1) := by decide +kernel
theorem dX6_neededMany_3 : decode cX6_neededMany 3 = .ok (.istore_n 2, 1) := by decide +kernel
theorem dX6_neededMany_4 : decode cX6_neededMany 4 = .ok (.iload_n 2, 1) := by decide +kernel
theorem dX6_neededMany_5 : decode cX6_neededMany 5 = .ok (.bipush 16, 2) := by decide +kernel
theorem dX6_neededMany_7 : decode cX6_neededMany 7 = .ok (.if_icmp .ge 26, 3) := by decide +kernel
theorem dX6_neededMany_10 : decode cX6_neededMany 10 = .ok (.iload_n 1, 1) := by decide +kernel
theorem dX6_neededMany_11 : decode cX6_neededMany 11 = .ok (.aload_n 0, 1) := by decide +kernel
theorem dX6_neededMany_12 : decode cX6_neededMany 12 = .ok (.getfield 18, 3) := by decide +kernel
theorem dX6_neededMany_15 : decode cX6_neededMany 15 = .ok (.iload_n 2, 1) := by decide +kernel
theorem dX6_neededMany_16 : decode cX6_neededMany 16 = .ok (.baload, 1) := by decide +kernel
theorem dX6_neededMany_17 : decode cX6_neededMany 17 = .ok (.ifCond .eq 7, 3) := by decide +kernel
theorem dX6_neededMany_20 : decode cX6_neededMany 20 = .ok (.iconst 1, 1) := by decide +kernel
theorem dX6_neededMany_21 : decode cX6_neededMany 21 = .ok (.goto 4, 3) := by decide +kernel
theorem dX6_neededMany_24 : decode cX6_neededMany 24 = .ok (.iconst 0, 1) := by decide +kernel
theorem dX6_neededMany_25 : decode cX6_neededMany 25 = .ok (.iadd, 1) := by decide +kernel
theorem dX6_neededMany_26 : decode cX6_neededMany 26 = .ok (.istore_n 1, 1) := by decide +kernel
theorem dX6_neededMany_27 : decode cX6_neededMany 27 = .ok (.iinc 2 1, 3) := by decide +kernel
theorem dX6_neededMany_30 : decode cX6_neededMany 30 = .ok (.goto (-26), 3) := by decide +kernel
theorem dX6_neededMany_33 : decode cX6_neededMany 33 = .ok (.iload_n 1, 1) := by decide +kernel
theorem dX6_neededMany_34 : decode cX6_neededMany 34 = .ok (.ireturn, 1) := by decide +kernel
def gm_X6_neededMany_25 (fu : Nat) (K4 : Nat → Int32 → Int32 → gx_H → Option (Int32 × gx_H)) (a0 : Nat) (x2 : Int32) (sx0 : Int32) (sx1 : Int32) (X : gx_H) : Option (Int32 × gx_H) :=
  K4 a0 (sx0 + sx1) (x2 + 1) X
set_option maxHeartbeats 1000000 in
set_option maxRecDepth 20000 in
theorem gt_X6_neededMany_25 {p : Program} {l : Launch} {e : Env} {s : State} {m : MethodId} {args : Array Value} {below : List Frame} {meth : Method} {c : Code} {D : gx_D} {r : Int32} {X2 : gx_H}  (C : gx_C D gz_cl gz_at gz_tb gz_nb p s m meth c cX6_neededMany 3 RX6 (some .int)) (fu : Nat) (K4 : Nat → Int32 → Int32 → gx_H → Option (Int32 × gx_H)) (hK4 : ∀ (a0 : Nat) (x1 : Int32) (x2 : Int32) (X : gx_H), K4 a0 x1 x2 X = some (r, X2) → gx_W D gz_cl 3 p l e (gx_rm 0 0 0 0) s m args below meth c 0 0 (MQ below (gx_Q D gz_cl (some (gx_i r)) X2) args s 0 0 (gx_Z D)) X 4 [some (gx_r (some a0)), some (gx_i x1), some (gx_i x2)] []) (a0 : Nat) (x2 : Int32) (sx0 : Int32) (sx1 : Int32) (X : gx_H) (h : gm_X6_neededMany_25 fu K4 a0 x2 sx0 sx1 X = some (r, X2)) : gx_W D gz_cl 3 p l e (gx_rm 0 0 0 0) s m args below meth c 0 0 (MQ below (gx_Q D gz_cl (some (gx_i r)) X2) args s 0 0 (gx_Z D)) X 25 [some (gx_r (some a0)), none, some (gx_i x2)] [gx_i sx1, gx_i sx0] := by
  unfold gm_X6_neededMany_25 at h
  refine gx_iadd C dX6_neededMany_25 ?_
  refine gx_istore_n (lv2 := [some (gx_r (some a0)), some (gx_i (sx0 + sx1)), some (gx_i x2)]) C dX6_neededMany_26 rfl (by decide) rfl ?_
  refine gx_iinc (v := (x2 + 1)) (lv2 := [some (gx_r (some a0)), some (gx_i (sx0 + sx1)), some (gx_i (x2 + 1))]) C dX6_neededMany_27 rfl rfl (by decide) rfl ?_
  refine gx_goto (tgt := 4) C dX6_neededMany_30 (by decide) ?_
  exact hK4 a0 (sx0 + sx1) (x2 + 1) X h
def gm_X6_neededMany_4 (fu : Nat) : Nat → Nat → Int32 → Int32 → gx_H → Option (Int32 × gx_H)
  | 0, _, _, _, _ => none
  | n + 1, a0, x1, x2, X =>
    if (16 : Int32) ≤ x2 then (
    some (x1, X)) else (
    (gx_gd X a0 6 3).bind fun az2 =>
    (gx_gai X az2 2 x2).bind fun vz3 =>
    if vz3 = 0 then (
    gm_X6_neededMany_25 fu (gm_X6_neededMany_4 fu  n) a0 x2 x1 (0 : Int32) X) else (
    gm_X6_neededMany_25 fu (gm_X6_neededMany_4 fu  n) a0 x2 x1 (1 : Int32) X))
set_option maxHeartbeats 1000000 in
set_option maxRecDepth 20000 in
theorem gt_X6_neededMany_4 {p : Program} {l : Launch} {e : Env} {s : State} {m : MethodId} {args : Array Value} {below : List Frame} {meth : Method} {c : Code} {D : gx_D} {r : Int32} {X2 : gx_H}  (C : gx_C D gz_cl gz_at gz_tb gz_nb p s m meth c cX6_neededMany 3 RX6 (some .int)) (fu : Nat) : ∀ (n : Nat) (a0 : Nat) (x1 : Int32) (x2 : Int32) (X : gx_H) , gm_X6_neededMany_4 fu  n a0 x1 x2 X = some (r, X2) → gx_W D gz_cl 3 p l e (gx_rm 0 0 0 0) s m args below meth c 0 0 (MQ below (gx_Q D gz_cl (some (gx_i r)) X2) args s 0 0 (gx_Z D)) X 4 [some (gx_r (some a0)), some (gx_i x1), some (gx_i x2)] [] := by
  intro n
  induction n with
  | zero =>
    intro a0 x1 x2 X h
    have h : none = some _ := h
    cases h
  | succ n ih =>
    intro a0 x1 x2 X h
    rw [gm_X6_neededMany_4] at h
    refine gx_iload_n C dX6_neededMany_4 rfl rfl ?_
    refine gx_bipush (v := 16) C dX6_neededMany_5 (by decide) ?_
    refine gx_icmp_ge (tgt := 33) C dX6_neededMany_7 (by decide) (fun qz1 => ?_) (fun qz1 => ?_)
    · rw [if_pos qz1] at h
      refine gx_iload_n C dX6_neededMany_33 rfl rfl ?_
      cases h
      exact gx_iret C dX6_neededMany_34
    · rw [if_neg qz1] at h
      refine gx_iload_n C dX6_neededMany_10 rfl rfl ?_
      refine gx_aload_n C dX6_neededMany_11 rfl rfl ?_
      obtain ⟨az2, eaz2, h⟩ := gx_bd h
      refine gx_get C kcX6 3 (by decide) wl_500 (gx_gd_s eaz2) dX6_neededMany_12 ?_
      refine gx_iload_n C dX6_neededMany_15 rfl rfl ?_
      obtain ⟨vz3, evz3, h⟩ := gx_bd h
      refine gx_zald C (t := 2) rfl evz3 dX6_neededMany_16 ?_
      refine gx_if_eq (tgt := 24) C dX6_neededMany_17 (by decide) (fun qz4 => ?_) (fun qz4 => ?_)
      · rw [if_pos qz4] at h
        refine gx_iconst (v := 0) C dX6_neededMany_24 (by decide) ?_
        refine gx_sub (lv2 := [some (gx_r (some a0)), none, some (gx_i x2)]) [true, false, true] rfl ?_
        exact gt_X6_neededMany_25 C fu (gm_X6_neededMany_4 fu  n) ih a0 x2 x1 (0 : Int32) X h
      · rw [if_neg qz4] at h
        refine gx_iconst (v := 1) C dX6_neededMany_20 (by decide) ?_
        refine gx_goto (tgt := 25) C dX6_neededMany_21 (by decide) ?_
        refine gx_sub (lv2 := [some (gx_r (some a0)), none, some (gx_i x2)]) [true, false, true] rfl ?_
        exact gt_X6_neededMany_25 C fu (gm_X6_neededMany_4 fu  n) ih a0 x2 x1 (1 : Int32) X h
def gm_X6_neededMany (fu : Nat) (this : Nat) (X : gx_H) : Option (Int32 × gx_H) :=
  gm_X6_neededMany_4 fu  fu this (0 : Int32) (0 : Int32) X
set_option maxHeartbeats 1000000 in
set_option maxRecDepth 20000 in
theorem gc_X6_neededMany {l : Launch} {D : gx_D} (fu : Nat) (this : Nat) (X : gx_H) (r : Int32) (X2 : gx_H) (h : gm_X6_neededMany fu this X = some (r, X2)) : gx_M D gz_cl gz_at gz_tb gz_nb l yX6_neededMany cX6_neededMany 3 (some .int) 0 0 [gx_r (some this)] X (some (gx_i r)) X2 0 0 := by
  unfold gm_X6_neededMany at h
  refine gx_enter [some (gx_r (some this)), none, none] rfl (by decide) (Nat.le_of_ble_eq_true rfl) ?_
  intro p e s m below meth c C _
  refine gx_iconst (v := 0) C dX6_neededMany_0 (by decide) ?_
  refine gx_istore_n (lv2 := [some (gx_r (some this)), some (gx_i (0 : Int32)), none]) C dX6_neededMany_1 rfl (by decide) rfl ?_
  refine gx_iconst (v := 0) C dX6_neededMany_2 (by decide) ?_
  refine gx_istore_n (lv2 := [some (gx_r (some this)), some (gx_i (0 : Int32)), some (gx_i (0 : Int32))]) C dX6_neededMany_3 rfl (by decide) rfl ?_
  exact gt_X6_neededMany_4 C fu  fu this (0 : Int32) (0 : Int32) X h
theorem dX6_look_0 : decode cX6_look 0 = .ok (.aload_n 0, 1) := by decide +kernel
theorem dX6_look_1 : decode cX6_look 1 = .ok (.iconst 0, 1) := by decide +kernel
theorem dX6_look_2 : decode cX6_look 2 = .ok (.putfield 65, 3) := by decide +kernel
theorem dX6_look_5 : decode cX6_look 5 = .ok (.iload_n 1, 1) := by decide +kernel
theorem dX6_look_6 : decode cX6_look 6 = .ok (.tableswitch 100 0 6 #[42, 47, 52, 59, 72, 78, 95], 42) := by decide +kernel
theorem dX6_look_48 : decode cX6_look 48 = .ok (.aload_n 0, 1) := by decide +kernel
theorem dX6_look_49 : decode cX6_look 49 = .ok (.getfield 7, 3) := by decide +kernel
theorem dX6_look_52 : decode cX6_look 52 = .ok (.ireturn, 1) := by decide +kernel
theorem dX6_look_53 : decode cX6_look 53 = .ok (.aload_n 0, 1) := by decide +kernel
theorem dX6_look_54 : decode cX6_look 54 = .ok (.invokevirtual 146, 3) := by decide +kernel
theorem dX6_look_57 : decode cX6_look 57 = .ok (.ireturn, 1) := by decide +kernel
theorem dX6_look_58 : decode cX6_look 58 = .ok (.aload_n 0, 1) := by decide +kernel
theorem dX6_look_59 : decode cX6_look 59 = .ok (.getfield 21, 3) := by decide +kernel
theorem dX6_look_62 : decode cX6_look 62 = .ok (.iconst 0, 1) := by decide +kernel
theorem dX6_look_63 : decode cX6_look 63 = .ok (.iaload, 1) := by decide +kernel
theorem dX6_look_64 : decode cX6_look 64 = .ok (.ireturn, 1) := by decide +kernel
theorem dX6_look_65 : decode cX6_look 65 = .ok (.aload_n 0, 1) := by decide +kernel
theorem dX6_look_66 : decode cX6_look 66 = .ok (.getfield 68, 3) := by decide +kernel
theorem dX6_look_69 : decode cX6_look 69 = .ok (.ifCond .eq 7, 3) := by decide +kernel
theorem dX6_look_72 : decode cX6_look 72 = .ok (.iconst 1, 1) := by decide +kernel
theorem dX6_look_73 : decode cX6_look 73 = .ok (.goto 4, 3) := by decide +kernel
theorem dX6_look_76 : decode cX6_look 76 = .ok (.iconst 0, 1) := by decide +kernel
theorem dX6_look_77 : decode cX6_look 77 = .ok (.ireturn, 1) := by decide +kernel
theorem dX6_look_78 : decode cX6_look 78 = .ok (.aload_n 0, 1) := by decide +kernel
theorem dX6_look_79 : decode cX6_look 79 = .ok (.iconst 0, 1) := by decide +kernel
theorem dX6_look_80 : decode cX6_look 80 = .ok (.invokevirtual 150, 3) := by decide +kernel
theorem dX6_look_83 : decode cX6_look 83 = .ok (.ireturn, 1) := by decide +kernel
theorem dX6_look_84 : decode cX6_look 84 = .ok (.aload_n 0, 1) := by decide +kernel
theorem dX6_look_85 : decode cX6_look 85 = .ok (.getfield 68, 3) := by decide +kernel
theorem dX6_look_88 : decode cX6_look 88 = .ok (.ifCond .eq 11, 3) := by decide +kernel
theorem dX6_look_91 : decode cX6_look 91 = .ok (.aload_n 0, 1) := by decide +kernel
theorem dX6_look_92 : decode cX6_look 92 = .ok (.iconst 1, 1) := by decide +kernel
theorem dX6_look_93 : decode cX6_look 93 = .ok (.invokevirtual 150, 3) := by decide +kernel
theorem dX6_look_96 : decode cX6_look 96 = .ok (.goto 4, 3) := by decide +kernel
theorem dX6_look_99 : decode cX6_look 99 = .ok (.iconst (-1), 1) := by decide +kernel
theorem dX6_look_100 : decode cX6_look 100 = .ok (.ireturn, 1) := by decide +kernel
theorem dX6_look_101 : decode cX6_look 101 = .ok (.aload_n 0, 1) := by decide +kernel
theorem dX6_look_102 : decode cX6_look 102 = .ok (.invokevirtual 153, 3) := by decide +kernel
theorem dX6_look_105 : decode cX6_look 105 = .ok (.ireturn, 1) := by decide +kernel
theorem dX6_look_106 : decode cX6_look 106 = .ok (.iconst (-1), 1) := by decide +kernel
theorem dX6_look_107 : decode cX6_look 107 = .ok (.ireturn, 1) := by decide +kernel
def gm_X6_look (fu : Nat) (this : Nat) (p_0 : Int32) (X : gx_H) : Option (Int32 × gx_H) :=
  (gx_pf X this 6 0 (.int (0 : Int32))).bind fun Xz1 =>
  if p_0 = (0 : Int32) then (
  (gx_gi Xz1 this 6 1).bind fun vz3 =>
  some (vz3, Xz1)) else (
  if p_0 = (1 : Int32) then (
  gx_ob Xz1 this 6 <|
  gx_b2 (gm_X6_wayMany fu this Xz1) fun vz6 Xz5 =>
  some (vz6, Xz5)) else (
  if p_0 = (2 : Int32) then (
  (gx_gd Xz1 this 6 4).bind fun az7 =>
  (gx_gai Xz1 az7 0 (0 : Int32)).bind fun vz8 =>
  some (vz8, Xz1)) else (
  if p_0 = (3 : Int32) then (
  (gx_gi Xz1 this 6 12).bind fun vz9 =>
  if vz9 = 0 then (
  some ((0 : Int32), Xz1)) else (
  some ((1 : Int32), Xz1))) else (
  if p_0 = (4 : Int32) then (
  gx_ob Xz1 this 6 <|
  gx_b2 (gm_X6_instructions fu this (0 : Int32) Xz1) fun vz13 Xz12 =>
  some (vz13, Xz12)) else (
  if p_0 = (5 : Int32) then (
  (gx_gi Xz1 this 6 12).bind fun vz14 =>
  if vz14 = 0 then (
  some ((-1 : Int32), Xz1)) else (
  gx_ob Xz1 this 6 <|
  gx_b2 (gm_X6_instructions fu this (1 : Int32) Xz1) fun vz18 Xz17 =>
  some (vz18, Xz17))) else (
  if p_0 = (6 : Int32) then (
  gx_ob Xz1 this 6 <|
  gx_b2 (gm_X6_neededMany fu this Xz1) fun vz21 Xz20 =>
  some (vz21, Xz20)) else (
  some ((-1 : Int32), Xz1))))))))
set_option maxHeartbeats 1000000 in
set_option maxRecDepth 20000 in
theorem gc_X6_look {l : Launch} {D : gx_D} (fu : Nat) (this : Nat) (p_0 : Int32) (X : gx_H) (r : Int32) (X2 : gx_H) (h : gm_X6_look fu this p_0 X = some (r, X2)) : gx_M D gz_cl gz_at gz_tb gz_nb l yX6_look cX6_look 2 (some .int) 1 23 [gx_r (some this), gx_i p_0] X (some (gx_i r)) X2 0 0 := by
  unfold gm_X6_look at h
  refine gx_enter [some (gx_r (some this)), some (gx_i p_0)] rfl (by decide) (Nat.le_of_ble_eq_true rfl) ?_
  intro p e s m below meth c C _
  refine gx_aload_n C dX6_look_0 rfl rfl ?_
  refine gx_iconst (v := 0) C dX6_look_1 (by decide) ?_
  obtain ⟨Xz1, eXz1, h⟩ := gx_bd h
  refine gx_put C kcX6 0 (by decide) rfl wl_497 ⟨rfl, rfl⟩ eXz1 dX6_look_2 ?_
  refine gx_iload_n C dX6_look_5 rfl rfl ?_
  by_cases qz2_0 : p_0 = (0 : Int32)
  · rw [if_pos qz2_0] at h
    refine gx_swIn (tgt := 48) (off := 42) C dX6_look_6 (by rw [qz2_0]; decide) (by rw [qz2_0]; decide) (by rw [qz2_0]; decide) (by decide) ?_
    refine gx_aload_n C dX6_look_48 rfl rfl ?_
    obtain ⟨vz3, evz3, h⟩ := gx_bd h
    refine gx_get C kcX6 1 (by decide) wl_498 (gx_gi_s evz3) dX6_look_49 ?_
    cases h
    exact gx_iret C dX6_look_52
  rw [if_neg qz2_0] at h
  by_cases qz2_1 : p_0 = (1 : Int32)
  · rw [if_pos qz2_1] at h
    refine gx_swIn (tgt := 53) (off := 47) C dX6_look_6 (by rw [qz2_1]; decide) (by rw [qz2_1]; decide) (by rw [qz2_1]; decide) (by decide) ?_
    refine gx_aload_n C dX6_look_53 rfl rfl ?_
    obtain ⟨hoz4, h⟩ := gx_obs h
    obtain ⟨vz6, Xz5, eXz5, h⟩ := gx_bd2 h
    refine gx_callV (As := []) (st := []) (stk2 := [gx_i vz6]) C cd_X6_wayMany wl_703 ws_X6_wayMany wl_701 rfl hoz4 (gc_X6_wayMany fu this Xz1 vz6 Xz5 eXz5) rfl ⟨Nat.le_of_ble_eq_true rfl, Nat.le_of_ble_eq_true rfl⟩ ⟨Nat.le_of_ble_eq_true rfl, Nat.le_of_ble_eq_true rfl⟩ (Nat.le_of_ble_eq_true rfl) rfl rfl dX6_look_54 ?_
    cases h
    exact gx_iret C dX6_look_57
  rw [if_neg qz2_1] at h
  by_cases qz2_2 : p_0 = (2 : Int32)
  · rw [if_pos qz2_2] at h
    refine gx_swIn (tgt := 58) (off := 52) C dX6_look_6 (by rw [qz2_2]; decide) (by rw [qz2_2]; decide) (by rw [qz2_2]; decide) (by decide) ?_
    refine gx_aload_n C dX6_look_58 rfl rfl ?_
    obtain ⟨az7, eaz7, h⟩ := gx_bd h
    refine gx_get C kcX6 4 (by decide) wl_501 (gx_gd_s eaz7) dX6_look_59 ?_
    refine gx_iconst (v := 0) C dX6_look_62 (by decide) ?_
    obtain ⟨vz8, evz8, h⟩ := gx_bd h
    refine gx_iald C (t := 0) rfl evz8 dX6_look_63 ?_
    cases h
    exact gx_iret C dX6_look_64
  rw [if_neg qz2_2] at h
  by_cases qz2_3 : p_0 = (3 : Int32)
  · rw [if_pos qz2_3] at h
    refine gx_swIn (tgt := 65) (off := 59) C dX6_look_6 (by rw [qz2_3]; decide) (by rw [qz2_3]; decide) (by rw [qz2_3]; decide) (by decide) ?_
    refine gx_aload_n C dX6_look_65 rfl rfl ?_
    obtain ⟨vz9, evz9, h⟩ := gx_bd h
    refine gx_get C kcX6 12 (by decide) wl_509 (gx_gi_s evz9) dX6_look_66 ?_
    refine gx_if_eq (tgt := 76) C dX6_look_69 (by decide) (fun qz10 => ?_) (fun qz10 => ?_)
    · rw [if_pos qz10] at h
      refine gx_iconst (v := 0) C dX6_look_76 (by decide) ?_
      cases h
      exact gx_iret C dX6_look_77
    · rw [if_neg qz10] at h
      refine gx_iconst (v := 1) C dX6_look_72 (by decide) ?_
      refine gx_goto (tgt := 77) C dX6_look_73 (by decide) ?_
      cases h
      exact gx_iret C dX6_look_77
  rw [if_neg qz2_3] at h
  by_cases qz2_4 : p_0 = (4 : Int32)
  · rw [if_pos qz2_4] at h
    refine gx_swIn (tgt := 78) (off := 72) C dX6_look_6 (by rw [qz2_4]; decide) (by rw [qz2_4]; decide) (by rw [qz2_4]; decide) (by decide) ?_
    refine gx_aload_n C dX6_look_78 rfl rfl ?_
    refine gx_iconst (v := 0) C dX6_look_79 (by decide) ?_
    obtain ⟨hoz11, h⟩ := gx_obs h
    obtain ⟨vz13, Xz12, eXz12, h⟩ := gx_bd2 h
    refine gx_callV (As := [gx_i (0 : Int32)]) (st := []) (stk2 := [gx_i vz13]) C cd_X6_instructions wl_707 ws_X6_instructions wl_705 rfl hoz11 (gc_X6_instructions fu this (0 : Int32) Xz1 vz13 Xz12 eXz12) rfl ⟨Nat.le_of_ble_eq_true rfl, Nat.le_of_ble_eq_true rfl⟩ ⟨Nat.le_of_ble_eq_true rfl, Nat.le_of_ble_eq_true rfl⟩ (Nat.le_of_ble_eq_true rfl) rfl rfl dX6_look_80 ?_
    cases h
    exact gx_iret C dX6_look_83
  rw [if_neg qz2_4] at h
  by_cases qz2_5 : p_0 = (5 : Int32)
  · rw [if_pos qz2_5] at h
    refine gx_swIn (tgt := 84) (off := 78) C dX6_look_6 (by rw [qz2_5]; decide) (by rw [qz2_5]; decide) (by rw [qz2_5]; decide) (by decide) ?_
    refine gx_aload_n C dX6_look_84 rfl rfl ?_
    obtain ⟨vz14, evz14, h⟩ := gx_bd h
    refine gx_get C kcX6 12 (by decide) wl_509 (gx_gi_s evz14) dX6_look_85 ?_
    refine gx_if_eq (tgt := 99) C dX6_look_88 (by decide) (fun qz15 => ?_) (fun qz15 => ?_)
    · rw [if_pos qz15] at h
      refine gx_iconst (v := -1) C dX6_look_99 (by decide) ?_
      cases h
      exact gx_iret C dX6_look_100
    · rw [if_neg qz15] at h
      refine gx_aload_n C dX6_look_91 rfl rfl ?_
      refine gx_iconst (v := 1) C dX6_look_92 (by decide) ?_
      obtain ⟨hoz16, h⟩ := gx_obs h
      obtain ⟨vz18, Xz17, eXz17, h⟩ := gx_bd2 h
      refine gx_callV (As := [gx_i (1 : Int32)]) (st := []) (stk2 := [gx_i vz18]) C cd_X6_instructions wl_707 ws_X6_instructions wl_705 rfl hoz16 (gc_X6_instructions fu this (1 : Int32) Xz1 vz18 Xz17 eXz17) rfl ⟨Nat.le_of_ble_eq_true rfl, Nat.le_of_ble_eq_true rfl⟩ ⟨Nat.le_of_ble_eq_true rfl, Nat.le_of_ble_eq_true rfl⟩ (Nat.le_of_ble_eq_true rfl) rfl rfl dX6_look_93 ?_
      refine gx_goto (tgt := 100) C dX6_look_96 (by decide) ?_
      cases h
      exact gx_iret C dX6_look_100
  rw [if_neg qz2_5] at h
  by_cases qz2_6 : p_0 = (6 : Int32)
  · rw [if_pos qz2_6] at h
    refine gx_swIn (tgt := 101) (off := 95) C dX6_look_6 (by rw [qz2_6]; decide) (by rw [qz2_6]; decide) (by rw [qz2_6]; decide) (by decide) ?_
    refine gx_aload_n C dX6_look_101 rfl rfl ?_
    obtain ⟨hoz19, h⟩ := gx_obs h
    obtain ⟨vz21, Xz20, eXz20, h⟩ := gx_bd2 h
    refine gx_callV (As := []) (st := []) (stk2 := [gx_i vz21]) C cd_X6_neededMany wl_711 ws_X6_neededMany wl_709 rfl hoz19 (gc_X6_neededMany fu this Xz1 vz21 Xz20 eXz20) rfl ⟨Nat.le_of_ble_eq_true rfl, Nat.le_of_ble_eq_true rfl⟩ ⟨Nat.le_of_ble_eq_true rfl, Nat.le_of_ble_eq_true rfl⟩ (Nat.le_of_ble_eq_true rfl) rfl rfl dX6_look_102 ?_
    cases h
    exact gx_iret C dX6_look_105
  rw [if_neg qz2_6] at h
  refine gx_swOut (tgt := 106) C dX6_look_6 (by have n0 := lv_neT qz2_0 (a := 0) (by decide); have n1 := lv_neT qz2_1 (a := 1) (by decide); have n2 := lv_neT qz2_2 (a := 2) (by decide); have n3 := lv_neT qz2_3 (a := 3) (by decide); have n4 := lv_neT qz2_4 (a := 4) (by decide); have n5 := lv_neT qz2_5 (a := 5) (by decide); have n6 := lv_neT qz2_6 (a := 6) (by decide); omega) (by decide) ?_
  refine gx_iconst (v := -1) C dX6_look_106 (by decide) ?_
  cases h
  exact gx_iret C dX6_look_107
theorem dX6_which_0 : decode cX6_which 0 = .ok (.iload_n 1, 1) := by decide +kernel
theorem dX6_which_1 : decode cX6_which 1 = .ok (.ifCond .eq 7, 3) := by decide +kernel
theorem dX6_which_4 : decode cX6_which 4 = .ok (.iconst 1, 1) := by decide +kernel
theorem dX6_which_5 : decode cX6_which 5 = .ok (.goto 4, 3) := by decide +kernel
theorem dX6_which_8 : decode cX6_which 8 = .ok (.iconst 0, 1) := by decide +kernel
theorem dX6_which_9 : decode cX6_which 9 = .ok (.istore 4, 2) := by decide +kernel
theorem dX6_which_11 : decode cX6_which 11 = .ok (.iload_n 1, 1) := by decide +kernel
theorem dX6_which_12 : decode cX6_which 12 = .ok (.ifCond .eq 10, 3) := by decide +kernel
theorem dX6_which_15 : decode cX6_which 15 = .ok (.aload_n 0, 1) := by decide +kernel
theorem dX6_which_16 : decode cX6_which 16 = .ok (.getfield 68, 3) := by decide +kernel
theorem dX6_which_19 : decode cX6_which 19 = .ok (.ifCond .eq 14, 3) := by decide +kernel
theorem dX6_which_22 : decode cX6_which 22 = .ok (.aload_n 0, 1) := by decide +kernel
theorem dX6_which_23 : decode cX6_which 23 = .ok (.iload 4, 2) := by decide +kernel
theorem dX6_which_25 : decode cX6_which 25 = .ok (.iload_n 2, 1) := by decide +kernel
theorem dX6_which_26 : decode cX6_which 26 = .ok (.iload_n 3, 1) := by decide +kernel
theorem dX6_which_27 : decode cX6_which 27 = .ok (.invokevirtual 87, 3) := by decide +kernel
theorem dX6_which_30 : decode cX6_which 30 = .ok (.ifCond .ne 7, 3) := by decide +kernel
theorem dX6_which_33 : decode cX6_which 33 = .ok (.iconst (-1), 1) := by decide +kernel
theorem dX6_which_34 : decode cX6_which 34 = .ok (.goto 5, 3) := by decide +kernel
theorem dX6_which_37 : decode cX6_which 37 = .ok (.iload 4, 2) := by decide +kernel
theorem dX6_which_39 : decode cX6_which 39 = .ok (.ireturn, 1) := by decide +kernel
def gm_X6_which_33 (fu : Nat)  (X : gx_H) : Option (Int32 × gx_H) :=
  some ((-1 : Int32), X)
set_option maxHeartbeats 1000000 in
set_option maxRecDepth 20000 in
theorem gt_X6_which_33 {p : Program} {l : Launch} {e : Env} {s : State} {m : MethodId} {args : Array Value} {below : List Frame} {meth : Method} {c : Code} {D : gx_D} {r : Int32} {X2 : gx_H}  (C : gx_C D gz_cl gz_at gz_tb gz_nb p s m meth c cX6_which 5 RX6 (some .int)) (fu : Nat)  (X : gx_H) (h : gm_X6_which_33 fu   X = some (r, X2)) : gx_W D gz_cl 5 p l e (gx_rm 1 23 0 0) s m args below meth c 0 0 (MQ below (gx_Q D gz_cl (some (gx_i r)) X2) args s 0 0 (gx_Z D)) X 33 [none, none, none, none, none] [] := by
  unfold gm_X6_which_33 at h
  refine gx_iconst (v := -1) C dX6_which_33 (by decide) ?_
  refine gx_goto (tgt := 39) C dX6_which_34 (by decide) ?_
  cases h
  exact gx_iret C dX6_which_39
def gm_X6_which_22 (fu : Nat) (a0 : Nat) (x2 : Int32) (x3 : Int32) (x4 : Int32) (X : gx_H) : Option (Int32 × gx_H) :=
  gx_ob X a0 6 <|
  gx_b2 (gm_X6_isThere fu a0 x4 x2 x3 X) fun vz3 Xz2 =>
  if vz3 = 0 then (
  gm_X6_which_33 fu   Xz2) else (
  some (x4, Xz2))
set_option maxHeartbeats 1000000 in
set_option maxRecDepth 20000 in
theorem gt_X6_which_22 {p : Program} {l : Launch} {e : Env} {s : State} {m : MethodId} {args : Array Value} {below : List Frame} {meth : Method} {c : Code} {D : gx_D} {r : Int32} {X2 : gx_H}  (C : gx_C D gz_cl gz_at gz_tb gz_nb p s m meth c cX6_which 5 RX6 (some .int)) (fu : Nat) (a0 : Nat) (x2 : Int32) (x3 : Int32) (x4 : Int32) (X : gx_H) (h : gm_X6_which_22 fu  a0 x2 x3 x4 X = some (r, X2)) : gx_W D gz_cl 5 p l e (gx_rm 1 23 0 0) s m args below meth c 0 0 (MQ below (gx_Q D gz_cl (some (gx_i r)) X2) args s 0 0 (gx_Z D)) X 22 [some (gx_r (some a0)), none, some (gx_i x2), some (gx_i x3), some (gx_i x4)] [] := by
  unfold gm_X6_which_22 at h
  refine gx_aload_n C dX6_which_22 rfl rfl ?_
  refine gx_iload C dX6_which_23 rfl ?_
  refine gx_iload_n C dX6_which_25 rfl rfl ?_
  refine gx_iload_n C dX6_which_26 rfl rfl ?_
  obtain ⟨hoz1, h⟩ := gx_obs h
  obtain ⟨vz3, Xz2, eXz2, h⟩ := gx_bd2 h
  refine gx_callV (As := [gx_i x4, gx_i x2, gx_i x3]) (st := []) (stk2 := [gx_i vz3]) C cd_X6_isThere wl_599 ws_X6_isThere wl_597 rfl hoz1 (gc_X6_isThere fu a0 x4 x2 x3 X vz3 Xz2 eXz2) rfl ⟨Nat.le_of_ble_eq_true rfl, Nat.le_of_ble_eq_true rfl⟩ ⟨Nat.le_of_ble_eq_true rfl, Nat.le_of_ble_eq_true rfl⟩ (Nat.le_of_ble_eq_true rfl) rfl rfl dX6_which_27 ?_
  refine gx_if_ne (tgt := 37) C dX6_which_30 (by decide) (fun qz4 => ?_) (fun qz4 => ?_)
  · rw [if_neg qz4] at h
    refine gx_iload C dX6_which_37 rfl ?_
    cases h
    exact gx_iret C dX6_which_39
  · rw [if_pos qz4] at h
    refine gx_sub (lv2 := [none, none, none, none, none]) [false, false, false, false, false] rfl ?_
    exact gt_X6_which_33 C fu   Xz2 h
def gm_X6_which_9 (fu : Nat) (a0 : Nat) (x1 : Int32) (x2 : Int32) (x3 : Int32) (sx0 : Int32) (X : gx_H) : Option (Int32 × gx_H) :=
  if x1 = 0 then (
  gm_X6_which_22 fu  a0 x2 x3 sx0 X) else (
  (gx_gi X a0 6 12).bind fun vz6 =>
  if vz6 = 0 then (
  gm_X6_which_33 fu   X) else (
  gm_X6_which_22 fu  a0 x2 x3 sx0 X))
set_option maxHeartbeats 1000000 in
set_option maxRecDepth 20000 in
theorem gt_X6_which_9 {p : Program} {l : Launch} {e : Env} {s : State} {m : MethodId} {args : Array Value} {below : List Frame} {meth : Method} {c : Code} {D : gx_D} {r : Int32} {X2 : gx_H}  (C : gx_C D gz_cl gz_at gz_tb gz_nb p s m meth c cX6_which 5 RX6 (some .int)) (fu : Nat) (a0 : Nat) (x1 : Int32) (x2 : Int32) (x3 : Int32) (sx0 : Int32) (X : gx_H) (h : gm_X6_which_9 fu  a0 x1 x2 x3 sx0 X = some (r, X2)) : gx_W D gz_cl 5 p l e (gx_rm 1 23 0 0) s m args below meth c 0 0 (MQ below (gx_Q D gz_cl (some (gx_i r)) X2) args s 0 0 (gx_Z D)) X 9 [some (gx_r (some a0)), some (gx_i x1), some (gx_i x2), some (gx_i x3), none] [gx_i sx0] := by
  unfold gm_X6_which_9 at h
  refine gx_istore (lv2 := [some (gx_r (some a0)), some (gx_i x1), some (gx_i x2), some (gx_i x3), some (gx_i sx0)]) C dX6_which_9 (by decide) rfl ?_
  refine gx_iload_n C dX6_which_11 rfl rfl ?_
  refine gx_if_eq (tgt := 22) C dX6_which_12 (by decide) (fun qz5 => ?_) (fun qz5 => ?_)
  · rw [if_pos qz5] at h
    refine gx_sub (lv2 := [some (gx_r (some a0)), none, some (gx_i x2), some (gx_i x3), some (gx_i sx0)]) [true, false, true, true, true] rfl ?_
    exact gt_X6_which_22 C fu  a0 x2 x3 sx0 X h
  · rw [if_neg qz5] at h
    refine gx_aload_n C dX6_which_15 rfl rfl ?_
    obtain ⟨vz6, evz6, h⟩ := gx_bd h
    refine gx_get C kcX6 12 (by decide) wl_509 (gx_gi_s evz6) dX6_which_16 ?_
    refine gx_if_eq (tgt := 33) C dX6_which_19 (by decide) (fun qz7 => ?_) (fun qz7 => ?_)
    · rw [if_pos qz7] at h
      refine gx_sub (lv2 := [none, none, none, none, none]) [false, false, false, false, false] rfl ?_
      exact gt_X6_which_33 C fu   X h
    · rw [if_neg qz7] at h
      refine gx_sub (lv2 := [some (gx_r (some a0)), none, some (gx_i x2), some (gx_i x3), some (gx_i sx0)]) [true, false, true, true, true] rfl ?_
      exact gt_X6_which_22 C fu  a0 x2 x3 sx0 X h
def gm_X6_which (fu : Nat) (this : Nat) (p_0 : Int32) (p_1 : Int32) (p_2 : Int32) (X : gx_H) : Option (Int32 × gx_H) :=
  if p_0 = 0 then (
  gm_X6_which_9 fu  this p_0 p_1 p_2 (0 : Int32) X) else (
  gm_X6_which_9 fu  this p_0 p_1 p_2 (1 : Int32) X)
set_option maxHeartbeats 1000000 in
set_option maxRecDepth 20000 in
theorem gc_X6_which {l : Launch} {D : gx_D} (fu : Nat) (this : Nat) (p_0 : Int32) (p_1 : Int32) (p_2 : Int32) (X : gx_H) (r : Int32) (X2 : gx_H) (h : gm_X6_which fu this p_0 p_1 p_2 X = some (r, X2)) : gx_M D gz_cl gz_at gz_tb gz_nb l yX6_which cX6_which 5 (some .int) 1 23 [gx_r (some this), gx_i p_0, gx_i p_1, gx_i p_2] X (some (gx_i r)) X2 0 0 := by
  unfold gm_X6_which at h
  refine gx_enter [some (gx_r (some this)), some (gx_i p_0), some (gx_i p_1), some (gx_i p_2), none] rfl (by decide) (Nat.le_of_ble_eq_true rfl) ?_
  intro p e s m below meth c C _
  refine gx_iload_n C dX6_which_0 rfl rfl ?_
  refine gx_if_eq (tgt := 8) C dX6_which_1 (by decide) (fun qz8 => ?_) (fun qz8 => ?_)
  · rw [if_pos qz8] at h
    refine gx_iconst (v := 0) C dX6_which_8 (by decide) ?_
    exact gt_X6_which_9 C fu  this p_0 p_1 p_2 (0 : Int32) X h
  · rw [if_neg qz8] at h
    refine gx_iconst (v := 1) C dX6_which_4 (by decide) ?_
    refine gx_goto (tgt := 9) C dX6_which_5 (by decide) ?_
    exact gt_X6_which_9 C fu  this p_0 p_1 p_2 (1 : Int32) X h
theorem dX6_may_0 : decode cX6_may 0 = .ok (.aload_n 0, 1) := by decide +kernel
theorem dX6_may_1 : decode cX6_may 1 = .ok (.iconst 0, 1) := by decide +kernel
theorem dX6_may_2 : decode cX6_may 2 = .ok (.putfield 65, 3) := by decide +kernel
theorem dX6_may_5 : decode cX6_may 5 = .ok (.aload_n 0, 1) := by decide +kernel
theorem dX6_may_6 : decode cX6_may 6 = .ok (.iload_n 1, 1) := by decide +kernel
theorem dX6_may_7 : decode cX6_may 7 = .ok (.iload_n 2, 1) := by decide +kernel
theorem dX6_may_8 : decode cX6_may 8 = .ok (.iload_n 3, 1) := by decide +kernel
theorem dX6_may_9 : decode cX6_may 9 = .ok (.invokevirtual 132, 3) := by decide +kernel
theorem dX6_may_12 : decode cX6_may 12 = .ok (.istore 4, 2) := by decide +kernel
theorem dX6_may_14 : decode cX6_may 14 = .ok (.iload 4, 2) := by decide +kernel
theorem dX6_may_16 : decode cX6_may 16 = .ok (.iconst (-1), 1) := by decide +kernel
theorem dX6_may_17 : decode cX6_may 17 = .ok (.if_icmp .ne 5, 3) := by decide +kernel
theorem dX6_may_20 : decode cX6_may 20 = .ok (.lconst 0, 1) := by decide +kernel
theorem dX6_may_21 : decode cX6_may 21 = .ok (.lreturn, 1) := by decide +kernel
theorem dX6_may_22 : decode cX6_may 22 = .ok (.aload_n 0, 1) := by decide +kernel
theorem dX6_may_23 : decode cX6_may 23 = .ok (.iload 4, 2) := by decide +kernel
theorem dX6_may_25 : decode cX6_may 25 = .ok (.invokevirtual 115, 3) := by decide +kernel
theorem dX6_may_28 : decode cX6_may 28 = .ok (.aload_n 0, 1) := by decide +kernel
theorem dX6_may_29 : decode cX6_may 29 = .ok (.getfield 49, 3) := by decide +kernel
theorem dX6_may_32 : decode cX6_may 32 = .ok (.sipush 1600, 3) := by decide +kernel
theorem dX6_may_35 : decode cX6_may 35 = .ok (.iload 4, 2) := by decide +kernel
theorem dX6_may_37 : decode cX6_may 37 = .ok (.imul, 1) := by decide +kernel
theorem dX6_may_38 : decode cX6_may 38 = .ok (.sipush 200, 3) := by decide +kernel
theorem dX6_may_41 : decode cX6_may 41 = .ok (.iload_n 2, 1) := by decide +kernel
theorem dX6_may_42 : decode cX6_may 42 = .ok (.imul, 1) := by decide +kernel
theorem dX6_may_43 : decode cX6_may 43 = .ok (.iadd, 1) := by decide +kernel
theorem dX6_may_44 : decode cX6_may 44 = .ok (.iload_n 3, 1) := by decide +kernel
theorem dX6_may_45 : decode cX6_may 45 = .ok (.iadd, 1) := by decide +kernel
theorem dX6_may_46 : decode cX6_may 46 = .ok (.laload, 1) := by decide +kernel
theorem dX6_may_47 : decode cX6_may 47 = .ok (.lreturn, 1) := by decide +kernel
def gm_X6_may (fu : Nat) (this : Nat) (p_0 : Int32) (p_1 : Int32) (p_2 : Int32) (X : gx_H) : Option (Int64 × gx_H) :=
  (gx_pf X this 6 0 (.int (0 : Int32))).bind fun Xz1 =>
  gx_ob Xz1 this 6 <|
  gx_b2 (gm_X6_which fu this p_0 p_1 p_2 Xz1) fun vz4 Xz3 =>
  if vz4 = (-1 : Int32) then (
  some ((0 : Int64), Xz3)) else (
  gx_ob Xz3 this 6 <|
  (gm_X6_find fu this vz4 Xz3).bind fun Xz7 =>
  (gx_gd Xz7 this 6 14).bind fun az8 =>
  (gx_gal Xz7 az8 1 ((((1600 : Int32) * vz4) + ((200 : Int32) * p_1)) + p_2)).bind fun vz9 =>
  some (vz9, Xz7))
set_option maxHeartbeats 1000000 in
set_option maxRecDepth 20000 in
theorem gc_X6_may {l : Launch} {D : gx_D} (fu : Nat) (this : Nat) (p_0 : Int32) (p_1 : Int32) (p_2 : Int32) (X : gx_H) (r : Int64) (X2 : gx_H) (h : gm_X6_may fu this p_0 p_1 p_2 X = some (r, X2)) : gx_M D gz_cl gz_at gz_tb gz_nb l yX6_may cX6_may 5 (some .long) 4 106 [gx_r (some this), gx_i p_0, gx_i p_1, gx_i p_2] X (some (gx_l r)) X2 0 0 := by
  unfold gm_X6_may at h
  refine gx_enter [some (gx_r (some this)), some (gx_i p_0), some (gx_i p_1), some (gx_i p_2), none] rfl (by decide) (Nat.le_of_ble_eq_true rfl) ?_
  intro p e s m below meth c C _
  refine gx_aload_n C dX6_may_0 rfl rfl ?_
  refine gx_iconst (v := 0) C dX6_may_1 (by decide) ?_
  obtain ⟨Xz1, eXz1, h⟩ := gx_bd h
  refine gx_put C kcX6 0 (by decide) rfl wl_497 ⟨rfl, rfl⟩ eXz1 dX6_may_2 ?_
  refine gx_aload_n C dX6_may_5 rfl rfl ?_
  refine gx_iload_n C dX6_may_6 rfl rfl ?_
  refine gx_iload_n C dX6_may_7 rfl rfl ?_
  refine gx_iload_n C dX6_may_8 rfl rfl ?_
  obtain ⟨hoz2, h⟩ := gx_obs h
  obtain ⟨vz4, Xz3, eXz3, h⟩ := gx_bd2 h
  refine gx_callV (As := [gx_i p_0, gx_i p_1, gx_i p_2]) (st := []) (stk2 := [gx_i vz4]) C cd_X6_which wl_667 ws_X6_which wl_665 rfl hoz2 (gc_X6_which fu this p_0 p_1 p_2 Xz1 vz4 Xz3 eXz3) rfl ⟨Nat.le_of_ble_eq_true rfl, Nat.le_of_ble_eq_true rfl⟩ ⟨Nat.le_of_ble_eq_true rfl, Nat.le_of_ble_eq_true rfl⟩ (Nat.le_of_ble_eq_true rfl) rfl rfl dX6_may_9 ?_
  refine gx_istore (lv2 := [some (gx_r (some this)), some (gx_i p_0), some (gx_i p_1), some (gx_i p_2), some (gx_i vz4)]) C dX6_may_12 (by decide) rfl ?_
  refine gx_iload C dX6_may_14 rfl ?_
  refine gx_iconst (v := -1) C dX6_may_16 (by decide) ?_
  refine gx_icmp_ne (tgt := 22) C dX6_may_17 (by decide) (fun qz5 => ?_) (fun qz5 => ?_)
  · rw [if_neg qz5] at h
    refine gx_aload_n C dX6_may_22 rfl rfl ?_
    refine gx_iload C dX6_may_23 rfl ?_
    obtain ⟨hoz6, h⟩ := gx_obs h
    obtain ⟨Xz7, eXz7, h⟩ := gx_bd h
    refine gx_callV (As := [gx_i vz4]) (st := []) (stk2 := []) C cd_X6_find wl_627 ws_X6_find wl_625 rfl hoz6 (gc_X6_find fu this vz4 Xz3 Xz7 eXz7) rfl ⟨Nat.le_of_ble_eq_true rfl, Nat.le_of_ble_eq_true rfl⟩ ⟨Nat.le_of_ble_eq_true rfl, Nat.le_of_ble_eq_true rfl⟩ (Nat.le_of_ble_eq_true rfl) rfl rfl dX6_may_25 ?_
    refine gx_aload_n C dX6_may_28 rfl rfl ?_
    obtain ⟨az8, eaz8, h⟩ := gx_bd h
    refine gx_get C kcX6 14 (by decide) wl_511 (gx_gd_s eaz8) dX6_may_29 ?_
    refine gx_sipush (v := 1600) C dX6_may_32 (by decide) ?_
    refine gx_iload C dX6_may_35 rfl ?_
    refine gx_imul C dX6_may_37 ?_
    refine gx_sipush (v := 200) C dX6_may_38 (by decide) ?_
    refine gx_iload_n C dX6_may_41 rfl rfl ?_
    refine gx_imul C dX6_may_42 ?_
    refine gx_iadd C dX6_may_43 ?_
    refine gx_iload_n C dX6_may_44 rfl rfl ?_
    refine gx_iadd C dX6_may_45 ?_
    obtain ⟨vz9, evz9, h⟩ := gx_bd h
    refine gx_lald C (t := 1) rfl evz9 dX6_may_46 ?_
    cases h
    exact gx_lret C dX6_may_47
  · rw [if_pos qz5] at h
    refine gx_lconst (v := 0) C dX6_may_20 (by decide) ?_
    cases h
    exact gx_lret C dX6_may_21
