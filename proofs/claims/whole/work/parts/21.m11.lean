/-! methods: X6_goes, X6_handler, X6_init, X6_instructions, X6_wayMany, X6_neededMany, X6_look, X6_which, X6_may -/
theorem dX6_goes_0 : decode cX6_goes 0 = .ok (.aload_n 0, 1) := by decide +kernel
theorem dX6_goes_1 : decode cX6_goes 1 = .ok (.iconst 0, 1) := by decide +kernel
theorem dX6_goes_2 : decode cX6_goes 2 = .ok (.putfield 65, 3) := by decide +kernel
theorem dX6_goes_5 : decode cX6_goes 5 = .ok (.aload_n 0, 1) := by decide +kernel
theorem dX6_goes_6 : decode cX6_goes 6 = .ok (.iload_n 1, 1) := by decide +kernel
theorem dX6_goes_7 : decode cX6_goes 7 = .ok (.iload_n 2, 1) := by decide +kernel
theorem dX6_goes_8 : decode cX6_goes 8 = .ok (.iload_n 3, 1) := by decide +kernel
theorem dX6_goes_9 : decode cX6_goes 9 = .ok (.invokevirtual 79, 3) := by decide +kernel
theorem dX6_goes_12 : decode cX6_goes 12 = .ok (.ifCond .eq 21, 3) := by decide +kernel
theorem dX6_goes_15 : decode cX6_goes 15 = .ok (.aload_n 0, 1) := by decide +kernel
theorem dX6_goes_16 : decode cX6_goes 16 = .ok (.getfield 14, 3) := by decide +kernel
theorem dX6_goes_19 : decode cX6_goes 19 = .ok (.iload_n 1, 1) := by decide +kernel
theorem dX6_goes_20 : decode cX6_goes 20 = .ok (.iload_n 2, 1) := by decide +kernel
theorem dX6_goes_21 : decode cX6_goes 21 = .ok (.iload_n 3, 1) := by decide +kernel
theorem dX6_goes_22 : decode cX6_goes 22 = .ok (.invokestatic 83, 3) := by decide +kernel
theorem dX6_goes_25 : decode cX6_goes 25 = .ok (.baload, 1) := by decide +kernel
theorem dX6_goes_26 : decode cX6_goes 26 = .ok (.ifCond .eq 7, 3) := by decide +kernel
theorem dX6_goes_29 : decode cX6_goes 29 = .ok (.iconst 1, 1) := by decide +kernel
theorem dX6_goes_30 : decode cX6_goes 30 = .ok (.goto 4, 3) := by decide +kernel
theorem dX6_goes_33 : decode cX6_goes 33 = .ok (.iconst 0, 1) := by decide +kernel
theorem dX6_goes_34 : decode cX6_goes 34 = .ok (.ireturn, 1) := by decide +kernel
def gm_X6_goes_33 (fu : Nat)  (X : gx_H) : Option (Int32 × gx_H) :=
  some ((0 : Int32), X)
set_option maxHeartbeats 1000000 in
set_option maxRecDepth 20000 in
theorem gt_X6_goes_33 {p : Program} {l : Launch} {e : Env} {s : State} {m : MethodId} {args : Array Value} {below : List Frame} {meth : Method} {c : Code} {D : gx_D} {r : Int32} {X2 : gx_H}  (C : gx_C D gz_cl gz_at gz_tb gz_nb p s m meth c cX6_goes 4 RX6 (some .boolean)) (fu : Nat)  (X : gx_H) (h : gm_X6_goes_33 fu   X = some (r, X2)) : gx_W D gz_cl 4 p l e (gx_rm 2 44 0 0) s m args below meth c 0 0 (MQ below (gx_Q D gz_cl (some (gx_i r)) X2) args s 0 0 (gx_Z D)) X 33 [none, none, none, none] [] := by
  unfold gm_X6_goes_33 at h
  refine gx_iconst (v := 0) C dX6_goes_33 (by decide) ?_
  cases h
  exact gx_zret (Or.inl rfl) C dX6_goes_34
def gm_X6_goes (fu : Nat) (this : Nat) (p_0 : Int32) (p_1 : Int32) (p_2 : Int32) (X : gx_H) : Option (Int32 × gx_H) :=
  (gx_pf X this 6 0 (.int (0 : Int32))).bind fun X1 =>
  gx_ob X1 this 6 <|
  gx_b2 (gm_X6_canWay fu this p_0 p_1 p_2 X1) fun v4 X3 =>
  if v4 = 0 then (
  gm_X6_goes_33 fu   X3) else (
  (gx_gd X3 this 6 2).bind fun a6 =>
  gx_b2 (gm_X6_wayAt fu p_0 p_1 p_2 X3) fun v8 X7 =>
  (gx_gai X7 a6 2 v8).bind fun v9 =>
  if v9 = 0 then (
  gm_X6_goes_33 fu   X7) else (
  some ((1 : Int32), X7)))
set_option maxHeartbeats 1000000 in
set_option maxRecDepth 20000 in
theorem gc_X6_goes {l : Launch} {D : gx_D} (fu : Nat) (this : Nat) (p_0 : Int32) (p_1 : Int32) (p_2 : Int32) (X : gx_H) (r : Int32) (X2 : gx_H) (h : gm_X6_goes fu this p_0 p_1 p_2 X = some (r, X2)) : gx_M D gz_cl gz_at gz_tb gz_nb l yX6_goes cX6_goes 4 (some .boolean) 2 44 [gx_r (some this), gx_i p_0, gx_i p_1, gx_i p_2] X (some (gx_i r)) X2 0 0 := by
  unfold gm_X6_goes at h
  refine gx_enter [some (gx_r (some this)), some (gx_i p_0), some (gx_i p_1), some (gx_i p_2)] rfl (by decide) (Nat.le_of_ble_eq_true rfl) ?_
  intro p e s m below meth c C _
  refine gx_aload_n C dX6_goes_0 rfl rfl ?_
  refine gx_iconst (v := 0) C dX6_goes_1 (by decide) ?_
  obtain ⟨X1, eX1, h⟩ := gx_bd h
  refine gx_put C kcX6 0 (by decide) rfl wl_497 ⟨rfl, rfl⟩ eX1 dX6_goes_2 ?_
  refine gx_aload_n C dX6_goes_5 rfl rfl ?_
  refine gx_iload_n C dX6_goes_6 rfl rfl ?_
  refine gx_iload_n C dX6_goes_7 rfl rfl ?_
  refine gx_iload_n C dX6_goes_8 rfl rfl ?_
  obtain ⟨ho2, h⟩ := gx_obs h
  obtain ⟨v4, X3, eX3, h⟩ := gx_bd2 h
  refine gx_callV (As := [gx_i p_0, gx_i p_1, gx_i p_2]) (st := []) (stk2 := [gx_i v4]) C cd_X6_canWay wl_572 ws_X6_canWay wl_570 rfl ho2 (gc_X6_canWay fu this p_0 p_1 p_2 X1 v4 X3 eX3) rfl ⟨Nat.le_of_ble_eq_true rfl, Nat.le_of_ble_eq_true rfl⟩ ⟨Nat.le_of_ble_eq_true rfl, Nat.le_of_ble_eq_true rfl⟩ (Nat.le_of_ble_eq_true rfl) rfl rfl dX6_goes_9 ?_
  refine gx_if_eq (tgt := 33) C dX6_goes_12 (by decide) (fun q5 => ?_) (fun q5 => ?_)
  · rw [if_pos q5] at h
    refine gx_sub (lv2 := [none, none, none, none]) [false, false, false, false] rfl ?_
    exact gt_X6_goes_33 C fu   X3 h
  · rw [if_neg q5] at h
    refine gx_aload_n C dX6_goes_15 rfl rfl ?_
    obtain ⟨a6, ea6, h⟩ := gx_bd h
    refine gx_get C kcX6 2 (by decide) wl_499 (gx_gd_s ea6) dX6_goes_16 ?_
    refine gx_iload_n C dX6_goes_19 rfl rfl ?_
    refine gx_iload_n C dX6_goes_20 rfl rfl ?_
    refine gx_iload_n C dX6_goes_21 rfl rfl ?_
    obtain ⟨v8, X7, eX7, h⟩ := gx_bd2 h
    refine gx_callS (As := [gx_i p_0, gx_i p_1, gx_i p_2]) (st := [gx_r (some a6)]) (stk2 := [gx_i v8, gx_r (some a6)]) C cd_X6_wayAt wl_579 wl_578 (gc_X6_wayAt fu p_0 p_1 p_2 X3 v8 X7 eX7) rfl ⟨Nat.le_of_ble_eq_true rfl, Nat.le_of_ble_eq_true rfl⟩ ⟨Nat.le_of_ble_eq_true rfl, Nat.le_of_ble_eq_true rfl⟩ (Nat.le_of_ble_eq_true rfl) rfl rfl dX6_goes_22 ?_
    obtain ⟨v9, ev9, h⟩ := gx_bd h
    refine gx_zald C (t := 2) rfl ev9 dX6_goes_25 ?_
    refine gx_if_eq (tgt := 33) C dX6_goes_26 (by decide) (fun q10 => ?_) (fun q10 => ?_)
    · rw [if_pos q10] at h
      refine gx_sub (lv2 := [none, none, none, none]) [false, false, false, false] rfl ?_
      exact gt_X6_goes_33 C fu   X7 h
    · rw [if_neg q10] at h
      refine gx_iconst (v := 1) C dX6_goes_29 (by decide) ?_
      refine gx_goto (tgt := 34) C dX6_goes_30 (by decide) ?_
      cases h
      exact gx_zret (Or.inr rfl) C dX6_goes_34
theorem dX6_handler_0 : decode cX6_handler 0 = .ok (.aload_n 0, 1) := by decide +kernel
theorem dX6_handler_1 : decode cX6_handler 1 = .ok (.iconst 0, 1) := by decide +kernel
theorem dX6_handler_2 : decode cX6_handler 2 = .ok (.putfield 65, 3) := by decide +kernel
theorem dX6_handler_5 : decode cX6_handler 5 = .ok (.aload_n 0, 1) := by decide +kernel
theorem dX6_handler_6 : decode cX6_handler 6 = .ok (.iconst 0, 1) := by decide +kernel
theorem dX6_handler_7 : decode cX6_handler 7 = .ok (.iload_n 1, 1) := by decide +kernel
theorem dX6_handler_8 : decode cX6_handler 8 = .ok (.iconst 0, 1) := by decide +kernel
theorem dX6_handler_9 : decode cX6_handler 9 = .ok (.invokevirtual 87, 3) := by decide +kernel
theorem dX6_handler_12 : decode cX6_handler 12 = .ok (.ifCond .eq 14, 3) := by decide +kernel
theorem dX6_handler_15 : decode cX6_handler 15 = .ok (.aload_n 0, 1) := by decide +kernel
theorem dX6_handler_16 : decode cX6_handler 16 = .ok (.getfield 28, 3) := by decide +kernel
theorem dX6_handler_19 : decode cX6_handler 19 = .ok (.iload_n 1, 1) := by decide +kernel
theorem dX6_handler_20 : decode cX6_handler 20 = .ok (.iaload, 1) := by decide +kernel
theorem dX6_handler_21 : decode cX6_handler 21 = .ok (.bipush 6, 2) := by decide +kernel
theorem dX6_handler_23 : decode cX6_handler 23 = .ok (.if_icmp .ne 5, 3) := by decide +kernel
theorem dX6_handler_26 : decode cX6_handler 26 = .ok (.iconst 0, 1) := by decide +kernel
theorem dX6_handler_27 : decode cX6_handler 27 = .ok (.ireturn, 1) := by decide +kernel
theorem dX6_handler_28 : decode cX6_handler 28 = .ok (.iload_n 2, 1) := by decide +kernel
theorem dX6_handler_29 : decode cX6_handler 29 = .ok (.ifCond .lt 34, 3) := by decide +kernel
theorem dX6_handler_32 : decode cX6_handler 32 = .ok (.iload_n 3, 1) := by decide +kernel
theorem dX6_handler_33 : decode cX6_handler 33 = .ok (.iload_n 2, 1) := by decide +kernel
theorem dX6_handler_34 : decode cX6_handler 34 = .ok (.if_icmp .le 29, 3) := by decide +kernel
theorem dX6_handler_37 : decode cX6_handler 37 = .ok (.iload_n 3, 1) := by decide +kernel
theorem dX6_handler_38 : decode cX6_handler 38 = .ok (.aload_n 0, 1) := by decide +kernel
theorem dX6_handler_39 : decode cX6_handler 39 = .ok (.getfield 25, 3) := by decide +kernel
theorem dX6_handler_42 : decode cX6_handler 42 = .ok (.iload_n 1, 1) := by decide +kernel
theorem dX6_handler_43 : decode cX6_handler 43 = .ok (.iaload, 1) := by decide +kernel
theorem dX6_handler_44 : decode cX6_handler 44 = .ok (.if_icmp .gt 19, 3) := by decide +kernel
theorem dX6_handler_47 : decode cX6_handler 47 = .ok (.iload 4, 2) := by decide +kernel
theorem dX6_handler_49 : decode cX6_handler 49 = .ok (.ifCond .lt 14, 3) := by decide +kernel
theorem dX6_handler_52 : decode cX6_handler 52 = .ok (.iload 4, 2) := by decide +kernel
theorem dX6_handler_54 : decode cX6_handler 54 = .ok (.aload_n 0, 1) := by decide +kernel
theorem dX6_handler_55 : decode cX6_handler 55 = .ok (.getfield 25, 3) := by decide +kernel
theorem dX6_handler_58 : decode cX6_handler 58 = .ok (.iload_n 1, 1) := by decide +kernel
theorem dX6_handler_59 : decode cX6_handler 59 = .ok (.iaload, 1) := by decide +kernel
theorem dX6_handler_60 : decode cX6_handler 60 = .ok (.if_icmp .lt 5, 3) := by decide +kernel
theorem dX6_handler_63 : decode cX6_handler 63 = .ok (.iconst 0, 1) := by decide +kernel
theorem dX6_handler_64 : decode cX6_handler 64 = .ok (.ireturn, 1) := by decide +kernel
theorem dX6_handler_65 : decode cX6_handler 65 = .ok (.aload_n 0, 1) := by decide +kernel
theorem dX6_handler_66 : decode cX6_handler 66 = .ok (.invokevirtual 76, 3) := by decide +kernel
theorem dX6_handler_69 : decode cX6_handler 69 = .ok (.bipush 6, 2) := by decide +kernel
theorem dX6_handler_71 : decode cX6_handler 71 = .ok (.iload_n 1, 1) := by decide +kernel
theorem dX6_handler_72 : decode cX6_handler 72 = .ok (.imul, 1) := by decide +kernel
theorem dX6_handler_73 : decode cX6_handler 73 = .ok (.aload_n 0, 1) := by decide +kernel
theorem dX6_handler_74 : decode cX6_handler 74 = .ok (.getfield 28, 3) := by decide +kernel
theorem dX6_handler_77 : decode cX6_handler 77 = .ok (.iload_n 1, 1) := by decide +kernel
theorem dX6_handler_78 : decode cX6_handler 78 = .ok (.iaload, 1) := by decide +kernel
theorem dX6_handler_79 : decode cX6_handler 79 = .ok (.iadd, 1) := by decide +kernel
theorem dX6_handler_80 : decode cX6_handler 80 = .ok (.istore 5, 2) := by decide +kernel
theorem dX6_handler_82 : decode cX6_handler 82 = .ok (.aload_n 0, 1) := by decide +kernel
theorem dX6_handler_83 : decode cX6_handler 83 = .ok (.getfield 37, 3) := by decide +kernel
theorem dX6_handler_86 : decode cX6_handler 86 = .ok (.iload 5, 2) := by decide +kernel
theorem dX6_handler_88 : decode cX6_handler 88 = .ok (.iload_n 2, 1) := by decide +kernel
theorem dX6_handler_89 : decode cX6_handler 89 = .ok (.iastore, 1) := by decide +kernel
theorem dX6_handler_90 : decode cX6_handler 90 = .ok (.aload_n 0, 1) := by decide +kernel
theorem dX6_handler_91 : decode cX6_handler 91 = .ok (.getfield 40, 3) := by decide +kernel
theorem dX6_handler_94 : decode cX6_handler 94 = .ok (.iload 5, 2) := by decide +kernel
theorem dX6_handler_96 : decode cX6_handler 96 = .ok (.iload_n 3, 1) := by decide +kernel
theorem dX6_handler_97 : decode cX6_handler 97 = .ok (.iastore, 1) := by decide +kernel
theorem dX6_handler_98 : decode cX6_handler 98 = .ok (.aload_n 0, 1) := by decide +kernel
theorem dX6_handler_99 : decode cX6_handler 99 = .ok (.getfield 43, 3) := by decide +kernel
theorem dX6_handler_102 : decode cX6_handler 102 = .ok (.iload 5, 2) := by decide +kernel
theorem dX6_handler_104 : decode cX6_handler 104 = .ok (.iload 4, 2) := by decide +kernel
theorem dX6_handler_106 : decode cX6_handler 106 = .ok (.iastore, 1) := by decide +kernel
theorem dX6_handler_107 : decode cX6_handler 107 = .ok (.aload_n 0, 1) := by decide +kernel
theorem dX6_handler_108 : decode cX6_handler 108 = .ok (.getfield 28, 3) := by decide +kernel
theorem dX6_handler_111 : decode cX6_handler 111 = .ok (.iload_n 1, 1) := by decide +kernel
theorem dX6_handler_112 : decode cX6_handler 112 = .ok (.dup2, 1) := by decide +kernel
theorem dX6_handler_113 : decode cX6_handler 113 = .ok (.iaload, 1) := by decide +kernel
theorem dX6_handler_114 : decode cX6_handler 114 = .ok (.iconst 1, 1) := by decide +kernel
theorem dX6_handler_115 : decode cX6_handler 115 = .ok (.iadd, 1) := by decide +kernel
theorem dX6_handler_116 : decode cX6_handler 116 = .ok (.iastore, 1) := by decide +kernel
theorem dX6_handler_117 : decode cX6_handler 117 = .ok (.iconst 1, 1) := by decide +kernel
theorem dX6_handler_118 : decode cX6_handler 118 = .ok (.ireturn, 1) := by decide +kernel
def gm_X6_handler (fu : Nat) (this : Nat) (p_0 : Int32) (p_1 : Int32) (p_2 : Int32) (p_3 : Int32) (X : gx_H) : Option (Int32 × gx_H) :=
  (gx_pf X this 6 0 (.int (0 : Int32))).bind fun X1 =>
  gx_ob X1 this 6 <|
  gx_b2 (gm_X6_isThere fu this (0 : Int32) p_0 (0 : Int32) X1) fun v4 X3 =>
  if v4 = 0 then (
  some ((0 : Int32), X3)) else (
  (gx_gd X3 this 6 6).bind fun a6 =>
  (gx_gai X3 a6 0 p_0).bind fun v7 =>
  if v7 = (6 : Int32) then (
  some ((0 : Int32), X3)) else (
  if p_1 < 0 then (
  some ((0 : Int32), X3)) else (
  if p_2 ≤ p_1 then (
  some ((0 : Int32), X3)) else (
  (gx_gd X3 this 6 5).bind fun a11 =>
  (gx_gai X3 a11 0 p_0).bind fun v12 =>
  if v12 < p_2 then (
  some ((0 : Int32), X3)) else (
  if p_3 < 0 then (
  some ((0 : Int32), X3)) else (
  (gx_gd X3 this 6 5).bind fun a15 =>
  (gx_gai X3 a15 0 p_0).bind fun v16 =>
  if p_3 < v16 then (
  gx_ob X3 this 6 <|
  (gm_X6_change fu this X3).bind fun X19 =>
  (gx_gd X19 this 6 6).bind fun a20 =>
  (gx_gai X19 a20 0 p_0).bind fun v21 =>
  (gx_gd X19 this 6 9).bind fun a22 =>
  (gx_pai X19 a22 0 (((6 : Int32) * p_0) + v21) p_1).bind fun X23 =>
  (gx_gd X23 this 6 10).bind fun a24 =>
  (gx_pai X23 a24 0 (((6 : Int32) * p_0) + v21) p_2).bind fun X25 =>
  (gx_gd X25 this 6 11).bind fun a26 =>
  (gx_pai X25 a26 0 (((6 : Int32) * p_0) + v21) p_3).bind fun X27 =>
  (gx_gd X27 this 6 6).bind fun a28 =>
  (gx_gai X27 a28 0 p_0).bind fun v29 =>
  (gx_pai X27 a28 0 p_0 (v29 + (1 : Int32))).bind fun X30 =>
  some ((1 : Int32), X30)) else (
  some ((0 : Int32), X3))))))))
set_option maxHeartbeats 1000000 in
set_option maxRecDepth 20000 in
theorem gc_X6_handler {l : Launch} {D : gx_D} (fu : Nat) (this : Nat) (p_0 : Int32) (p_1 : Int32) (p_2 : Int32) (p_3 : Int32) (X : gx_H) (r : Int32) (X2 : gx_H) (h : gm_X6_handler fu this p_0 p_1 p_2 p_3 X = some (r, X2)) : gx_M D gz_cl gz_at gz_tb gz_nb l yX6_handler cX6_handler 6 (some .boolean) 1 23 [gx_r (some this), gx_i p_0, gx_i p_1, gx_i p_2, gx_i p_3] X (some (gx_i r)) X2 0 0 := by
  unfold gm_X6_handler at h
  refine gx_enter [some (gx_r (some this)), some (gx_i p_0), some (gx_i p_1), some (gx_i p_2), some (gx_i p_3), none] rfl (by decide) (Nat.le_of_ble_eq_true rfl) ?_
  intro p e s m below meth c C _
  refine gx_aload_n C dX6_handler_0 rfl rfl ?_
  refine gx_iconst (v := 0) C dX6_handler_1 (by decide) ?_
  obtain ⟨X1, eX1, h⟩ := gx_bd h
  refine gx_put C kcX6 0 (by decide) rfl wl_497 ⟨rfl, rfl⟩ eX1 dX6_handler_2 ?_
  refine gx_aload_n C dX6_handler_5 rfl rfl ?_
  refine gx_iconst (v := 0) C dX6_handler_6 (by decide) ?_
  refine gx_iload_n C dX6_handler_7 rfl rfl ?_
  refine gx_iconst (v := 0) C dX6_handler_8 (by decide) ?_
  obtain ⟨ho2, h⟩ := gx_obs h
  obtain ⟨v4, X3, eX3, h⟩ := gx_bd2 h
  refine gx_callV (As := [gx_i (0 : Int32), gx_i p_0, gx_i (0 : Int32)]) (st := []) (stk2 := [gx_i v4]) C cd_X6_isThere wl_599 ws_X6_isThere wl_597 rfl ho2 (gc_X6_isThere fu this (0 : Int32) p_0 (0 : Int32) X1 v4 X3 eX3) rfl ⟨Nat.le_of_ble_eq_true rfl, Nat.le_of_ble_eq_true rfl⟩ ⟨Nat.le_of_ble_eq_true rfl, Nat.le_of_ble_eq_true rfl⟩ (Nat.le_of_ble_eq_true rfl) rfl rfl dX6_handler_9 ?_
  refine gx_if_eq (tgt := 26) C dX6_handler_12 (by decide) (fun q5 => ?_) (fun q5 => ?_)
  · rw [if_pos q5] at h
    refine gx_iconst (v := 0) C dX6_handler_26 (by decide) ?_
    cases h
    exact gx_zret (Or.inl rfl) C dX6_handler_27
  · rw [if_neg q5] at h
    refine gx_aload_n C dX6_handler_15 rfl rfl ?_
    obtain ⟨a6, ea6, h⟩ := gx_bd h
    refine gx_get C kcX6 6 (by decide) wl_503 (gx_gd_s ea6) dX6_handler_16 ?_
    refine gx_iload_n C dX6_handler_19 rfl rfl ?_
    obtain ⟨v7, ev7, h⟩ := gx_bd h
    refine gx_iald C (t := 0) rfl ev7 dX6_handler_20 ?_
    refine gx_bipush (v := 6) C dX6_handler_21 (by decide) ?_
    refine gx_icmp_ne (tgt := 28) C dX6_handler_23 (by decide) (fun q8 => ?_) (fun q8 => ?_)
    · rw [if_neg q8] at h
      refine gx_iload_n C dX6_handler_28 rfl rfl ?_
      refine gx_if_lt (tgt := 63) C dX6_handler_29 (by decide) (fun q9 => ?_) (fun q9 => ?_)
      · rw [if_pos q9] at h
        refine gx_iconst (v := 0) C dX6_handler_63 (by decide) ?_
        cases h
        exact gx_zret (Or.inl rfl) C dX6_handler_64
      · rw [if_neg q9] at h
        refine gx_iload_n C dX6_handler_32 rfl rfl ?_
        refine gx_iload_n C dX6_handler_33 rfl rfl ?_
        refine gx_icmp_le (tgt := 63) C dX6_handler_34 (by decide) (fun q10 => ?_) (fun q10 => ?_)
        · rw [if_pos q10] at h
          refine gx_iconst (v := 0) C dX6_handler_63 (by decide) ?_
          cases h
          exact gx_zret (Or.inl rfl) C dX6_handler_64
        · rw [if_neg q10] at h
          refine gx_iload_n C dX6_handler_37 rfl rfl ?_
          refine gx_aload_n C dX6_handler_38 rfl rfl ?_
          obtain ⟨a11, ea11, h⟩ := gx_bd h
          refine gx_get C kcX6 5 (by decide) wl_502 (gx_gd_s ea11) dX6_handler_39 ?_
          refine gx_iload_n C dX6_handler_42 rfl rfl ?_
          obtain ⟨v12, ev12, h⟩ := gx_bd h
          refine gx_iald C (t := 0) rfl ev12 dX6_handler_43 ?_
          refine gx_icmp_gt (tgt := 63) C dX6_handler_44 (by decide) (fun q13 => ?_) (fun q13 => ?_)
          · rw [if_pos q13] at h
            refine gx_iconst (v := 0) C dX6_handler_63 (by decide) ?_
            cases h
            exact gx_zret (Or.inl rfl) C dX6_handler_64
          · rw [if_neg q13] at h
            refine gx_iload C dX6_handler_47 rfl ?_
            refine gx_if_lt (tgt := 63) C dX6_handler_49 (by decide) (fun q14 => ?_) (fun q14 => ?_)
            · rw [if_pos q14] at h
              refine gx_iconst (v := 0) C dX6_handler_63 (by decide) ?_
              cases h
              exact gx_zret (Or.inl rfl) C dX6_handler_64
            · rw [if_neg q14] at h
              refine gx_iload C dX6_handler_52 rfl ?_
              refine gx_aload_n C dX6_handler_54 rfl rfl ?_
              obtain ⟨a15, ea15, h⟩ := gx_bd h
              refine gx_get C kcX6 5 (by decide) wl_502 (gx_gd_s ea15) dX6_handler_55 ?_
              refine gx_iload_n C dX6_handler_58 rfl rfl ?_
              obtain ⟨v16, ev16, h⟩ := gx_bd h
              refine gx_iald C (t := 0) rfl ev16 dX6_handler_59 ?_
              refine gx_icmp_lt (tgt := 65) C dX6_handler_60 (by decide) (fun q17 => ?_) (fun q17 => ?_)
              · rw [if_pos q17] at h
                refine gx_aload_n C dX6_handler_65 rfl rfl ?_
                obtain ⟨ho18, h⟩ := gx_obs h
                obtain ⟨X19, eX19, h⟩ := gx_bd h
                refine gx_callV (As := []) (st := []) (stk2 := []) C cd_X6_change wl_564 ws_X6_change wl_562 rfl ho18 (gc_X6_change fu this X3 X19 eX19) rfl ⟨Nat.le_of_ble_eq_true rfl, Nat.le_of_ble_eq_true rfl⟩ ⟨Nat.le_of_ble_eq_true rfl, Nat.le_of_ble_eq_true rfl⟩ (Nat.le_of_ble_eq_true rfl) rfl rfl dX6_handler_66 ?_
                refine gx_bipush (v := 6) C dX6_handler_69 (by decide) ?_
                refine gx_iload_n C dX6_handler_71 rfl rfl ?_
                refine gx_imul C dX6_handler_72 ?_
                refine gx_aload_n C dX6_handler_73 rfl rfl ?_
                obtain ⟨a20, ea20, h⟩ := gx_bd h
                refine gx_get C kcX6 6 (by decide) wl_503 (gx_gd_s ea20) dX6_handler_74 ?_
                refine gx_iload_n C dX6_handler_77 rfl rfl ?_
                obtain ⟨v21, ev21, h⟩ := gx_bd h
                refine gx_iald C (t := 0) rfl ev21 dX6_handler_78 ?_
                refine gx_iadd C dX6_handler_79 ?_
                refine gx_istore (lv2 := [some (gx_r (some this)), some (gx_i p_0), some (gx_i p_1), some (gx_i p_2), some (gx_i p_3), some (gx_i (((6 : Int32) * p_0) + v21))]) C dX6_handler_80 (by decide) rfl ?_
                refine gx_aload_n C dX6_handler_82 rfl rfl ?_
                obtain ⟨a22, ea22, h⟩ := gx_bd h
                refine gx_get C kcX6 9 (by decide) wl_506 (gx_gd_s ea22) dX6_handler_83 ?_
                refine gx_iload C dX6_handler_86 rfl ?_
                refine gx_iload_n C dX6_handler_88 rfl rfl ?_
                obtain ⟨X23, eX23, h⟩ := gx_bd h
                refine gx_iast C (t := 0) rfl eX23 dX6_handler_89 ?_
                refine gx_aload_n C dX6_handler_90 rfl rfl ?_
                obtain ⟨a24, ea24, h⟩ := gx_bd h
                refine gx_get C kcX6 10 (by decide) wl_507 (gx_gd_s ea24) dX6_handler_91 ?_
                refine gx_iload C dX6_handler_94 rfl ?_
                refine gx_iload_n C dX6_handler_96 rfl rfl ?_
                obtain ⟨X25, eX25, h⟩ := gx_bd h
                refine gx_iast C (t := 0) rfl eX25 dX6_handler_97 ?_
                refine gx_aload_n C dX6_handler_98 rfl rfl ?_
                obtain ⟨a26, ea26, h⟩ := gx_bd h
                refine gx_get C kcX6 11 (by decide) wl_508 (gx_gd_s ea26) dX6_handler_99 ?_
                refine gx_iload C dX6_handler_102 rfl ?_
                refine gx_iload C dX6_handler_104 rfl ?_
                obtain ⟨X27, eX27, h⟩ := gx_bd h
                refine gx_iast C (t := 0) rfl eX27 dX6_handler_106 ?_
                refine gx_aload_n C dX6_handler_107 rfl rfl ?_
                obtain ⟨a28, ea28, h⟩ := gx_bd h
                refine gx_get C kcX6 6 (by decide) wl_503 (gx_gd_s ea28) dX6_handler_108 ?_
                refine gx_iload_n C dX6_handler_111 rfl rfl ?_
                refine gx_dup2 C dX6_handler_112 rfl rfl ?_
                obtain ⟨v29, ev29, h⟩ := gx_bd h
                refine gx_iald C (t := 0) rfl ev29 dX6_handler_113 ?_
                refine gx_iconst (v := 1) C dX6_handler_114 (by decide) ?_
                refine gx_iadd C dX6_handler_115 ?_
                obtain ⟨X30, eX30, h⟩ := gx_bd h
                refine gx_iast C (t := 0) rfl eX30 dX6_handler_116 ?_
                refine gx_iconst (v := 1) C dX6_handler_117 (by decide) ?_
                cases h
                exact gx_zret (Or.inr rfl) C dX6_handler_118
              · rw [if_neg q17] at h
                refine gx_iconst (v := 0) C dX6_handler_63 (by decide) ?_
                cases h
                exact gx_zret (Or.inl rfl) C dX6_handler_64
    · rw [if_pos q8] at h
      refine gx_iconst (v := 0) C dX6_handler_26 (by decide) ?_
      cases h
      exact gx_zret (Or.inl rfl) C dX6_handler_27
theorem dX6_init_0 : decode cX6_init 0 = .ok (.aload_n 0, 1) := by decide +kernel
theorem dX6_init_1 : decode cX6_init 1 = .ok (.invokespecial 1, 3) := by decide +kernel
theorem dX6_init_4 : decode cX6_init 4 = .ok (.aload_n 0, 1) := by decide +kernel
theorem dX6_init_5 : decode cX6_init 5 = .ok (.iconst 1, 1) := by decide +kernel
theorem dX6_init_6 : decode cX6_init 6 = .ok (.putfield 7, 3) := by decide +kernel
theorem dX6_init_9 : decode cX6_init 9 = .ok (.aload_n 0, 1) := by decide +kernel
theorem dX6_init_10 : decode cX6_init 10 = .ok (.ldc 13, 2) := by decide +kernel
theorem dX6_init_12 : decode cX6_init 12 = .ok (.newarray .boolean, 2) := by decide +kernel
theorem dX6_init_14 : decode cX6_init 14 = .ok (.putfield 14, 3) := by decide +kernel
theorem dX6_init_17 : decode cX6_init 17 = .ok (.aload_n 0, 1) := by decide +kernel
theorem dX6_init_18 : decode cX6_init 18 = .ok (.bipush 16, 2) := by decide +kernel
theorem dX6_init_20 : decode cX6_init 20 = .ok (.newarray .boolean, 2) := by decide +kernel
theorem dX6_init_22 : decode cX6_init 22 = .ok (.putfield 18, 3) := by decide +kernel
theorem dX6_init_25 : decode cX6_init 25 = .ok (.aload_n 0, 1) := by decide +kernel
theorem dX6_init_26 : decode cX6_init 26 = .ok (.iconst 2, 1) := by decide +kernel
theorem dX6_init_27 : decode cX6_init 27 = .ok (.newarray .int, 2) := by decide +kernel
theorem dX6_init_29 : decode cX6_init 29 = .ok (.putfield 21, 3) := by decide +kernel
theorem dX6_init_32 : decode cX6_init 32 = .ok (.aload_n 0, 1) := by decide +kernel
theorem dX6_init_33 : decode cX6_init 33 = .ok (.bipush 16, 2) := by decide +kernel
theorem dX6_init_35 : decode cX6_init 35 = .ok (.newarray .int, 2) := by decide +kernel
theorem dX6_init_37 : decode cX6_init 37 = .ok (.putfield 25, 3) := by decide +kernel
theorem dX6_init_40 : decode cX6_init 40 = .ok (.aload_n 0, 1) := by decide +kernel
theorem dX6_init_41 : decode cX6_init 41 = .ok (.bipush 16, 2) := by decide +kernel
theorem dX6_init_43 : decode cX6_init 43 = .ok (.newarray .int, 2) := by decide +kernel
theorem dX6_init_45 : decode cX6_init 45 = .ok (.putfield 28, 3) := by decide +kernel
theorem dX6_init_48 : decode cX6_init 48 = .ok (.aload_n 0, 1) := by decide +kernel
theorem dX6_init_49 : decode cX6_init 49 = .ok (.sipush 3200, 3) := by decide +kernel
theorem dX6_init_52 : decode cX6_init 52 = .ok (.newarray .int, 2) := by decide +kernel
theorem dX6_init_54 : decode cX6_init 54 = .ok (.putfield 31, 3) := by decide +kernel
theorem dX6_init_57 : decode cX6_init 57 = .ok (.aload_n 0, 1) := by decide +kernel
theorem dX6_init_58 : decode cX6_init 58 = .ok (.sipush 3200, 3) := by decide +kernel
theorem dX6_init_61 : decode cX6_init 61 = .ok (.newarray .int, 2) := by decide +kernel
theorem dX6_init_63 : decode cX6_init 63 = .ok (.putfield 34, 3) := by decide +kernel
theorem dX6_init_66 : decode cX6_init 66 = .ok (.aload_n 0, 1) := by decide +kernel
theorem dX6_init_67 : decode cX6_init 67 = .ok (.bipush 96, 2) := by decide +kernel
theorem dX6_init_69 : decode cX6_init 69 = .ok (.newarray .int, 2) := by decide +kernel
theorem dX6_init_71 : decode cX6_init 71 = .ok (.putfield 37, 3) := by decide +kernel
theorem dX6_init_74 : decode cX6_init 74 = .ok (.aload_n 0, 1) := by decide +kernel
theorem dX6_init_75 : decode cX6_init 75 = .ok (.bipush 96, 2) := by decide +kernel
theorem dX6_init_77 : decode cX6_init 77 = .ok (.newarray .int, 2) := by decide +kernel
theorem dX6_init_79 : decode cX6_init 79 = .ok (.putfield 40, 3) := by decide +kernel
theorem dX6_init_82 : decode cX6_init 82 = .ok (.aload_n 0, 1) := by decide +kernel
theorem dX6_init_83 : decode cX6_init 83 = .ok (.bipush 96, 2) := by decide +kernel
theorem dX6_init_85 : decode cX6_init 85 = .ok (.newarray .int, 2) := by decide +kernel
theorem dX6_init_87 : decode cX6_init 87 = .ok (.putfield 43, 3) := by decide +kernel
theorem dX6_init_90 : decode cX6_init 90 = .ok (.aload_n 0, 1) := by decide +kernel
theorem dX6_init_91 : decode cX6_init 91 = .ok (.iconst 2, 1) := by decide +kernel
theorem dX6_init_92 : decode cX6_init 92 = .ok (.newarray .boolean, 2) := by decide +kernel
theorem dX6_init_94 : decode cX6_init 94 = .ok (.putfield 46, 3) := by decide +kernel
theorem dX6_init_97 : decode cX6_init 97 = .ok (.aload_n 0, 1) := by decide +kernel
theorem dX6_init_98 : decode cX6_init 98 = .ok (.sipush 3200, 3) := by decide +kernel
theorem dX6_init_101 : decode cX6_init 101 = .ok (.newarray .long, 2) := by decide +kernel
theorem dX6_init_103 : decode cX6_init 103 = .ok (.putfield 49, 3) := by decide +kernel
theorem dX6_init_106 : decode cX6_init 106 = .ok (.aload_n 0, 1) := by decide +kernel
theorem dX6_init_107 : decode cX6_init 107 = .ok (.bipush 16, 2) := by decide +kernel
theorem dX6_init_109 : decode cX6_init 109 = .ok (.newarray .long, 2) := by decide +kernel
theorem dX6_init_111 : decode cX6_init 111 = .ok (.putfield 53, 3) := by decide +kernel
theorem dX6_init_114 : decode cX6_init 114 = .ok (.aload_n 0, 1) := by decide +kernel
theorem dX6_init_115 : decode cX6_init 115 = .ok (.bipush 16, 2) := by decide +kernel
theorem dX6_init_117 : decode cX6_init 117 = .ok (.newarray .long, 2) := by decide +kernel
theorem dX6_init_119 : decode cX6_init 119 = .ok (.putfield 56, 3) := by decide +kernel
theorem dX6_init_122 : decode cX6_init 122 = .ok (.aload_n 0, 1) := by decide +kernel
theorem dX6_init_123 : decode cX6_init 123 = .ok (.bipush 16, 2) := by decide +kernel
theorem dX6_init_125 : decode cX6_init 125 = .ok (.newarray .long, 2) := by decide +kernel
theorem dX6_init_127 : decode cX6_init 127 = .ok (.putfield 59, 3) := by decide +kernel
theorem dX6_init_130 : decode cX6_init 130 = .ok (.aload_n 0, 1) := by decide +kernel
theorem dX6_init_131 : decode cX6_init 131 = .ok (.sipush 201, 3) := by decide +kernel
theorem dX6_init_134 : decode cX6_init 134 = .ok (.newarray .int, 2) := by decide +kernel
theorem dX6_init_136 : decode cX6_init 136 = .ok (.putfield 62, 3) := by decide +kernel
theorem dX6_init_139 : decode cX6_init 139 = .ok (.return_, 1) := by decide +kernel
def gm_X6_init (fu : Nat) (this : Nat) (X : gx_H) : Option (Unit × gx_H × Nat × Nat) :=
  (gx_pf X this 6 1 (.int (1 : Int32))).bind fun X1 =>
  gx_ad 1 58560 <|
  (gx_pf (gx_nw X1 (.inl (2, 58560, .inl fun _ => 0))) this 6 2 (.ref X1.2)).bind fun X3 =>
  gx_ad 1 16 <|
  (gx_pf (gx_nw X3 (.inl (2, 16, .inl fun _ => 0))) this 6 3 (.ref X3.2)).bind fun X5 =>
  gx_ad 1 2 <|
  (gx_pf (gx_nw X5 (.inl (0, 2, .inl fun _ => 0))) this 6 4 (.ref X5.2)).bind fun X7 =>
  gx_ad 1 16 <|
  (gx_pf (gx_nw X7 (.inl (0, 16, .inl fun _ => 0))) this 6 5 (.ref X7.2)).bind fun X9 =>
  gx_ad 1 16 <|
  (gx_pf (gx_nw X9 (.inl (0, 16, .inl fun _ => 0))) this 6 6 (.ref X9.2)).bind fun X11 =>
  gx_ad 1 3200 <|
  (gx_pf (gx_nw X11 (.inl (0, 3200, .inl fun _ => 0))) this 6 7 (.ref X11.2)).bind fun X13 =>
  gx_ad 1 3200 <|
  (gx_pf (gx_nw X13 (.inl (0, 3200, .inl fun _ => 0))) this 6 8 (.ref X13.2)).bind fun X15 =>
  gx_ad 1 96 <|
  (gx_pf (gx_nw X15 (.inl (0, 96, .inl fun _ => 0))) this 6 9 (.ref X15.2)).bind fun X17 =>
  gx_ad 1 96 <|
  (gx_pf (gx_nw X17 (.inl (0, 96, .inl fun _ => 0))) this 6 10 (.ref X17.2)).bind fun X19 =>
  gx_ad 1 96 <|
  (gx_pf (gx_nw X19 (.inl (0, 96, .inl fun _ => 0))) this 6 11 (.ref X19.2)).bind fun X21 =>
  gx_ad 1 2 <|
  (gx_pf (gx_nw X21 (.inl (2, 2, .inl fun _ => 0))) this 6 13 (.ref X21.2)).bind fun X23 =>
  gx_ad 1 3200 <|
  (gx_pf (gx_nw X23 (.inl (1, 3200, .inr (.inl fun _ => 0)))) this 6 14 (.ref X23.2)).bind fun X25 =>
  gx_ad 1 16 <|
  (gx_pf (gx_nw X25 (.inl (1, 16, .inr (.inl fun _ => 0)))) this 6 15 (.ref X25.2)).bind fun X27 =>
  gx_ad 1 16 <|
  (gx_pf (gx_nw X27 (.inl (1, 16, .inr (.inl fun _ => 0)))) this 6 16 (.ref X27.2)).bind fun X29 =>
  gx_ad 1 16 <|
  (gx_pf (gx_nw X29 (.inl (1, 16, .inr (.inl fun _ => 0)))) this 6 17 (.ref X29.2)).bind fun X31 =>
  gx_ad 1 201 <|
  (gx_pf (gx_nw X31 (.inl (0, 201, .inl fun _ => 0))) this 6 19 (.ref X31.2)).bind fun X33 =>
  some ((), X33, 0, 0)
set_option maxHeartbeats 1000000 in
set_option maxRecDepth 20000 in
theorem gc_X6_init {l : Launch} {D : gx_D} (fu : Nat) (this : Nat) (X : gx_H) (X2 : gx_H) (tc ts : Nat) (h : gm_X6_init fu this X = some ((), X2, tc, ts)) : gx_M D gz_cl gz_at gz_tb gz_nb l yX6_init cX6_init 1 none 1 20 [gx_r (some this)] X none X2 tc ts := by
  unfold gm_X6_init at h
  refine gx_enter [some (gx_r (some this))] rfl (by decide) (Nat.le_of_ble_eq_true rfl) ?_
  intro p e s m below meth c C hin
  have h1 : 0 + tc = tc := Nat.zero_add tc
  have h2 : 0 + ts = ts := Nat.zero_add ts
  refine gx_aload_n C dX6_init_0 rfl rfl ?_
  refine gx_objInit C wl_495 wl_15 wl_16 dX6_init_1 (Nat.le_of_ble_eq_true rfl) (Nat.le_of_ble_eq_true rfl) ?_
  refine gx_aload_n C dX6_init_4 rfl rfl ?_
  refine gx_iconst (v := 1) C dX6_init_5 (by decide) ?_
  obtain ⟨X1, eX1, h⟩ := gx_bd h
  refine gx_put C kcX6 1 (by decide) rfl wl_498 ⟨rfl, rfl⟩ eX1 dX6_init_6 ?_
  refine gx_aload_n C dX6_init_9 rfl rfl ?_
  refine gx_ldc (v := 58560) C wl_496 dX6_init_10 ?_
  obtain ⟨c2, s2, h, ec2, es2⟩ := gx_add h
  refine gx_newa (t := 2) (N' := 58560) (a0 := (58560, .inl fun _ => 0)) C rfl rfl (fun _ _ q => q) wl_39 (fun _ => rfl) (by decide) (by decide) (by decide) (show 0 + 1 ≤ tc by omega) (show 0 + 58560 ≤ ts by omega) dX6_init_12 ?_
  obtain ⟨X3, eX3, h⟩ := gx_bd h
  refine gx_putF C kcX6 2 (by decide) rfl hin rfl wl_499 ⟨rfl, rfl⟩ eX3 dX6_init_14 ?_
  refine gx_aload_n C dX6_init_17 rfl rfl ?_
  refine gx_bipush (v := 16) C dX6_init_18 (by decide) ?_
  obtain ⟨c4, s4, h, ec4, es4⟩ := gx_add h
  refine gx_newa (t := 2) (N' := 16) (a0 := (16, .inl fun _ => 0)) C rfl rfl (fun _ _ q => q) wl_39 (fun _ => rfl) (by decide) (by decide) (by decide) (show 0 + 1 + 1 ≤ tc by omega) (show 0 + 58560 + 16 ≤ ts by omega) dX6_init_20 ?_
  obtain ⟨X5, eX5, h⟩ := gx_bd h
  refine gx_putF C kcX6 3 (by decide) rfl hin rfl wl_500 ⟨rfl, rfl⟩ eX5 dX6_init_22 ?_
  refine gx_aload_n C dX6_init_25 rfl rfl ?_
  refine gx_iconst (v := 2) C dX6_init_26 (by decide) ?_
  obtain ⟨c6, s6, h, ec6, es6⟩ := gx_add h
  refine gx_newa (t := 0) (N' := 2) (a0 := (2, .inl fun _ => 0)) C rfl rfl (fun _ _ q => q) wl_60 (fun _ => rfl) (by decide) (by decide) (by decide) (show 0 + 1 + 1 + 1 ≤ tc by omega) (show 0 + 58560 + 16 + 2 ≤ ts by omega) dX6_init_27 ?_
  obtain ⟨X7, eX7, h⟩ := gx_bd h
  refine gx_putF C kcX6 4 (by decide) rfl hin rfl wl_501 ⟨rfl, rfl⟩ eX7 dX6_init_29 ?_
  refine gx_aload_n C dX6_init_32 rfl rfl ?_
  refine gx_bipush (v := 16) C dX6_init_33 (by decide) ?_
  obtain ⟨c8, s8, h, ec8, es8⟩ := gx_add h
  refine gx_newa (t := 0) (N' := 16) (a0 := (16, .inl fun _ => 0)) C rfl rfl (fun _ _ q => q) wl_60 (fun _ => rfl) (by decide) (by decide) (by decide) (show 0 + 1 + 1 + 1 + 1 ≤ tc by omega) (show 0 + 58560 + 16 + 2 + 16 ≤ ts by omega) dX6_init_35 ?_
  obtain ⟨X9, eX9, h⟩ := gx_bd h
  refine gx_putF C kcX6 5 (by decide) rfl hin rfl wl_502 ⟨rfl, rfl⟩ eX9 dX6_init_37 ?_
  refine gx_aload_n C dX6_init_40 rfl rfl ?_
  refine gx_bipush (v := 16) C dX6_init_41 (by decide) ?_
  obtain ⟨c10, s10, h, ec10, es10⟩ := gx_add h
  refine gx_newa (t := 0) (N' := 16) (a0 := (16, .inl fun _ => 0)) C rfl rfl (fun _ _ q => q) wl_60 (fun _ => rfl) (by decide) (by decide) (by decide) (show 0 + 1 + 1 + 1 + 1 + 1 ≤ tc by omega) (show 0 + 58560 + 16 + 2 + 16 + 16 ≤ ts by omega) dX6_init_43 ?_
  obtain ⟨X11, eX11, h⟩ := gx_bd h
  refine gx_putF C kcX6 6 (by decide) rfl hin rfl wl_503 ⟨rfl, rfl⟩ eX11 dX6_init_45 ?_
  refine gx_aload_n C dX6_init_48 rfl rfl ?_
  refine gx_sipush (v := 3200) C dX6_init_49 (by decide) ?_
  obtain ⟨c12, s12, h, ec12, es12⟩ := gx_add h
  refine gx_newa (t := 0) (N' := 3200) (a0 := (3200, .inl fun _ => 0)) C rfl rfl (fun _ _ q => q) wl_60 (fun _ => rfl) (by decide) (by decide) (by decide) (show 0 + 1 + 1 + 1 + 1 + 1 + 1 ≤ tc by omega) (show 0 + 58560 + 16 + 2 + 16 + 16 + 3200 ≤ ts by omega) dX6_init_52 ?_
  obtain ⟨X13, eX13, h⟩ := gx_bd h
  refine gx_putF C kcX6 7 (by decide) rfl hin rfl wl_504 ⟨rfl, rfl⟩ eX13 dX6_init_54 ?_
  refine gx_aload_n C dX6_init_57 rfl rfl ?_
  refine gx_sipush (v := 3200) C dX6_init_58 (by decide) ?_
  obtain ⟨c14, s14, h, ec14, es14⟩ := gx_add h
  refine gx_newa (t := 0) (N' := 3200) (a0 := (3200, .inl fun _ => 0)) C rfl rfl (fun _ _ q => q) wl_60 (fun _ => rfl) (by decide) (by decide) (by decide) (show 0 + 1 + 1 + 1 + 1 + 1 + 1 + 1 ≤ tc by omega) (show 0 + 58560 + 16 + 2 + 16 + 16 + 3200 + 3200 ≤ ts by omega) dX6_init_61 ?_
  obtain ⟨X15, eX15, h⟩ := gx_bd h
  refine gx_putF C kcX6 8 (by decide) rfl hin rfl wl_505 ⟨rfl, rfl⟩ eX15 dX6_init_63 ?_
  refine gx_aload_n C dX6_init_66 rfl rfl ?_
  refine gx_bipush (v := 96) C dX6_init_67 (by decide) ?_
  obtain ⟨c16, s16, h, ec16, es16⟩ := gx_add h
  refine gx_newa (t := 0) (N' := 96) (a0 := (96, .inl fun _ => 0)) C rfl rfl (fun _ _ q => q) wl_60 (fun _ => rfl) (by decide) (by decide) (by decide) (show 0 + 1 + 1 + 1 + 1 + 1 + 1 + 1 + 1 ≤ tc by omega) (show 0 + 58560 + 16 + 2 + 16 + 16 + 3200 + 3200 + 96 ≤ ts by omega) dX6_init_69 ?_
  obtain ⟨X17, eX17, h⟩ := gx_bd h
  refine gx_putF C kcX6 9 (by decide) rfl hin rfl wl_506 ⟨rfl, rfl⟩ eX17 dX6_init_71 ?_
  refine gx_aload_n C dX6_init_74 rfl rfl ?_
  refine gx_bipush (v := 96) C dX6_init_75 (by decide) ?_
  obtain ⟨c18, s18, h, ec18, es18⟩ := gx_add h
  refine gx_newa (t := 0) (N' := 96) (a0 := (96, .inl fun _ => 0)) C rfl rfl (fun _ _ q => q) wl_60 (fun _ => rfl) (by decide) (by decide) (by decide) (show 0 + 1 + 1 + 1 + 1 + 1 + 1 + 1 + 1 + 1 ≤ tc by omega) (show 0 + 58560 + 16 + 2 + 16 + 16 + 3200 + 3200 + 96 + 96 ≤ ts by omega) dX6_init_77 ?_
  obtain ⟨X19, eX19, h⟩ := gx_bd h
  refine gx_putF C kcX6 10 (by decide) rfl hin rfl wl_507 ⟨rfl, rfl⟩ eX19 dX6_init_79 ?_
  refine gx_aload_n C dX6_init_82 rfl rfl ?_
  refine gx_bipush (v := 96) C dX6_init_83 (by decide) ?_
  obtain ⟨c20, s20, h, ec20, es20⟩ := gx_add h
  refine gx_newa (t := 0) (N' := 96) (a0 := (96, .inl fun _ => 0)) C rfl rfl (fun _ _ q => q) wl_60 (fun _ => rfl) (by decide) (by decide) (by decide) (show 0 + 1 + 1 + 1 + 1 + 1 + 1 + 1 + 1 + 1 + 1 ≤ tc by omega) (show 0 + 58560 + 16 + 2 + 16 + 16 + 3200 + 3200 + 96 + 96 + 96 ≤ ts by omega) dX6_init_85 ?_
  obtain ⟨X21, eX21, h⟩ := gx_bd h
  refine gx_putF C kcX6 11 (by decide) rfl hin rfl wl_508 ⟨rfl, rfl⟩ eX21 dX6_init_87 ?_
  refine gx_aload_n C dX6_init_90 rfl rfl ?_
  refine gx_iconst (v := 2) C dX6_init_91 (by decide) ?_
  obtain ⟨c22, s22, h, ec22, es22⟩ := gx_add h
  refine gx_newa (t := 2) (N' := 2) (a0 := (2, .inl fun _ => 0)) C rfl rfl (fun _ _ q => q) wl_39 (fun _ => rfl) (by decide) (by decide) (by decide) (show 0 + 1 + 1 + 1 + 1 + 1 + 1 + 1 + 1 + 1 + 1 + 1 ≤ tc by omega) (show 0 + 58560 + 16 + 2 + 16 + 16 + 3200 + 3200 + 96 + 96 + 96 + 2 ≤ ts by omega) dX6_init_92 ?_
  obtain ⟨X23, eX23, h⟩ := gx_bd h
  refine gx_putF C kcX6 13 (by decide) rfl hin rfl wl_510 ⟨rfl, rfl⟩ eX23 dX6_init_94 ?_
  refine gx_aload_n C dX6_init_97 rfl rfl ?_
  refine gx_sipush (v := 3200) C dX6_init_98 (by decide) ?_
  obtain ⟨c24, s24, h, ec24, es24⟩ := gx_add h
  refine gx_newa (t := 1) (N' := 3200) (a0 := (3200, .inr (.inl fun _ => 0))) C rfl rfl (fun _ _ q => q) wl_40 (fun _ => rfl) (by decide) (by decide) (by decide) (show 0 + 1 + 1 + 1 + 1 + 1 + 1 + 1 + 1 + 1 + 1 + 1 + 1 ≤ tc by omega) (show 0 + 58560 + 16 + 2 + 16 + 16 + 3200 + 3200 + 96 + 96 + 96 + 2 + 3200 ≤ ts by omega) dX6_init_101 ?_
  obtain ⟨X25, eX25, h⟩ := gx_bd h
  refine gx_putF C kcX6 14 (by decide) rfl hin rfl wl_511 ⟨rfl, rfl⟩ eX25 dX6_init_103 ?_
  refine gx_aload_n C dX6_init_106 rfl rfl ?_
  refine gx_bipush (v := 16) C dX6_init_107 (by decide) ?_
  obtain ⟨c26, s26, h, ec26, es26⟩ := gx_add h
  refine gx_newa (t := 1) (N' := 16) (a0 := (16, .inr (.inl fun _ => 0))) C rfl rfl (fun _ _ q => q) wl_40 (fun _ => rfl) (by decide) (by decide) (by decide) (show 0 + 1 + 1 + 1 + 1 + 1 + 1 + 1 + 1 + 1 + 1 + 1 + 1 + 1 ≤ tc by omega) (show 0 + 58560 + 16 + 2 + 16 + 16 + 3200 + 3200 + 96 + 96 + 96 + 2 + 3200 + 16 ≤ ts by omega) dX6_init_109 ?_
  obtain ⟨X27, eX27, h⟩ := gx_bd h
  refine gx_putF C kcX6 15 (by decide) rfl hin rfl wl_512 ⟨rfl, rfl⟩ eX27 dX6_init_111 ?_
  refine gx_aload_n C dX6_init_114 rfl rfl ?_
  refine gx_bipush (v := 16) C dX6_init_115 (by decide) ?_
  obtain ⟨c28, s28, h, ec28, es28⟩ := gx_add h
  refine gx_newa (t := 1) (N' := 16) (a0 := (16, .inr (.inl fun _ => 0))) C rfl rfl (fun _ _ q => q) wl_40 (fun _ => rfl) (by decide) (by decide) (by decide) (show 0 + 1 + 1 + 1 + 1 + 1 + 1 + 1 + 1 + 1 + 1 + 1 + 1 + 1 + 1 ≤ tc by omega) (show 0 + 58560 + 16 + 2 + 16 + 16 + 3200 + 3200 + 96 + 96 + 96 + 2 + 3200 + 16 + 16 ≤ ts by omega) dX6_init_117 ?_
  obtain ⟨X29, eX29, h⟩ := gx_bd h
  refine gx_putF C kcX6 16 (by decide) rfl hin rfl wl_513 ⟨rfl, rfl⟩ eX29 dX6_init_119 ?_
  refine gx_aload_n C dX6_init_122 rfl rfl ?_
  refine gx_bipush (v := 16) C dX6_init_123 (by decide) ?_
  obtain ⟨c30, s30, h, ec30, es30⟩ := gx_add h
  refine gx_newa (t := 1) (N' := 16) (a0 := (16, .inr (.inl fun _ => 0))) C rfl rfl (fun _ _ q => q) wl_40 (fun _ => rfl) (by decide) (by decide) (by decide) (show 0 + 1 + 1 + 1 + 1 + 1 + 1 + 1 + 1 + 1 + 1 + 1 + 1 + 1 + 1 + 1 ≤ tc by omega) (show 0 + 58560 + 16 + 2 + 16 + 16 + 3200 + 3200 + 96 + 96 + 96 + 2 + 3200 + 16 + 16 + 16 ≤ ts by omega) dX6_init_125 ?_
  obtain ⟨X31, eX31, h⟩ := gx_bd h
  refine gx_putF C kcX6 17 (by decide) rfl hin rfl wl_514 ⟨rfl, rfl⟩ eX31 dX6_init_127 ?_
  refine gx_aload_n C dX6_init_130 rfl rfl ?_
  refine gx_sipush (v := 201) C dX6_init_131 (by decide) ?_
  obtain ⟨c32, s32, h, ec32, es32⟩ := gx_add h
  refine gx_newa (t := 0) (N' := 201) (a0 := (201, .inl fun _ => 0)) C rfl rfl (fun _ _ q => q) wl_60 (fun _ => rfl) (by decide) (by decide) (by decide) (show 0 + 1 + 1 + 1 + 1 + 1 + 1 + 1 + 1 + 1 + 1 + 1 + 1 + 1 + 1 + 1 + 1 ≤ tc by omega) (show 0 + 58560 + 16 + 2 + 16 + 16 + 3200 + 3200 + 96 + 96 + 96 + 2 + 3200 + 16 + 16 + 16 + 201 ≤ ts by omega) dX6_init_134 ?_
  obtain ⟨X33, eX33, h⟩ := gx_bd h
  refine gx_putF C kcX6 19 (by decide) rfl hin rfl wl_516 ⟨rfl, rfl⟩ eX33 dX6_init_136 ?_
  cases h
  have z1 := h1
  have z2 := h2
  refine gx_widen (k := tc) (n := ts) (by omega) (by omega) ?_
  exact gx_vret C dX6_init_139
theorem dX6_instructions_0 : decode cX6_instructions 0 = .ok (.iconst 0, 1) := by decide +kernel
theorem dX6_instructions_1 : decode cX6_instructions 1 = .ok (.istore_n 2, 1) := by decide +kernel
theorem dX6_instructions_2 : decode cX6_instructions 2 = .ok (.iconst 0, 1) := by decide +kernel
theorem dX6_instructions_3 : decode cX6_instructions 3 = .ok (.istore_n 3, 1) := by decide +kernel
theorem dX6_instructions_4 : decode cX6_instructions 4 = .ok (.iload_n 3, 1) := by decide +kernel
theorem dX6_instructions_5 : decode cX6_instructions 5 = .ok (.aload_n 0, 1) := by decide +kernel
theorem dX6_instructions_6 : decode cX6_instructions 6 = .ok (.getfield 21, 3) := by decide +kernel
theorem dX6_instructions_9 : decode cX6_instructions 9 = .ok (.iload_n 1, 1) := by decide +kernel
theorem dX6_instructions_10 : decode cX6_instructions 10 = .ok (.iaload, 1) := by decide +kernel
theorem dX6_instructions_11 : decode cX6_instructions 11 = .ok (.if_icmp .ge 23, 3) := by decide +kernel
theorem dX6_instructions_14 : decode cX6_instructions 14 = .ok (.iload_n 2, 1) := by decide +kernel
theorem dX6_instructions_15 : decode cX6_instructions 15 = .ok (.aload_n 0, 1) := by decide +kernel
theorem dX6_instructions_16 : decode cX6_instructions 16 = .ok (.getfield 25, 3) := by decide +kernel
theorem dX6_instructions_19 : decode cX6_instructions 19 = .ok (.bipush 8, 2) := by decide +kernel
theorem dX6_instructions_21 : decode cX6_instructions 21 = .ok (.iload_n 1, 1) := by decide +kernel
theorem dX6_instructions_22 : decode cX6_instructions 22 = .ok (.imul, 1) := by decide +kernel
theorem dX6_instructions_23 : decode cX6_instructions 23 = .ok (.iload_n 3, 1) := by decide +kernel
theorem dX6_instructions_24 : decode cX6_instructions 24 = .ok (.iadd, 1) := by decide +kernel
theorem dX6_instructions_25 : decode cX6_instructions 25 = .ok (.iaload, 1) := by decide +kernel
theorem dX6_instructions_26 : decode cX6_instructions 26 = .ok (.iadd, 1) := by decide +kernel
theorem dX6_instructions_27 : decode cX6_instructions 27 = .ok (.istore_n 2, 1) := by decide +kernel
theorem dX6_instructions_28 : decode cX6_instructions 28 = .ok (.iinc 3 1, 3) := by decide +kernel
theorem dX6_instructions_31 : decode cX6_instructions 31 = .ok (.goto (-27), 3) := by decide +kernel
theorem dX6_instructions_34 : decode cX6_instructions 34 = .ok (.iload_n 2, 1) := by decide +kernel
theorem dX6_instructions_35 : decode cX6_instructions 35 = .ok (.ireturn, 1) := by decide +kernel
def gm_X6_instructions_4 (fu : Nat) : Nat → Nat → Int32 → Int32 → Int32 → gx_H → Option (Int32 × gx_H)
  | 0, _, _, _, _, _ => none
  | n + 1, a0, x1, x2, x3, X =>
    (gx_gd X a0 6 4).bind fun a1 =>
    (gx_gai X a1 0 x1).bind fun v2 =>
    if v2 ≤ x3 then (
    some (x2, X)) else (
    (gx_gd X a0 6 5).bind fun a4 =>
    (gx_gai X a4 0 (((8 : Int32) * x1) + x3)).bind fun v5 =>
    (gm_X6_instructions_4 fu  n) a0 x1 (x2 + v5) (x3 + 1) X)
set_option maxHeartbeats 1000000 in
set_option maxRecDepth 20000 in
theorem gt_X6_instructions_4 {p : Program} {l : Launch} {e : Env} {s : State} {m : MethodId} {args : Array Value} {below : List Frame} {meth : Method} {c : Code} {D : gx_D} {r : Int32} {X2 : gx_H}  (C : gx_C D gz_cl gz_at gz_tb gz_nb p s m meth c cX6_instructions 4 RX6 (some .int)) (fu : Nat) : ∀ (n : Nat) (a0 : Nat) (x1 : Int32) (x2 : Int32) (x3 : Int32) (X : gx_H) , gm_X6_instructions_4 fu  n a0 x1 x2 x3 X = some (r, X2) → gx_W D gz_cl 4 p l e (gx_rm 0 0 0 0) s m args below meth c 0 0 (MQ below (gx_Q D gz_cl (some (gx_i r)) X2) args s 0 0 (gx_Z D)) X 4 [some (gx_r (some a0)), some (gx_i x1), some (gx_i x2), some (gx_i x3)] [] := by
  intro n
  induction n with
  | zero =>
    intro a0 x1 x2 x3 X h
    have h : none = some _ := h
    cases h
  | succ n ih =>
    intro a0 x1 x2 x3 X h
    rw [gm_X6_instructions_4] at h
    refine gx_iload_n C dX6_instructions_4 rfl rfl ?_
    refine gx_aload_n C dX6_instructions_5 rfl rfl ?_
    obtain ⟨a1, ea1, h⟩ := gx_bd h
    refine gx_get C kcX6 4 (by decide) wl_501 (gx_gd_s ea1) dX6_instructions_6 ?_
    refine gx_iload_n C dX6_instructions_9 rfl rfl ?_
    obtain ⟨v2, ev2, h⟩ := gx_bd h
    refine gx_iald C (t := 0) rfl ev2 dX6_instructions_10 ?_
    refine gx_icmp_ge (tgt := 34) C dX6_instructions_11 (by decide) (fun q3 => ?_) (fun q3 => ?_)
    · rw [if_pos q3] at h
      refine gx_iload_n C dX6_instructions_34 rfl rfl ?_
      cases h
      exact gx_iret C dX6_instructions_35
    · rw [if_neg q3] at h
      refine gx_iload_n C dX6_instructions_14 rfl rfl ?_
      refine gx_aload_n C dX6_instructions_15 rfl rfl ?_
      obtain ⟨a4, ea4, h⟩ := gx_bd h
      refine gx_get C kcX6 5 (by decide) wl_502 (gx_gd_s ea4) dX6_instructions_16 ?_
      refine gx_bipush (v := 8) C dX6_instructions_19 (by decide) ?_
      refine gx_iload_n C dX6_instructions_21 rfl rfl ?_
      refine gx_imul C dX6_instructions_22 ?_
      refine gx_iload_n C dX6_instructions_23 rfl rfl ?_
      refine gx_iadd C dX6_instructions_24 ?_
      obtain ⟨v5, ev5, h⟩ := gx_bd h
      refine gx_iald C (t := 0) rfl ev5 dX6_instructions_25 ?_
      refine gx_iadd C dX6_instructions_26 ?_
      refine gx_istore_n (lv2 := [some (gx_r (some a0)), some (gx_i x1), some (gx_i (x2 + v5)), some (gx_i x3)]) C dX6_instructions_27 rfl (by decide) rfl ?_
      refine gx_iinc (v := (x3 + 1)) (lv2 := [some (gx_r (some a0)), some (gx_i x1), some (gx_i (x2 + v5)), some (gx_i (x3 + 1))]) C dX6_instructions_28 rfl rfl (by decide) rfl ?_
      refine gx_goto (tgt := 4) C dX6_instructions_31 (by decide) ?_
      exact ih a0 x1 (x2 + v5) (x3 + 1) X h
def gm_X6_instructions (fu : Nat) (this : Nat) (p_0 : Int32) (X : gx_H) : Option (Int32 × gx_H) :=
  gm_X6_instructions_4 fu  fu this p_0 (0 : Int32) (0 : Int32) X
set_option maxHeartbeats 1000000 in
set_option maxRecDepth 20000 in
theorem gc_X6_instructions {l : Launch} {D : gx_D} (fu : Nat) (this : Nat) (p_0 : Int32) (X : gx_H) (r : Int32) (X2 : gx_H) (h : gm_X6_instructions fu this p_0 X = some (r, X2)) : gx_M D gz_cl gz_at gz_tb gz_nb l yX6_instructions cX6_instructions 4 (some .int) 0 0 [gx_r (some this), gx_i p_0] X (some (gx_i r)) X2 0 0 := by
  unfold gm_X6_instructions at h
  refine gx_enter [some (gx_r (some this)), some (gx_i p_0), none, none] rfl (by decide) (Nat.le_of_ble_eq_true rfl) ?_
  intro p e s m below meth c C _
  refine gx_iconst (v := 0) C dX6_instructions_0 (by decide) ?_
  refine gx_istore_n (lv2 := [some (gx_r (some this)), some (gx_i p_0), some (gx_i (0 : Int32)), none]) C dX6_instructions_1 rfl (by decide) rfl ?_
  refine gx_iconst (v := 0) C dX6_instructions_2 (by decide) ?_
  refine gx_istore_n (lv2 := [some (gx_r (some this)), some (gx_i p_0), some (gx_i (0 : Int32)), some (gx_i (0 : Int32))]) C dX6_instructions_3 rfl (by decide) rfl ?_
  exact gt_X6_instructions_4 C fu  fu this p_0 (0 : Int32) (0 : Int32) X h
theorem dX6_wayMany_0 : decode cX6_wayMany 0 = .ok (.iconst 0, 1) := by decide +kernel
theorem dX6_wayMany_1 : decode cX6_wayMany 1 = .ok (.istore_n 1, 1) := by decide +kernel
theorem dX6_wayMany_2 : decode cX6_wayMany 2 = .ok (.iconst 0, 1) := by decide +kernel
theorem dX6_wayMany_3 : decode cX6_wayMany 3 = .ok (.istore_n 2, 1) := by decide +kernel
theorem dX6_wayMany_4 : decode cX6_wayMany 4 = .ok (.iload_n 2, 1) := by decide +kernel
theorem dX6_wayMany_5 : decode cX6_wayMany 5 = .ok (.ldc 13, 2) := by decide +kernel
theorem dX6_wayMany_7 : decode cX6_wayMany 7 = .ok (.if_icmp .ge 26, 3) := by decide +kernel
theorem dX6_wayMany_10 : decode cX6_wayMany 10 = .ok (.iload_n 1, 1) := by decide +kernel
theorem dX6_wayMany_11 : decode cX6_wayMany 11 = .ok (.aload_n 0, 1) := by decide +kernel
theorem dX6_wayMany_12 : decode cX6_wayMany 12 = .ok (.getfield 14, 3) := by decide +kernel
theorem dX6_wayMany_15 : decode cX6_wayMany 15 = .ok (.iload_n 2, 1) := by decide +kernel
theorem dX6_wayMany_16 : decode cX6_wayMany 16 = .ok (.baload, 1) := by decide +kernel
theorem dX6_wayMany_17 : decode cX6_wayMany 17 = .ok (.ifCond .eq 7, 3) := by decide +kernel
theorem dX6_wayMany_20 : decode cX6_wayMany 20 = .ok (.iconst 1, 1) := by decide +kernel
theorem dX6_wayMany_21 : decode cX6_wayMany 21 = .ok (.goto 4, 3) := by decide +kernel
theorem dX6_wayMany_24 : decode cX6_wayMany 24 = .ok (.iconst 0, 1) := by decide +kernel
theorem dX6_wayMany_25 : decode cX6_wayMany 25 = .ok (.iadd, 1) := by decide +kernel
theorem dX6_wayMany_26 : decode cX6_wayMany 26 = .ok (.istore_n 1, 1) := by decide +kernel
theorem dX6_wayMany_27 : decode cX6_wayMany 27 = .ok (.iinc 2 1, 3) := by decide +kernel
theorem dX6_wayMany_30 : decode cX6_wayMany 30 = .ok (.goto (-26), 3) := by decide +kernel
theorem dX6_wayMany_33 : decode cX6_wayMany 33 = .ok (.iload_n 1, 1) := by decide +kernel
theorem dX6_wayMany_34 : decode cX6_wayMany 34 = .ok (.ireturn, 1) := by decide +kernel
def gm_X6_wayMany_25 (fu : Nat) (K4 : Nat → Int32 → Int32 → gx_H → Option (Int32 × gx_H)) (a0 : Nat) (x2 : Int32) (sx0 : Int32) (sx1 : Int32) (X : gx_H) : Option (Int32 × gx_H) :=
  K4 a0 (sx0 + sx1) (x2 + 1) X
set_option maxHeartbeats 1000000 in
set_option maxRecDepth 20000 in
theorem gt_X6_wayMany_25 {p : Program} {l : Launch} {e : Env} {s : State} {m : MethodId} {args : Array Value} {below : List Frame} {meth : Method} {c : Code} {D : gx_D} {r : Int32} {X2 : gx_H}  (C : gx_C D gz_cl gz_at gz_tb gz_nb p s m meth c cX6_wayMany 3 RX6 (some .int)) (fu : Nat) (K4 : Nat → Int32 → Int32 → gx_H → Option (Int32 × gx_H)) (hK4 : ∀ (a0 : Nat) (x1 : Int32) (x2 : Int32) (X : gx_H), K4 a0 x1 x2 X = some (r, X2) → gx_W D gz_cl 3 p l e (gx_rm 0 0 0 0) s m args below meth c 0 0 (MQ below (gx_Q D gz_cl (some (gx_i r)) X2) args s 0 0 (gx_Z D)) X 4 [some (gx_r (some a0)), some (gx_i x1), some (gx_i x2)] []) (a0 : Nat) (x2 : Int32) (sx0 : Int32) (sx1 : Int32) (X : gx_H) (h : gm_X6_wayMany_25 fu K4 a0 x2 sx0 sx1 X = some (r, X2)) : gx_W D gz_cl 3 p l e (gx_rm 0 0 0 0) s m args below meth c 0 0 (MQ below (gx_Q D gz_cl (some (gx_i r)) X2) args s 0 0 (gx_Z D)) X 25 [some (gx_r (some a0)), none, some (gx_i x2)] [gx_i sx1, gx_i sx0] := by
  unfold gm_X6_wayMany_25 at h
  refine gx_iadd C dX6_wayMany_25 ?_
  refine gx_istore_n (lv2 := [some (gx_r (some a0)), some (gx_i (sx0 + sx1)), some (gx_i x2)]) C dX6_wayMany_26 rfl (by decide) rfl ?_
  refine gx_iinc (v := (x2 + 1)) (lv2 := [some (gx_r (some a0)), some (gx_i (sx0 + sx1)), some (gx_i (x2 + 1))]) C dX6_wayMany_27 rfl rfl (by decide) rfl ?_
  refine gx_goto (tgt := 4) C dX6_wayMany_30 (by decide) ?_
  exact hK4 a0 (sx0 + sx1) (x2 + 1) X h
def gm_X6_wayMany_4 (fu : Nat) : Nat → Nat → Int32 → Int32 → gx_H → Option (Int32 × gx_H)
  | 0, _, _, _, _ => none
  | n + 1, a0, x1, x2, X =>
    if (58560 : Int32) ≤ x2 then (
    some (x1, X)) else (
    (gx_gd X a0 6 2).bind fun a2 =>
    (gx_gai X a2 2 x2).bind fun v3 =>
    if v3 = 0 then (
    gm_X6_wayMany_25 fu (gm_X6_wayMany_4 fu  n) a0 x2 x1 (0 : Int32) X) else (
    gm_X6_wayMany_25 fu (gm_X6_wayMany_4 fu  n) a0 x2 x1 (1 : Int32) X))
set_option maxHeartbeats 1000000 in
set_option maxRecDepth 20000 in
theorem gt_X6_wayMany_4 {p : Program} {l : Launch} {e : Env} {s : State} {m : MethodId} {args : Array Value} {below : List Frame} {meth : Method} {c : Code} {D : gx_D} {r : Int32} {X2 : gx_H}  (C : gx_C D gz_cl gz_at gz_tb gz_nb p s m meth c cX6_wayMany 3 RX6 (some .int)) (fu : Nat) : ∀ (n : Nat) (a0 : Nat) (x1 : Int32) (x2 : Int32) (X : gx_H) , gm_X6_wayMany_4 fu  n a0 x1 x2 X = some (r, X2) → gx_W D gz_cl 3 p l e (gx_rm 0 0 0 0) s m args below meth c 0 0 (MQ below (gx_Q D gz_cl (some (gx_i r)) X2) args s 0 0 (gx_Z D)) X 4 [some (gx_r (some a0)), some (gx_i x1), some (gx_i x2)] [] := by
  intro n
  induction n with
  | zero =>
    intro a0 x1 x2 X h
    have h : none = some _ := h
    cases h
  | succ n ih =>
    intro a0 x1 x2 X h
    rw [gm_X6_wayMany_4] at h
    refine gx_iload_n C dX6_wayMany_4 rfl rfl ?_
    refine gx_ldc (v := 58560) C wl_496 dX6_wayMany_5 ?_
    refine gx_icmp_ge (tgt := 33) C dX6_wayMany_7 (by decide) (fun q1 => ?_) (fun q1 => ?_)
    · rw [if_pos q1] at h
      refine gx_iload_n C dX6_wayMany_33 rfl rfl ?_
      cases h
      exact gx_iret C dX6_wayMany_34
    · rw [if_neg q1] at h
      refine gx_iload_n C dX6_wayMany_10 rfl rfl ?_
      refine gx_aload_n C dX6_wayMany_11 rfl rfl ?_
      obtain ⟨a2, ea2, h⟩ := gx_bd h
      refine gx_get C kcX6 2 (by decide) wl_499 (gx_gd_s ea2) dX6_wayMany_12 ?_
      refine gx_iload_n C dX6_wayMany_15 rfl rfl ?_
      obtain ⟨v3, ev3, h⟩ := gx_bd h
      refine gx_zald C (t := 2) rfl ev3 dX6_wayMany_16 ?_
      refine gx_if_eq (tgt := 24) C dX6_wayMany_17 (by decide) (fun q4 => ?_) (fun q4 => ?_)
      · rw [if_pos q4] at h
        refine gx_iconst (v := 0) C dX6_wayMany_24 (by decide) ?_
        refine gx_sub (lv2 := [some (gx_r (some a0)), none, some (gx_i x2)]) [true, false, true] rfl ?_
        exact gt_X6_wayMany_25 C fu (gm_X6_wayMany_4 fu  n) ih a0 x2 x1 (0 : Int32) X h
      · rw [if_neg q4] at h
        refine gx_iconst (v := 1) C dX6_wayMany_20 (by decide) ?_
        refine gx_goto (tgt := 25) C dX6_wayMany_21 (by decide) ?_
        refine gx_sub (lv2 := [some (gx_r (some a0)), none, some (gx_i x2)]) [true, false, true] rfl ?_
        exact gt_X6_wayMany_25 C fu (gm_X6_wayMany_4 fu  n) ih a0 x2 x1 (1 : Int32) X h
def gm_X6_wayMany (fu : Nat) (this : Nat) (X : gx_H) : Option (Int32 × gx_H) :=
  gm_X6_wayMany_4 fu  fu this (0 : Int32) (0 : Int32) X
set_option maxHeartbeats 1000000 in
set_option maxRecDepth 20000 in
theorem gc_X6_wayMany {l : Launch} {D : gx_D} (fu : Nat) (this : Nat) (X : gx_H) (r : Int32) (X2 : gx_H) (h : gm_X6_wayMany fu this X = some (r, X2)) : gx_M D gz_cl gz_at gz_tb gz_nb l yX6_wayMany cX6_wayMany 3 (some .int) 0 0 [gx_r (some this)] X (some (gx_i r)) X2 0 0 := by
  unfold gm_X6_wayMany at h
  refine gx_enter [some (gx_r (some this)), none, none] rfl (by decide) (Nat.le_of_ble_eq_true rfl) ?_
  intro p e s m below meth c C _
  refine gx_iconst (v := 0) C dX6_wayMany_0 (by decide) ?_
  refine gx_istore_n (lv2 := [some (gx_r (some this)), some (gx_i (0 : Int32)), none]) C dX6_wayMany_1 rfl (by decide) rfl ?_
  refine gx_iconst (v := 0) C dX6_wayMany_2 (by decide) ?_
  refine gx_istore_n (lv2 := [some (gx_r (some this)), some (gx_i (0 : Int32)), some (gx_i (0 : Int32))]) C dX6_wayMany_3 rfl (by decide) rfl ?_
  exact gt_X6_wayMany_4 C fu  fu this (0 : Int32) (0 : Int32) X h
theorem dX6_neededMany_0 : decode cX6_neededMany 0 = .ok (.iconst 0, 1) := by decide +kernel
theorem dX6_neededMany_1 : decode cX6_neededMany 1 = .ok (.istore_n 1, 1) := by decide +kernel
theorem dX6_neededMany_2 : decode cX6_neededMany 2 = .ok (.iconst 0, 1) := by decide +kernel
theorem dX6_neededMany_3 : decode cX6_neededMany 3 = .ok (.istore_n 2, 1) := by decide +kernel
theorem dX6_neededMany_4 : decode cX6_neededMany 4 = .ok (.iload_n 2, 1) := by decide +kernel
theorem dX6_neededMany_5 : decode cX6_neededMany 5 = .ok (.bipush 16, 2) := by decide +kernel
theorem dX6_neededMany_7 : decode cX6_neededMany 7 = .ok (.if_icmp .ge 26, 3) := by decide +kernel
theorem dX6_neededMany_10 : decode cX6_neededMany 10 = .ok (.iload_n 1, 1) := by decide +kernel
theorem dX6_neededMany_11 : decode cX6_neededMany 11 = .ok (.aload_n 0, 1) := by decide +kernel
theorem dX6_neededMany_12 : decode cX6_neededMany 12 = .ok (.getfield 18, 3) := by decide +kernel
theorem dX6_neededMany_15 : decode cX6_neededMany 15 = .ok (.iload_n 2, 1) := by decide +kernel
theorem dX6_neededMany_16 : decode cX6_neededMany 16 = .ok (.baload, 1) := by decide +kernel
theorem dX6_neededMany_17 : decode cX6_neededMany 17 = .ok (.ifCond .eq 7, 3) := by decide +kernel
theorem dX6_neededMany_20 : decode cX6_neededMany 20 = .ok (.iconst 1, 1) := by decide +kernel
theorem dX6_neededMany_21 : decode cX6_neededMany 21 = .ok (.goto 4, 3) := by decide +kernel
theorem dX6_neededMany_24 : decode cX6_neededMany 24 = .ok (.iconst 0, 1) := by decide +kernel
theorem dX6_neededMany_25 : decode cX6_neededMany 25 = .ok (.iadd, 1) := by decide +kernel
theorem dX6_neededMany_26 : decode cX6_neededMany 26 = .ok (.istore_n 1, 1) := by decide +kernel
theorem dX6_neededMany_27 : decode cX6_neededMany 27 = .ok (.iinc 2 1, 3) := by decide +kernel
theorem dX6_neededMany_30 : decode cX6_neededMany 30 = .ok (.goto (-26), 3) := by decide +kernel
theorem dX6_neededMany_33 : decode cX6_neededMany 33 = .ok (.iload_n 1, 1) := by decide +kernel
theorem dX6_neededMany_34 : decode cX6_neededMany 34 = .ok (.ireturn, 1) := by decide +kernel
def gm_X6_neededMany_25 (fu : Nat) (K4 : Nat → Int32 → Int32 → gx_H → Option (Int32 × gx_H)) (a0 : Nat) (x2 : Int32) (sx0 : Int32) (sx1 : Int32) (X : gx_H) : Option (Int32 × gx_H) :=
  K4 a0 (sx0 + sx1) (x2 + 1) X
set_option maxHeartbeats 1000000 in
set_option maxRecDepth 20000 in
theorem gt_X6_neededMany_25 {p : Program} {l : Launch} {e : Env} {s : State} {m : MethodId} {args : Array Value} {below : List Frame} {meth : Method} {c : Code} {D : gx_D} {r : Int32} {X2 : gx_H}  (C : gx_C D gz_cl gz_at gz_tb gz_nb p s m meth c cX6_neededMany 3 RX6 (some .int)) (fu : Nat) (K4 : Nat → Int32 → Int32 → gx_H → Option (Int32 × gx_H)) (hK4 : ∀ (a0 : Nat) (x1 : Int32) (x2 : Int32) (X : gx_H), K4 a0 x1 x2 X = some (r, X2) → gx_W D gz_cl 3 p l e (gx_rm 0 0 0 0) s m args below meth c 0 0 (MQ below (gx_Q D gz_cl (some (gx_i r)) X2) args s 0 0 (gx_Z D)) X 4 [some (gx_r (some a0)), some (gx_i x1), some (gx_i x2)] []) (a0 : Nat) (x2 : Int32) (sx0 : Int32) (sx1 : Int32) (X : gx_H) (h : gm_X6_neededMany_25 fu K4 a0 x2 sx0 sx1 X = some (r, X2)) : gx_W D gz_cl 3 p l e (gx_rm 0 0 0 0) s m args below meth c 0 0 (MQ below (gx_Q D gz_cl (some (gx_i r)) X2) args s 0 0 (gx_Z D)) X 25 [some (gx_r (some a0)), none, some (gx_i x2)] [gx_i sx1, gx_i sx0] := by
  unfold gm_X6_neededMany_25 at h
  refine gx_iadd C dX6_neededMany_25 ?_
  refine gx_istore_n (lv2 := [some (gx_r (some a0)), some (gx_i (sx0 + sx1)), some (gx_i x2)]) C dX6_neededMany_26 rfl (by decide) rfl ?_
  refine gx_iinc (v := (x2 + 1)) (lv2 := [some (gx_r (some a0)), some (gx_i (sx0 + sx1)), some (gx_i (x2 + 1))]) C dX6_neededMany_27 rfl rfl (by decide) rfl ?_
  refine gx_goto (tgt := 4) C dX6_neededMany_30 (by decide) ?_
  exact hK4 a0 (sx0 + sx1) (x2 + 1) X h
def gm_X6_neededMany_4 (fu : Nat) : Nat → Nat → Int32 → Int32 → gx_H → Option (Int32 × gx_H)
  | 0, _, _, _, _ => none
  | n + 1, a0, x1, x2, X =>
    if (16 : Int32) ≤ x2 then (
    some (x1, X)) else (
    (gx_gd X a0 6 3).bind fun a2 =>
    (gx_gai X a2 2 x2).bind fun v3 =>
    if v3 = 0 then (
    gm_X6_neededMany_25 fu (gm_X6_neededMany_4 fu  n) a0 x2 x1 (0 : Int32) X) else (
    gm_X6_neededMany_25 fu (gm_X6_neededMany_4 fu  n) a0 x2 x1 (1 : Int32) X))
set_option maxHeartbeats 1000000 in
set_option maxRecDepth 20000 in
theorem gt_X6_neededMany_4 {p : Program} {l : Launch} {e : Env} {s : State} {m : MethodId} {args : Array Value} {below : List Frame} {meth : Method} {c : Code} {D : gx_D} {r : Int32} {X2 : gx_H}  (C : gx_C D gz_cl gz_at gz_tb gz_nb p s m meth c cX6_neededMany 3 RX6 (some .int)) (fu : Nat) : ∀ (n : Nat) (a0 : Nat) (x1 : Int32) (x2 : Int32) (X : gx_H) , gm_X6_neededMany_4 fu  n a0 x1 x2 X = some (r, X2) → gx_W D gz_cl 3 p l e (gx_rm 0 0 0 0) s m args below meth c 0 0 (MQ below (gx_Q D gz_cl (some (gx_i r)) X2) args s 0 0 (gx_Z D)) X 4 [some (gx_r (some a0)), some (gx_i x1), some (gx_i x2)] [] := by
  intro n
  induction n with
  | zero =>
    intro a0 x1 x2 X h
    have h : none = some _ := h
    cases h
  | succ n ih =>
    intro a0 x1 x2 X h
    rw [gm_X6_neededMany_4] at h
    refine gx_iload_n C dX6_neededMany_4 rfl rfl ?_
    refine gx_bipush (v := 16) C dX6_neededMany_5 (by decide) ?_
    refine gx_icmp_ge (tgt := 33) C dX6_neededMany_7 (by decide) (fun q1 => ?_) (fun q1 => ?_)
    · rw [if_pos q1] at h
      refine gx_iload_n C dX6_neededMany_33 rfl rfl ?_
      cases h
      exact gx_iret C dX6_neededMany_34
    · rw [if_neg q1] at h
      refine gx_iload_n C dX6_neededMany_10 rfl rfl ?_
      refine gx_aload_n C dX6_neededMany_11 rfl rfl ?_
      obtain ⟨a2, ea2, h⟩ := gx_bd h
      refine gx_get C kcX6 3 (by decide) wl_500 (gx_gd_s ea2) dX6_neededMany_12 ?_
      refine gx_iload_n C dX6_neededMany_15 rfl rfl ?_
      obtain ⟨v3, ev3, h⟩ := gx_bd h
      refine gx_zald C (t := 2) rfl ev3 dX6_neededMany_16 ?_
      refine gx_if_eq (tgt := 24) C dX6_neededMany_17 (by decide) (fun q4 => ?_) (fun q4 => ?_)
      · rw [if_pos q4] at h
        refine gx_iconst (v := 0) C dX6_neededMany_24 (by decide) ?_
        refine gx_sub (lv2 := [some (gx_r (some a0)), none, some (gx_i x2)]) [true, false, true] rfl ?_
        exact gt_X6_neededMany_25 C fu (gm_X6_neededMany_4 fu  n) ih a0 x2 x1 (0 : Int32) X h
      · rw [if_neg q4] at h
        refine gx_iconst (v := 1) C dX6_neededMany_20 (by decide) ?_
        refine gx_goto (tgt := 25) C dX6_neededMany_21 (by decide) ?_
        refine gx_sub (lv2 := [some (gx_r (some a0)), none, some (gx_i x2)]) [true, false, true] rfl ?_
        exact gt_X6_neededMany_25 C fu (gm_X6_neededMany_4 fu  n) ih a0 x2 x1 (1 : Int32) X h
def gm_X6_neededMany (fu : Nat) (this : Nat) (X : gx_H) : Option (Int32 × gx_H) :=
  gm_X6_neededMany_4 fu  fu this (0 : Int32) (0 : Int32) X
set_option maxHeartbeats 1000000 in
set_option maxRecDepth 20000 in
theorem gc_X6_neededMany {l : Launch} {D : gx_D} (fu : Nat) (this : Nat) (X : gx_H) (r : Int32) (X2 : gx_H) (h : gm_X6_neededMany fu this X = some (r, X2)) : gx_M D gz_cl gz_at gz_tb gz_nb l yX6_neededMany cX6_neededMany 3 (some .int) 0 0 [gx_r (some this)] X (some (gx_i r)) X2 0 0 := by
  unfold gm_X6_neededMany at h
  refine gx_enter [some (gx_r (some this)), none, none] rfl (by decide) (Nat.le_of_ble_eq_true rfl) ?_
  intro p e s m below meth c C _
  refine gx_iconst (v := 0) C dX6_neededMany_0 (by decide) ?_
  refine gx_istore_n (lv2 := [some (gx_r (some this)), some (gx_i (0 : Int32)), none]) C dX6_neededMany_1 rfl (by decide) rfl ?_
  refine gx_iconst (v := 0) C dX6_neededMany_2 (by decide) ?_
  refine gx_istore_n (lv2 := [some (gx_r (some this)), some (gx_i (0 : Int32)), some (gx_i (0 : Int32))]) C dX6_neededMany_3 rfl (by decide) rfl ?_
  exact gt_X6_neededMany_4 C fu  fu this (0 : Int32) (0 : Int32) X h
theorem dX6_look_0 : decode cX6_look 0 = .ok (.aload_n 0, 1) := by decide +kernel
theorem dX6_look_1 : decode cX6_look 1 = .ok (.iconst 0, 1) := by decide +kernel
theorem dX6_look_2 : decode cX6_look 2 = .ok (.putfield 65, 3) := by decide +kernel
theorem dX6_look_5 : decode cX6_look 5 = .ok (.iload_n 1, 1) := by decide +kernel
theorem dX6_look_6 : decode cX6_look 6 = .ok (.tableswitch 100 0 6 #[42, 47, 52, 59, 72, 78, 95], 42) := by decide +kernel
theorem dX6_look_48 : decode cX6_look 48 = .ok (.aload_n 0, 1) := by decide +kernel
theorem dX6_look_49 : decode cX6_look 49 = .ok (.getfield 7, 3) := by decide +kernel
theorem dX6_look_52 : decode cX6_look 52 = .ok (.ireturn, 1) := by decide +kernel
theorem dX6_look_53 : decode cX6_look 53 = .ok (.aload_n 0, 1) := by decide +kernel
theorem dX6_look_54 : decode cX6_look 54 = .ok (.invokevirtual 146, 3) := by decide +kernel
theorem dX6_look_57 : decode cX6_look 57 = .ok (.ireturn, 1) := by decide +kernel
theorem dX6_look_58 : decode cX6_look 58 = .ok (.aload_n 0, 1) := by decide +kernel
theorem dX6_look_59 : decode cX6_look 59 = .ok (.getfield 21, 3) := by decide +kernel
theorem dX6_look_62 : decode cX6_look 62 = .ok (.iconst 0, 1) := by decide +kernel
theorem dX6_look_63 : decode cX6_look 63 = .ok (.iaload, 1) := by decide +kernel
theorem dX6_look_64 : decode cX6_look 64 = .ok (.ireturn, 1) := by decide +kernel
theorem dX6_look_65 : decode cX6_look 65 = .ok (.aload_n 0, 1) := by decide +kernel
theorem dX6_look_66 : decode cX6_look 66 = .ok (.getfield 68, 3) := by decide +kernel
theorem dX6_look_69 : decode cX6_look 69 = .ok (.ifCond .eq 7, 3) := by decide +kernel
theorem dX6_look_72 : decode cX6_look 72 = .ok (.iconst 1, 1) := by decide +kernel
theorem dX6_look_73 : decode cX6_look 73 = .ok (.goto 4, 3) := by decide +kernel
theorem dX6_look_76 : decode cX6_look 76 = .ok (.iconst 0, 1) := by decide +kernel
theorem dX6_look_77 : decode cX6_look 77 = .ok (.ireturn, 1) := by decide +kernel
theorem dX6_look_78 : decode cX6_look 78 = .ok (.aload_n 0, 1) := by decide +kernel
theorem dX6_look_79 : decode cX6_look 79 = .ok (.iconst 0, 1) := by decide +kernel
theorem dX6_look_80 : decode cX6_look 80 = .ok (.invokevirtual 150, 3) := by decide +kernel
theorem dX6_look_83 : decode cX6_look 83 = .ok (.ireturn, 1) := by decide +kernel
theorem dX6_look_84 : decode cX6_look 84 = .ok (.aload_n 0, 1) := by decide +kernel
theorem dX6_look_85 : decode cX6_look 85 = .ok (.getfield 68, 3) := by decide +kernel
theorem dX6_look_88 : decode cX6_look 88 = .ok (.ifCond .eq 11, 3) := by decide +kernel
theorem dX6_look_91 : decode cX6_look 91 = .ok (.aload_n 0, 1) := by decide +kernel
theorem dX6_look_92 : decode cX6_look 92 = .ok (.iconst 1, 1) := by decide +kernel
theorem dX6_look_93 : decode cX6_look 93 = .ok (.invokevirtual 150, 3) := by decide +kernel
theorem dX6_look_96 : decode cX6_look 96 = .ok (.goto 4, 3) := by decide +kernel
theorem dX6_look_99 : decode cX6_look 99 = .ok (.iconst (-1), 1) := by decide +kernel
theorem dX6_look_100 : decode cX6_look 100 = .ok (.ireturn, 1) := by decide +kernel
theorem dX6_look_101 : decode cX6_look 101 = .ok (.aload_n 0, 1) := by decide +kernel
theorem dX6_look_102 : decode cX6_look 102 = .ok (.invokevirtual 153, 3) := by decide +kernel
theorem dX6_look_105 : decode cX6_look 105 = .ok (.ireturn, 1) := by decide +kernel
theorem dX6_look_106 : decode cX6_look 106 = .ok (.iconst (-1), 1) := by decide +kernel
theorem dX6_look_107 : decode cX6_look 107 = .ok (.ireturn, 1) := by decide +kernel
def gm_X6_look (fu : Nat) (this : Nat) (p_0 : Int32) (X : gx_H) : Option (Int32 × gx_H) :=
  (gx_pf X this 6 0 (.int (0 : Int32))).bind fun X1 =>
  if p_0 = (0 : Int32) then (
  (gx_gi X1 this 6 1).bind fun v3 =>
  some (v3, X1)) else (
  if p_0 = (1 : Int32) then (
  gx_ob X1 this 6 <|
  gx_b2 (gm_X6_wayMany fu this X1) fun v6 X5 =>
  some (v6, X5)) else (
  if p_0 = (2 : Int32) then (
  (gx_gd X1 this 6 4).bind fun a7 =>
  (gx_gai X1 a7 0 (0 : Int32)).bind fun v8 =>
  some (v8, X1)) else (
  if p_0 = (3 : Int32) then (
  (gx_gi X1 this 6 12).bind fun v9 =>
  if v9 = 0 then (
  some ((0 : Int32), X1)) else (
  some ((1 : Int32), X1))) else (
  if p_0 = (4 : Int32) then (
  gx_ob X1 this 6 <|
  gx_b2 (gm_X6_instructions fu this (0 : Int32) X1) fun v13 X12 =>
  some (v13, X12)) else (
  if p_0 = (5 : Int32) then (
  (gx_gi X1 this 6 12).bind fun v14 =>
  if v14 = 0 then (
  some ((-1 : Int32), X1)) else (
  gx_ob X1 this 6 <|
  gx_b2 (gm_X6_instructions fu this (1 : Int32) X1) fun v18 X17 =>
  some (v18, X17))) else (
  if p_0 = (6 : Int32) then (
  gx_ob X1 this 6 <|
  gx_b2 (gm_X6_neededMany fu this X1) fun v21 X20 =>
  some (v21, X20)) else (
  some ((-1 : Int32), X1))))))))
set_option maxHeartbeats 1000000 in
set_option maxRecDepth 20000 in
theorem gc_X6_look {l : Launch} {D : gx_D} (fu : Nat) (this : Nat) (p_0 : Int32) (X : gx_H) (r : Int32) (X2 : gx_H) (h : gm_X6_look fu this p_0 X = some (r, X2)) : gx_M D gz_cl gz_at gz_tb gz_nb l yX6_look cX6_look 2 (some .int) 1 23 [gx_r (some this), gx_i p_0] X (some (gx_i r)) X2 0 0 := by
  unfold gm_X6_look at h
  refine gx_enter [some (gx_r (some this)), some (gx_i p_0)] rfl (by decide) (Nat.le_of_ble_eq_true rfl) ?_
  intro p e s m below meth c C _
  refine gx_aload_n C dX6_look_0 rfl rfl ?_
  refine gx_iconst (v := 0) C dX6_look_1 (by decide) ?_
  obtain ⟨X1, eX1, h⟩ := gx_bd h
  refine gx_put C kcX6 0 (by decide) rfl wl_497 ⟨rfl, rfl⟩ eX1 dX6_look_2 ?_
  refine gx_iload_n C dX6_look_5 rfl rfl ?_
  by_cases q2_0 : p_0 = (0 : Int32)
  · rw [if_pos q2_0] at h
    refine gx_swIn (tgt := 48) (off := 42) C dX6_look_6 (by rw [q2_0]; decide) (by rw [q2_0]; decide) (by rw [q2_0]; decide) (by decide) ?_
    refine gx_aload_n C dX6_look_48 rfl rfl ?_
    obtain ⟨v3, ev3, h⟩ := gx_bd h
    refine gx_get C kcX6 1 (by decide) wl_498 (gx_gi_s ev3) dX6_look_49 ?_
    cases h
    exact gx_iret C dX6_look_52
  rw [if_neg q2_0] at h
  by_cases q2_1 : p_0 = (1 : Int32)
  · rw [if_pos q2_1] at h
    refine gx_swIn (tgt := 53) (off := 47) C dX6_look_6 (by rw [q2_1]; decide) (by rw [q2_1]; decide) (by rw [q2_1]; decide) (by decide) ?_
    refine gx_aload_n C dX6_look_53 rfl rfl ?_
    obtain ⟨ho4, h⟩ := gx_obs h
    obtain ⟨v6, X5, eX5, h⟩ := gx_bd2 h
    refine gx_callV (As := []) (st := []) (stk2 := [gx_i v6]) C cd_X6_wayMany wl_703 ws_X6_wayMany wl_701 rfl ho4 (gc_X6_wayMany fu this X1 v6 X5 eX5) rfl ⟨Nat.le_of_ble_eq_true rfl, Nat.le_of_ble_eq_true rfl⟩ ⟨Nat.le_of_ble_eq_true rfl, Nat.le_of_ble_eq_true rfl⟩ (Nat.le_of_ble_eq_true rfl) rfl rfl dX6_look_54 ?_
    cases h
    exact gx_iret C dX6_look_57
  rw [if_neg q2_1] at h
  by_cases q2_2 : p_0 = (2 : Int32)
  · rw [if_pos q2_2] at h
    refine gx_swIn (tgt := 58) (off := 52) C dX6_look_6 (by rw [q2_2]; decide) (by rw [q2_2]; decide) (by rw [q2_2]; decide) (by decide) ?_
    refine gx_aload_n C dX6_look_58 rfl rfl ?_
    obtain ⟨a7, ea7, h⟩ := gx_bd h
    refine gx_get C kcX6 4 (by decide) wl_501 (gx_gd_s ea7) dX6_look_59 ?_
    refine gx_iconst (v := 0) C dX6_look_62 (by decide) ?_
    obtain ⟨v8, ev8, h⟩ := gx_bd h
    refine gx_iald C (t := 0) rfl ev8 dX6_look_63 ?_
    cases h
    exact gx_iret C dX6_look_64
  rw [if_neg q2_2] at h
  by_cases q2_3 : p_0 = (3 : Int32)
  · rw [if_pos q2_3] at h
    refine gx_swIn (tgt := 65) (off := 59) C dX6_look_6 (by rw [q2_3]; decide) (by rw [q2_3]; decide) (by rw [q2_3]; decide) (by decide) ?_
    refine gx_aload_n C dX6_look_65 rfl rfl ?_
    obtain ⟨v9, ev9, h⟩ := gx_bd h
    refine gx_get C kcX6 12 (by decide) wl_509 (gx_gi_s ev9) dX6_look_66 ?_
    refine gx_if_eq (tgt := 76) C dX6_look_69 (by decide) (fun q10 => ?_) (fun q10 => ?_)
    · rw [if_pos q10] at h
      refine gx_iconst (v := 0) C dX6_look_76 (by decide) ?_
      cases h
      exact gx_iret C dX6_look_77
    · rw [if_neg q10] at h
      refine gx_iconst (v := 1) C dX6_look_72 (by decide) ?_
      refine gx_goto (tgt := 77) C dX6_look_73 (by decide) ?_
      cases h
      exact gx_iret C dX6_look_77
  rw [if_neg q2_3] at h
  by_cases q2_4 : p_0 = (4 : Int32)
  · rw [if_pos q2_4] at h
    refine gx_swIn (tgt := 78) (off := 72) C dX6_look_6 (by rw [q2_4]; decide) (by rw [q2_4]; decide) (by rw [q2_4]; decide) (by decide) ?_
    refine gx_aload_n C dX6_look_78 rfl rfl ?_
    refine gx_iconst (v := 0) C dX6_look_79 (by decide) ?_
    obtain ⟨ho11, h⟩ := gx_obs h
    obtain ⟨v13, X12, eX12, h⟩ := gx_bd2 h
    refine gx_callV (As := [gx_i (0 : Int32)]) (st := []) (stk2 := [gx_i v13]) C cd_X6_instructions wl_707 ws_X6_instructions wl_705 rfl ho11 (gc_X6_instructions fu this (0 : Int32) X1 v13 X12 eX12) rfl ⟨Nat.le_of_ble_eq_true rfl, Nat.le_of_ble_eq_true rfl⟩ ⟨Nat.le_of_ble_eq_true rfl, Nat.le_of_ble_eq_true rfl⟩ (Nat.le_of_ble_eq_true rfl) rfl rfl dX6_look_80 ?_
    cases h
    exact gx_iret C dX6_look_83
  rw [if_neg q2_4] at h
  by_cases q2_5 : p_0 = (5 : Int32)
  · rw [if_pos q2_5] at h
    refine gx_swIn (tgt := 84) (off := 78) C dX6_look_6 (by rw [q2_5]; decide) (by rw [q2_5]; decide) (by rw [q2_5]; decide) (by decide) ?_
    refine gx_aload_n C dX6_look_84 rfl rfl ?_
    obtain ⟨v14, ev14, h⟩ := gx_bd h
    refine gx_get C kcX6 12 (by decide) wl_509 (gx_gi_s ev14) dX6_look_85 ?_
    refine gx_if_eq (tgt := 99) C dX6_look_88 (by decide) (fun q15 => ?_) (fun q15 => ?_)
    · rw [if_pos q15] at h
      refine gx_iconst (v := -1) C dX6_look_99 (by decide) ?_
      cases h
      exact gx_iret C dX6_look_100
    · rw [if_neg q15] at h
      refine gx_aload_n C dX6_look_91 rfl rfl ?_
      refine gx_iconst (v := 1) C dX6_look_92 (by decide) ?_
      obtain ⟨ho16, h⟩ := gx_obs h
      obtain ⟨v18, X17, eX17, h⟩ := gx_bd2 h
      refine gx_callV (As := [gx_i (1 : Int32)]) (st := []) (stk2 := [gx_i v18]) C cd_X6_instructions wl_707 ws_X6_instructions wl_705 rfl ho16 (gc_X6_instructions fu this (1 : Int32) X1 v18 X17 eX17) rfl ⟨Nat.le_of_ble_eq_true rfl, Nat.le_of_ble_eq_true rfl⟩ ⟨Nat.le_of_ble_eq_true rfl, Nat.le_of_ble_eq_true rfl⟩ (Nat.le_of_ble_eq_true rfl) rfl rfl dX6_look_93 ?_
      refine gx_goto (tgt := 100) C dX6_look_96 (by decide) ?_
      cases h
      exact gx_iret C dX6_look_100
  rw [if_neg q2_5] at h
  by_cases q2_6 : p_0 = (6 : Int32)
  · rw [if_pos q2_6] at h
    refine gx_swIn (tgt := 101) (off := 95) C dX6_look_6 (by rw [q2_6]; decide) (by rw [q2_6]; decide) (by rw [q2_6]; decide) (by decide) ?_
    refine gx_aload_n C dX6_look_101 rfl rfl ?_
    obtain ⟨ho19, h⟩ := gx_obs h
    obtain ⟨v21, X20, eX20, h⟩ := gx_bd2 h
    refine gx_callV (As := []) (st := []) (stk2 := [gx_i v21]) C cd_X6_neededMany wl_711 ws_X6_neededMany wl_709 rfl ho19 (gc_X6_neededMany fu this X1 v21 X20 eX20) rfl ⟨Nat.le_of_ble_eq_true rfl, Nat.le_of_ble_eq_true rfl⟩ ⟨Nat.le_of_ble_eq_true rfl, Nat.le_of_ble_eq_true rfl⟩ (Nat.le_of_ble_eq_true rfl) rfl rfl dX6_look_102 ?_
    cases h
    exact gx_iret C dX6_look_105
  rw [if_neg q2_6] at h
  refine gx_swOut (tgt := 106) C dX6_look_6 (by have n0 := lv_neT q2_0 (a := 0) (by decide); have n1 := lv_neT q2_1 (a := 1) (by decide); have n2 := lv_neT q2_2 (a := 2) (by decide); have n3 := lv_neT q2_3 (a := 3) (by decide); have n4 := lv_neT q2_4 (a := 4) (by decide); have n5 := lv_neT q2_5 (a := 5) (by decide); have n6 := lv_neT q2_6 (a := 6) (by decide); omega) (by decide) ?_
  refine gx_iconst (v := -1) C dX6_look_106 (by decide) ?_
  cases h
  exact gx_iret C dX6_look_107
theorem dX6_which_0 : decode cX6_which 0 = .ok (.iload_n 1, 1) := by decide +kernel
theorem dX6_which_1 : decode cX6_which 1 = .ok (.ifCond .eq 7, 3) := by decide +kernel
theorem dX6_which_4 : decode cX6_which 4 = .ok (.iconst 1, 1) := by decide +kernel
theorem dX6_which_5 : decode cX6_which 5 = .ok (.goto 4, 3) := by decide +kernel
theorem dX6_which_8 : decode cX6_which 8 = .ok (.iconst 0, 1) := by decide +kernel
theorem dX6_which_9 : decode cX6_which 9 = .ok (.istore 4, 2) := by decide +kernel
theorem dX6_which_11 : decode cX6_which 11 = .ok (.iload_n 1, 1) := by decide +kernel
theorem dX6_which_12 : decode cX6_which 12 = .ok (.ifCond .eq 10, 3) := by decide +kernel
theorem dX6_which_15 : decode cX6_which 15 = .ok (.aload_n 0, 1) := by decide +kernel
theorem dX6_which_16 : decode cX6_which 16 = .ok (.getfield 68, 3) := by decide +kernel
theorem dX6_which_19 : decode cX6_which 19 = .ok (.ifCond .eq 14, 3) := by decide +kernel
theorem dX6_which_22 : decode cX6_which 22 = .ok (.aload_n 0, 1) := by decide +kernel
theorem dX6_which_23 : decode cX6_which 23 = .ok (.iload 4, 2) := by decide +kernel
theorem dX6_which_25 : decode cX6_which 25 = .ok (.iload_n 2, 1) := by decide +kernel
theorem dX6_which_26 : decode cX6_which 26 = .ok (.iload_n 3, 1) := by decide +kernel
theorem dX6_which_27 : decode cX6_which 27 = .ok (.invokevirtual 87, 3) := by decide +kernel
theorem dX6_which_30 : decode cX6_which 30 = .ok (.ifCond .ne 7, 3) := by decide +kernel
theorem dX6_which_33 : decode cX6_which 33 = .ok (.iconst (-1), 1) := by decide +kernel
theorem dX6_which_34 : decode cX6_which 34 = .ok (.goto 5, 3) := by decide +kernel
theorem dX6_which_37 : decode cX6_which 37 = .ok (.iload 4, 2) := by decide +kernel
theorem dX6_which_39 : decode cX6_which 39 = .ok (.ireturn, 1) := by decide +kernel
def gm_X6_which_33 (fu : Nat)  (X : gx_H) : Option (Int32 × gx_H) :=
  some ((-1 : Int32), X)
set_option maxHeartbeats 1000000 in
set_option maxRecDepth 20000 in
theorem gt_X6_which_33 {p : Program} {l : Launch} {e : Env} {s : State} {m : MethodId} {args : Array Value} {below : List Frame} {meth : Method} {c : Code} {D : gx_D} {r : Int32} {X2 : gx_H}  (C : gx_C D gz_cl gz_at gz_tb gz_nb p s m meth c cX6_which 5 RX6 (some .int)) (fu : Nat)  (X : gx_H) (h : gm_X6_which_33 fu   X = some (r, X2)) : gx_W D gz_cl 5 p l e (gx_rm 1 23 0 0) s m args below meth c 0 0 (MQ below (gx_Q D gz_cl (some (gx_i r)) X2) args s 0 0 (gx_Z D)) X 33 [none, none, none, none, none] [] := by
  unfold gm_X6_which_33 at h
  refine gx_iconst (v := -1) C dX6_which_33 (by decide) ?_
  refine gx_goto (tgt := 39) C dX6_which_34 (by decide) ?_
  cases h
  exact gx_iret C dX6_which_39
def gm_X6_which_22 (fu : Nat) (a0 : Nat) (x2 : Int32) (x3 : Int32) (x4 : Int32) (X : gx_H) : Option (Int32 × gx_H) :=
  gx_ob X a0 6 <|
  gx_b2 (gm_X6_isThere fu a0 x4 x2 x3 X) fun v3 X2 =>
  if v3 = 0 then (
  gm_X6_which_33 fu   X2) else (
  some (x4, X2))
set_option maxHeartbeats 1000000 in
set_option maxRecDepth 20000 in
theorem gt_X6_which_22 {p : Program} {l : Launch} {e : Env} {s : State} {m : MethodId} {args : Array Value} {below : List Frame} {meth : Method} {c : Code} {D : gx_D} {r : Int32} {X2 : gx_H}  (C : gx_C D gz_cl gz_at gz_tb gz_nb p s m meth c cX6_which 5 RX6 (some .int)) (fu : Nat) (a0 : Nat) (x2 : Int32) (x3 : Int32) (x4 : Int32) (X : gx_H) (h : gm_X6_which_22 fu  a0 x2 x3 x4 X = some (r, X2)) : gx_W D gz_cl 5 p l e (gx_rm 1 23 0 0) s m args below meth c 0 0 (MQ below (gx_Q D gz_cl (some (gx_i r)) X2) args s 0 0 (gx_Z D)) X 22 [some (gx_r (some a0)), none, some (gx_i x2), some (gx_i x3), some (gx_i x4)] [] := by
  unfold gm_X6_which_22 at h
  refine gx_aload_n C dX6_which_22 rfl rfl ?_
  refine gx_iload C dX6_which_23 rfl ?_
  refine gx_iload_n C dX6_which_25 rfl rfl ?_
  refine gx_iload_n C dX6_which_26 rfl rfl ?_
  obtain ⟨ho1, h⟩ := gx_obs h
  obtain ⟨v3, X2, eX2, h⟩ := gx_bd2 h
  refine gx_callV (As := [gx_i x4, gx_i x2, gx_i x3]) (st := []) (stk2 := [gx_i v3]) C cd_X6_isThere wl_599 ws_X6_isThere wl_597 rfl ho1 (gc_X6_isThere fu a0 x4 x2 x3 X v3 X2 eX2) rfl ⟨Nat.le_of_ble_eq_true rfl, Nat.le_of_ble_eq_true rfl⟩ ⟨Nat.le_of_ble_eq_true rfl, Nat.le_of_ble_eq_true rfl⟩ (Nat.le_of_ble_eq_true rfl) rfl rfl dX6_which_27 ?_
  refine gx_if_ne (tgt := 37) C dX6_which_30 (by decide) (fun q4 => ?_) (fun q4 => ?_)
  · rw [if_neg q4] at h
    refine gx_iload C dX6_which_37 rfl ?_
    cases h
    exact gx_iret C dX6_which_39
  · rw [if_pos q4] at h
    refine gx_sub (lv2 := [none, none, none, none, none]) [false, false, false, false, false] rfl ?_
    exact gt_X6_which_33 C fu   X2 h
def gm_X6_which_9 (fu : Nat) (a0 : Nat) (x1 : Int32) (x2 : Int32) (x3 : Int32) (sx0 : Int32) (X : gx_H) : Option (Int32 × gx_H) :=
  if x1 = 0 then (
  gm_X6_which_22 fu  a0 x2 x3 sx0 X) else (
  (gx_gi X a0 6 12).bind fun v6 =>
  if v6 = 0 then (
  gm_X6_which_33 fu   X) else (
  gm_X6_which_22 fu  a0 x2 x3 sx0 X))
set_option maxHeartbeats 1000000 in
set_option maxRecDepth 20000 in
theorem gt_X6_which_9 {p : Program} {l : Launch} {e : Env} {s : State} {m : MethodId} {args : Array Value} {below : List Frame} {meth : Method} {c : Code} {D : gx_D} {r : Int32} {X2 : gx_H}  (C : gx_C D gz_cl gz_at gz_tb gz_nb p s m meth c cX6_which 5 RX6 (some .int)) (fu : Nat) (a0 : Nat) (x1 : Int32) (x2 : Int32) (x3 : Int32) (sx0 : Int32) (X : gx_H) (h : gm_X6_which_9 fu  a0 x1 x2 x3 sx0 X = some (r, X2)) : gx_W D gz_cl 5 p l e (gx_rm 1 23 0 0) s m args below meth c 0 0 (MQ below (gx_Q D gz_cl (some (gx_i r)) X2) args s 0 0 (gx_Z D)) X 9 [some (gx_r (some a0)), some (gx_i x1), some (gx_i x2), some (gx_i x3), none] [gx_i sx0] := by
  unfold gm_X6_which_9 at h
  refine gx_istore (lv2 := [some (gx_r (some a0)), some (gx_i x1), some (gx_i x2), some (gx_i x3), some (gx_i sx0)]) C dX6_which_9 (by decide) rfl ?_
  refine gx_iload_n C dX6_which_11 rfl rfl ?_
  refine gx_if_eq (tgt := 22) C dX6_which_12 (by decide) (fun q5 => ?_) (fun q5 => ?_)
  · rw [if_pos q5] at h
    refine gx_sub (lv2 := [some (gx_r (some a0)), none, some (gx_i x2), some (gx_i x3), some (gx_i sx0)]) [true, false, true, true, true] rfl ?_
    exact gt_X6_which_22 C fu  a0 x2 x3 sx0 X h
  · rw [if_neg q5] at h
    refine gx_aload_n C dX6_which_15 rfl rfl ?_
    obtain ⟨v6, ev6, h⟩ := gx_bd h
    refine gx_get C kcX6 12 (by decide) wl_509 (gx_gi_s ev6) dX6_which_16 ?_
    refine gx_if_eq (tgt := 33) C dX6_which_19 (by decide) (fun q7 => ?_) (fun q7 => ?_)
    · rw [if_pos q7] at h
      refine gx_sub (lv2 := [none, none, none, none, none]) [false, false, false, false, false] rfl ?_
      exact gt_X6_which_33 C fu   X h
    · rw [if_neg q7] at h
      refine gx_sub (lv2 := [some (gx_r (some a0)), none, some (gx_i x2), some (gx_i x3), some (gx_i sx0)]) [true, false, true, true, true] rfl ?_
      exact gt_X6_which_22 C fu  a0 x2 x3 sx0 X h
def gm_X6_which (fu : Nat) (this : Nat) (p_0 : Int32) (p_1 : Int32) (p_2 : Int32) (X : gx_H) : Option (Int32 × gx_H) :=
  if p_0 = 0 then (
  gm_X6_which_9 fu  this p_0 p_1 p_2 (0 : Int32) X) else (
  gm_X6_which_9 fu  this p_0 p_1 p_2 (1 : Int32) X)
set_option maxHeartbeats 1000000 in
set_option maxRecDepth 20000 in
theorem gc_X6_which {l : Launch} {D : gx_D} (fu : Nat) (this : Nat) (p_0 : Int32) (p_1 : Int32) (p_2 : Int32) (X : gx_H) (r : Int32) (X2 : gx_H) (h : gm_X6_which fu this p_0 p_1 p_2 X = some (r, X2)) : gx_M D gz_cl gz_at gz_tb gz_nb l yX6_which cX6_which 5 (some .int) 1 23 [gx_r (some this), gx_i p_0, gx_i p_1, gx_i p_2] X (some (gx_i r)) X2 0 0 := by
  unfold gm_X6_which at h
  refine gx_enter [some (gx_r (some this)), some (gx_i p_0), some (gx_i p_1), some (gx_i p_2), none] rfl (by decide) (Nat.le_of_ble_eq_true rfl) ?_
  intro p e s m below meth c C _
  refine gx_iload_n C dX6_which_0 rfl rfl ?_
  refine gx_if_eq (tgt := 8) C dX6_which_1 (by decide) (fun q8 => ?_) (fun q8 => ?_)
  · rw [if_pos q8] at h
    refine gx_iconst (v := 0) C dX6_which_8 (by decide) ?_
    exact gt_X6_which_9 C fu  this p_0 p_1 p_2 (0 : Int32) X h
  · rw [if_neg q8] at h
    refine gx_iconst (v := 1) C dX6_which_4 (by decide) ?_
    refine gx_goto (tgt := 9) C dX6_which_5 (by decide) ?_
    exact gt_X6_which_9 C fu  this p_0 p_1 p_2 (1 : Int32) X h
theorem dX6_may_0 : decode cX6_may 0 = .ok (.aload_n 0, 1) := by decide +kernel
theorem dX6_may_1 : decode cX6_may 1 = .ok (.iconst 0, 1) := by decide +kernel
theorem dX6_may_2 : decode cX6_may 2 = .ok (.putfield 65, 3) := by decide +kernel
theorem dX6_may_5 : decode cX6_may 5 = .ok (.aload_n 0, 1) := by decide +kernel
theorem dX6_may_6 : decode cX6_may 6 = .ok (.iload_n 1, 1) := by decide +kernel
theorem dX6_may_7 : decode cX6_may 7 = .ok (.iload_n 2, 1) := by decide +kernel
theorem dX6_may_8 : decode cX6_may 8 = .ok (.iload_n 3, 1) := by decide +kernel
theorem dX6_may_9 : decode cX6_may 9 = .ok (.invokevirtual 132, 3) := by decide +kernel
theorem dX6_may_12 : decode cX6_may 12 = .ok (.istore 4, 2) := by decide +kernel
theorem dX6_may_14 : decode cX6_may 14 = .ok (.iload 4, 2) := by decide +kernel
theorem dX6_may_16 : decode cX6_may 16 = .ok (.iconst (-1), 1) := by decide +kernel
theorem dX6_may_17 : decode cX6_may 17 = .ok (.if_icmp .ne 5, 3) := by decide +kernel
theorem dX6_may_20 : decode cX6_may 20 = .ok (.lconst 0, 1) := by decide +kernel
theorem dX6_may_21 : decode cX6_may 21 = .ok (.lreturn, 1) := by decide +kernel
theorem dX6_may_22 : decode cX6_may 22 = .ok (.aload_n 0, 1) := by decide +kernel
theorem dX6_may_23 : decode cX6_may 23 = .ok (.iload 4, 2) := by decide +kernel
theorem dX6_may_25 : decode cX6_may 25 = .ok (.invokevirtual 115, 3) := by decide +kernel
theorem dX6_may_28 : decode cX6_may 28 = .ok (.aload_n 0, 1) := by decide +kernel
theorem dX6_may_29 : decode cX6_may 29 = .ok (.getfield 49, 3) := by decide +kernel
theorem dX6_may_32 : decode cX6_may 32 = .ok (.sipush 1600, 3) := by decide +kernel
theorem dX6_may_35 : decode cX6_may 35 = .ok (.iload 4, 2) := by decide +kernel
theorem dX6_may_37 : decode cX6_may 37 = .ok (.imul, 1) := by decide +kernel
theorem dX6_may_38 : decode cX6_may 38 = .ok (.sipush 200, 3) := by decide +kernel
theorem dX6_may_41 : decode cX6_may 41 = .ok (.iload_n 2, 1) := by decide +kernel
theorem dX6_may_42 : decode cX6_may 42 = .ok (.imul, 1) := by decide +kernel
theorem dX6_may_43 : decode cX6_may 43 = .ok (.iadd, 1) := by decide +kernel
theorem dX6_may_44 : decode cX6_may 44 = .ok (.iload_n 3, 1) := by decide +kernel
theorem dX6_may_45 : decode cX6_may 45 = .ok (.iadd, 1) := by decide +kernel
theorem dX6_may_46 : decode cX6_may 46 = .ok (.laload, 1) := by decide +kernel
theorem dX6_may_47 : decode cX6_may 47 = .ok (.lreturn, 1) := by decide +kernel
def gm_X6_may (fu : Nat) (this : Nat) (p_0 : Int32) (p_1 : Int32) (p_2 : Int32) (X : gx_H) : Option (Int64 × gx_H) :=
  (gx_pf X this 6 0 (.int (0 : Int32))).bind fun X1 =>
  gx_ob X1 this 6 <|
  gx_b2 (gm_X6_which fu this p_0 p_1 p_2 X1) fun v4 X3 =>
  if v4 = (-1 : Int32) then (
  some ((0 : Int64), X3)) else (
  gx_ob X3 this 6 <|
  (gm_X6_find fu this v4 X3).bind fun X7 =>
  (gx_gd X7 this 6 14).bind fun a8 =>
  (gx_gal X7 a8 1 ((((1600 : Int32) * v4) + ((200 : Int32) * p_1)) + p_2)).bind fun v9 =>
  some (v9, X7))
set_option maxHeartbeats 1000000 in
set_option maxRecDepth 20000 in
theorem gc_X6_may {l : Launch} {D : gx_D} (fu : Nat) (this : Nat) (p_0 : Int32) (p_1 : Int32) (p_2 : Int32) (X : gx_H) (r : Int64) (X2 : gx_H) (h : gm_X6_may fu this p_0 p_1 p_2 X = some (r, X2)) : gx_M D gz_cl gz_at gz_tb gz_nb l yX6_may cX6_may 5 (some .long) 4 106 [gx_r (some this), gx_i p_0, gx_i p_1, gx_i p_2] X (some (gx_l r)) X2 0 0 := by
  unfold gm_X6_may at h
  refine gx_enter [some (gx_r (some this)), some (gx_i p_0), some (gx_i p_1), some (gx_i p_2), none] rfl (by decide) (Nat.le_of_ble_eq_true rfl) ?_
  intro p e s m below meth c C _
  refine gx_aload_n C dX6_may_0 rfl rfl ?_
  refine gx_iconst (v := 0) C dX6_may_1 (by decide) ?_
  obtain ⟨X1, eX1, h⟩ := gx_bd h
  refine gx_put C kcX6 0 (by decide) rfl wl_497 ⟨rfl, rfl⟩ eX1 dX6_may_2 ?_
  refine gx_aload_n C dX6_may_5 rfl rfl ?_
  refine gx_iload_n C dX6_may_6 rfl rfl ?_
  refine gx_iload_n C dX6_may_7 rfl rfl ?_
  refine gx_iload_n C dX6_may_8 rfl rfl ?_
  obtain ⟨ho2, h⟩ := gx_obs h
  obtain ⟨v4, X3, eX3, h⟩ := gx_bd2 h
  refine gx_callV (As := [gx_i p_0, gx_i p_1, gx_i p_2]) (st := []) (stk2 := [gx_i v4]) C cd_X6_which wl_667 ws_X6_which wl_665 rfl ho2 (gc_X6_which fu this p_0 p_1 p_2 X1 v4 X3 eX3) rfl ⟨Nat.le_of_ble_eq_true rfl, Nat.le_of_ble_eq_true rfl⟩ ⟨Nat.le_of_ble_eq_true rfl, Nat.le_of_ble_eq_true rfl⟩ (Nat.le_of_ble_eq_true rfl) rfl rfl dX6_may_9 ?_
  refine gx_istore (lv2 := [some (gx_r (some this)), some (gx_i p_0), some (gx_i p_1), some (gx_i p_2), some (gx_i v4)]) C dX6_may_12 (by decide) rfl ?_
  refine gx_iload C dX6_may_14 rfl ?_
  refine gx_iconst (v := -1) C dX6_may_16 (by decide) ?_
  refine gx_icmp_ne (tgt := 22) C dX6_may_17 (by decide) (fun q5 => ?_) (fun q5 => ?_)
  · rw [if_neg q5] at h
    refine gx_aload_n C dX6_may_22 rfl rfl ?_
    refine gx_iload C dX6_may_23 rfl ?_
    obtain ⟨ho6, h⟩ := gx_obs h
    obtain ⟨X7, eX7, h⟩ := gx_bd h
    refine gx_callV (As := [gx_i v4]) (st := []) (stk2 := []) C cd_X6_find wl_627 ws_X6_find wl_625 rfl ho6 (gc_X6_find fu this v4 X3 X7 eX7) rfl ⟨Nat.le_of_ble_eq_true rfl, Nat.le_of_ble_eq_true rfl⟩ ⟨Nat.le_of_ble_eq_true rfl, Nat.le_of_ble_eq_true rfl⟩ (Nat.le_of_ble_eq_true rfl) rfl rfl dX6_may_25 ?_
    refine gx_aload_n C dX6_may_28 rfl rfl ?_
    obtain ⟨a8, ea8, h⟩ := gx_bd h
    refine gx_get C kcX6 14 (by decide) wl_511 (gx_gd_s ea8) dX6_may_29 ?_
    refine gx_sipush (v := 1600) C dX6_may_32 (by decide) ?_
    refine gx_iload C dX6_may_35 rfl ?_
    refine gx_imul C dX6_may_37 ?_
    refine gx_sipush (v := 200) C dX6_may_38 (by decide) ?_
    refine gx_iload_n C dX6_may_41 rfl rfl ?_
    refine gx_imul C dX6_may_42 ?_
    refine gx_iadd C dX6_may_43 ?_
    refine gx_iload_n C dX6_may_44 rfl rfl ?_
    refine gx_iadd C dX6_may_45 ?_
    obtain ⟨v9, ev9, h⟩ := gx_bd h
    refine gx_lald C (t := 1) rfl ev9 dX6_may_46 ?_
    cases h
    exact gx_lret C dX6_may_47
  · rw [if_pos q5] at h
    refine gx_lconst (v := 0) C dX6_may_20 (by decide) ?_
    cases h
    exact gx_lret C dX6_may_21
