/-! methods: X6_always, X6_begin, X6_below, X6_bits, X6_isState, X6_canWay, X6_isGoal, X6_isGuarded, X6_join, X6_wayAt -/
theorem dX6_always_0 : decode cX6_always 0 = .ok (.aload_n 0, 1) := by decide +kernel
theorem dX6_always_1 : decode cX6_always 1 = .ok (.iconst 0, 1) := by decide +kernel
theorem dX6_always_2 : decode cX6_always 2 = .ok (.putfield 65, 3) := by decide +kernel
theorem dX6_always_5 : decode cX6_always 5 = .ok (.iload_n 1, 1) := by decide +kernel
theorem dX6_always_6 : decode cX6_always 6 = .ok (.ifCond .lt 19, 3) := by decide +kernel
theorem dX6_always_9 : decode cX6_always 9 = .ok (.iload_n 1, 1) := by decide +kernel
theorem dX6_always_10 : decode cX6_always 10 = .ok (.bipush 15, 2) := by decide +kernel
theorem dX6_always_12 : decode cX6_always 12 = .ok (.if_icmp .gt 13, 3) := by decide +kernel
theorem dX6_always_15 : decode cX6_always 15 = .ok (.aload_n 0, 1) := by decide +kernel
theorem dX6_always_16 : decode cX6_always 16 = .ok (.getfield 18, 3) := by decide +kernel
theorem dX6_always_19 : decode cX6_always 19 = .ok (.iload_n 1, 1) := by decide +kernel
theorem dX6_always_20 : decode cX6_always 20 = .ok (.baload, 1) := by decide +kernel
theorem dX6_always_21 : decode cX6_always 21 = .ok (.iload_n 2, 1) := by decide +kernel
theorem dX6_always_22 : decode cX6_always 22 = .ok (.if_icmp .ne 5, 3) := by decide +kernel
theorem dX6_always_25 : decode cX6_always 25 = .ok (.iconst 0, 1) := by decide +kernel
theorem dX6_always_26 : decode cX6_always 26 = .ok (.ireturn, 1) := by decide +kernel
theorem dX6_always_27 : decode cX6_always 27 = .ok (.aload_n 0, 1) := by decide +kernel
theorem dX6_always_28 : decode cX6_always 28 = .ok (.invokevirtual 76, 3) := by decide +kernel
theorem dX6_always_31 : decode cX6_always 31 = .ok (.aload_n 0, 1) := by decide +kernel
theorem dX6_always_32 : decode cX6_always 32 = .ok (.getfield 18, 3) := by decide +kernel
theorem dX6_always_35 : decode cX6_always 35 = .ok (.iload_n 1, 1) := by decide +kernel
theorem dX6_always_36 : decode cX6_always 36 = .ok (.iload_n 2, 1) := by decide +kernel
theorem dX6_always_37 : decode cX6_always 37 = .ok (.bastore, 1) := by decide +kernel
theorem dX6_always_38 : decode cX6_always 38 = .ok (.iconst 1, 1) := by decide +kernel
theorem dX6_always_39 : decode cX6_always 39 = .ok (.ireturn, 1) := by decide +kernel
def gm_X6_always (fu : Nat) (this : Nat) (p_0 : Int32) (p_1 : Int32) (X : gx_H) : Option (Int32 × gx_H) :=
  (gx_pf X this 6 0 (.int (0 : Int32))).bind fun Xz1 =>
  if p_0 < 0 then (
  some ((0 : Int32), Xz1)) else (
  if (15 : Int32) < p_0 then (
  some ((0 : Int32), Xz1)) else (
  (gx_gd Xz1 this 6 3).bind fun az4 =>
  (gx_gai Xz1 az4 2 p_0).bind fun vz5 =>
  if vz5 = p_1 then (
  some ((0 : Int32), Xz1)) else (
  gx_ob Xz1 this 6 <|
  (gm_X6_change fu this Xz1).bind fun Xz8 =>
  (gx_gd Xz8 this 6 3).bind fun az9 =>
  (gx_pai Xz8 az9 2 p_0 (vp_nar .boolean p_1)).bind fun Xz10 =>
  some ((1 : Int32), Xz10))))
set_option maxHeartbeats 1000000 in
set_option maxRecDepth 20000 in
theorem gc_X6_always {l : Launch} {D : gx_D} (fu : Nat) (this : Nat) (p_0 : Int32) (p_1 : Int32) (X : gx_H) (r : Int32) (X2 : gx_H) (h : gm_X6_always fu this p_0 p_1 X = some (r, X2)) : gx_M D gz_cl gz_at gz_tb gz_nb l yX6_always cX6_always 3 (some .boolean) 1 20 [gx_r (some this), gx_i p_0, gx_i p_1] X (some (gx_i r)) X2 0 0 := by
  unfold gm_X6_always at h
  refine gx_enter [some (gx_r (some this)), some (gx_i p_0), some (gx_i p_1)] rfl (by decide) (Nat.le_of_ble_eq_true rfl) ?_
  intro p e s m below meth c C _
  refine gx_aload_n C dX6_always_0 rfl rfl ?_
  refine gx_iconst (v := 0) C dX6_always_1 (by decide) ?_
  obtain ⟨Xz1, eXz1, h⟩ := gx_bd h
  refine gx_put C kcX6 0 (by decide) rfl wl_497 ⟨rfl, rfl⟩ eXz1 dX6_always_2 ?_
  refine gx_iload_n C dX6_always_5 rfl rfl ?_
  refine gx_if_lt (tgt := 25) C dX6_always_6 (by decide) (fun qz2 => ?_) (fun qz2 => ?_)
  · rw [if_pos qz2] at h
    refine gx_iconst (v := 0) C dX6_always_25 (by decide) ?_
    cases h
    exact gx_zret (Or.inl rfl) C dX6_always_26
  · rw [if_neg qz2] at h
    refine gx_iload_n C dX6_always_9 rfl rfl ?_
    refine gx_bipush (v := 15) C dX6_always_10 (by decide) ?_
    refine gx_icmp_gt (tgt := 25) C dX6_always_12 (by decide) (fun qz3 => ?_) (fun qz3 => ?_)
    · rw [if_pos qz3] at h
      refine gx_iconst (v := 0) C dX6_always_25 (by decide) ?_
      cases h
      exact gx_zret (Or.inl rfl) C dX6_always_26
    · rw [if_neg qz3] at h
      refine gx_aload_n C dX6_always_15 rfl rfl ?_
      obtain ⟨az4, eaz4, h⟩ := gx_bd h
      refine gx_get C kcX6 3 (by decide) wl_500 (gx_gd_s eaz4) dX6_always_16 ?_
      refine gx_iload_n C dX6_always_19 rfl rfl ?_
      obtain ⟨vz5, evz5, h⟩ := gx_bd h
      refine gx_zald C (t := 2) rfl evz5 dX6_always_20 ?_
      refine gx_iload_n C dX6_always_21 rfl rfl ?_
      refine gx_icmp_ne (tgt := 27) C dX6_always_22 (by decide) (fun qz6 => ?_) (fun qz6 => ?_)
      · rw [if_neg qz6] at h
        refine gx_aload_n C dX6_always_27 rfl rfl ?_
        obtain ⟨hoz7, h⟩ := gx_obs h
        obtain ⟨Xz8, eXz8, h⟩ := gx_bd h
        refine gx_callV (As := []) (st := []) (stk2 := []) C cd_X6_change wl_564 ws_X6_change wl_562 rfl hoz7 (gc_X6_change fu this Xz1 Xz8 eXz8) rfl ⟨Nat.le_of_ble_eq_true rfl, Nat.le_of_ble_eq_true rfl⟩ ⟨Nat.le_of_ble_eq_true rfl, Nat.le_of_ble_eq_true rfl⟩ (Nat.le_of_ble_eq_true rfl) rfl rfl dX6_always_28 ?_
        refine gx_aload_n C dX6_always_31 rfl rfl ?_
        obtain ⟨az9, eaz9, h⟩ := gx_bd h
        refine gx_get C kcX6 3 (by decide) wl_500 (gx_gd_s eaz9) dX6_always_32 ?_
        refine gx_iload_n C dX6_always_35 rfl rfl ?_
        refine gx_iload_n C dX6_always_36 rfl rfl ?_
        obtain ⟨Xz10, eXz10, h⟩ := gx_bd h
        refine gx_zast C (t := 2) rfl eXz10 dX6_always_37 ?_
        refine gx_iconst (v := 1) C dX6_always_38 (by decide) ?_
        cases h
        exact gx_zret (Or.inr rfl) C dX6_always_39
      · rw [if_pos qz6] at h
        refine gx_iconst (v := 0) C dX6_always_25 (by decide) ?_
        cases h
        exact gx_zret (Or.inl rfl) C dX6_always_26
theorem dX6_begin_0 : decode cX6_begin 0 = .ok (.aload_n 0, 1) := by decide +kernel
theorem dX6_begin_1 : decode cX6_begin 1 = .ok (.iconst 0, 1) := by decide +kernel
theorem dX6_begin_2 : decode cX6_begin 2 = .ok (.putfield 65, 3) := by decide +kernel
theorem dX6_begin_5 : decode cX6_begin 5 = .ok (.iload_n 1, 1) := by decide +kernel
theorem dX6_begin_6 : decode cX6_begin 6 = .ok (.iconst 1, 1) := by decide +kernel
theorem dX6_begin_7 : decode cX6_begin 7 = .ok (.if_icmp .lt 9, 3) := by decide +kernel
theorem dX6_begin_10 : decode cX6_begin 10 = .ok (.iload_n 1, 1) := by decide +kernel
theorem dX6_begin_11 : decode cX6_begin 11 = .ok (.bipush 60, 2) := by decide +kernel
theorem dX6_begin_13 : decode cX6_begin 13 = .ok (.if_icmp .le 5, 3) := by decide +kernel
theorem dX6_begin_16 : decode cX6_begin 16 = .ok (.iconst 0, 1) := by decide +kernel
theorem dX6_begin_17 : decode cX6_begin 17 = .ok (.ireturn, 1) := by decide +kernel
theorem dX6_begin_18 : decode cX6_begin 18 = .ok (.aload_n 0, 1) := by decide +kernel
theorem dX6_begin_19 : decode cX6_begin 19 = .ok (.invokevirtual 76, 3) := by decide +kernel
theorem dX6_begin_22 : decode cX6_begin 22 = .ok (.aload_n 0, 1) := by decide +kernel
theorem dX6_begin_23 : decode cX6_begin 23 = .ok (.iload_n 1, 1) := by decide +kernel
theorem dX6_begin_24 : decode cX6_begin 24 = .ok (.putfield 7, 3) := by decide +kernel
theorem dX6_begin_27 : decode cX6_begin 27 = .ok (.aload_n 0, 1) := by decide +kernel
theorem dX6_begin_28 : decode cX6_begin 28 = .ok (.getfield 21, 3) := by decide +kernel
theorem dX6_begin_31 : decode cX6_begin 31 = .ok (.iconst 0, 1) := by decide +kernel
theorem dX6_begin_32 : decode cX6_begin 32 = .ok (.iconst 0, 1) := by decide +kernel
theorem dX6_begin_33 : decode cX6_begin 33 = .ok (.iastore, 1) := by decide +kernel
theorem dX6_begin_34 : decode cX6_begin 34 = .ok (.iconst 0, 1) := by decide +kernel
theorem dX6_begin_35 : decode cX6_begin 35 = .ok (.istore_n 2, 1) := by decide +kernel
theorem dX6_begin_36 : decode cX6_begin 36 = .ok (.iload_n 2, 1) := by decide +kernel
theorem dX6_begin_37 : decode cX6_begin 37 = .ok (.ldc 13, 2) := by decide +kernel
theorem dX6_begin_39 : decode cX6_begin 39 = .ok (.if_icmp .ge 16, 3) := by decide +kernel
theorem dX6_begin_42 : decode cX6_begin 42 = .ok (.aload_n 0, 1) := by decide +kernel
theorem dX6_begin_43 : decode cX6_begin 43 = .ok (.getfield 14, 3) := by decide +kernel
theorem dX6_begin_46 : decode cX6_begin 46 = .ok (.iload_n 2, 1) := by decide +kernel
theorem dX6_begin_47 : decode cX6_begin 47 = .ok (.iconst 0, 1) := by decide +kernel
theorem dX6_begin_48 : decode cX6_begin 48 = .ok (.bastore, 1) := by decide +kernel
theorem dX6_begin_49 : decode cX6_begin 49 = .ok (.iinc 2 1, 3) := by decide +kernel
theorem dX6_begin_52 : decode cX6_begin 52 = .ok (.goto (-16), 3) := by decide +kernel
theorem dX6_begin_55 : decode cX6_begin 55 = .ok (.iconst 0, 1) := by decide +kernel
theorem dX6_begin_56 : decode cX6_begin 56 = .ok (.istore_n 2, 1) := by decide +kernel
theorem dX6_begin_57 : decode cX6_begin 57 = .ok (.iload_n 2, 1) := by decide +kernel
theorem dX6_begin_58 : decode cX6_begin 58 = .ok (.bipush 16, 2) := by decide +kernel
theorem dX6_begin_60 : decode cX6_begin 60 = .ok (.if_icmp .ge 16, 3) := by decide +kernel
theorem dX6_begin_63 : decode cX6_begin 63 = .ok (.aload_n 0, 1) := by decide +kernel
theorem dX6_begin_64 : decode cX6_begin 64 = .ok (.getfield 18, 3) := by decide +kernel
theorem dX6_begin_67 : decode cX6_begin 67 = .ok (.iload_n 2, 1) := by decide +kernel
theorem dX6_begin_68 : decode cX6_begin 68 = .ok (.iconst 0, 1) := by decide +kernel
theorem dX6_begin_69 : decode cX6_begin 69 = .ok (.bastore, 1) := by decide +kernel
theorem dX6_begin_70 : decode cX6_begin 70 = .ok (.iinc 2 1, 3) := by decide +kernel
theorem dX6_begin_73 : decode cX6_begin 73 = .ok (.goto (-16), 3) := by decide +kernel
theorem dX6_begin_76 : decode cX6_begin 76 = .ok (.iconst 1, 1) := by decide +kernel
theorem dX6_begin_77 : decode cX6_begin 77 = .ok (.ireturn, 1) := by decide +kernel
def gm_X6_begin_57 (fu : Nat) : Nat → Nat → Int32 → gx_H → Option (Int32 × gx_H)
  | 0, _, _, _ => none
  | n + 1, a0, x2, X =>
    if (16 : Int32) ≤ x2 then (
    some ((1 : Int32), X)) else (
    (gx_gd X a0 6 3).bind fun az2 =>
    (gx_pai X az2 2 x2 (vp_nar .boolean (0 : Int32))).bind fun Xz3 =>
    (gm_X6_begin_57 fu  n) a0 (x2 + 1) Xz3)
set_option maxHeartbeats 1000000 in
set_option maxRecDepth 20000 in
theorem gt_X6_begin_57 {p : Program} {l : Launch} {e : Env} {s : State} {m : MethodId} {args : Array Value} {below : List Frame} {meth : Method} {c : Code} {D : gx_D} {r : Int32} {X2 : gx_H}  (C : gx_C D gz_cl gz_at gz_tb gz_nb p s m meth c cX6_begin 3 RX6 (some .boolean)) (fu : Nat) : ∀ (n : Nat) (a0 : Nat) (x2 : Int32) (X : gx_H) , gm_X6_begin_57 fu  n a0 x2 X = some (r, X2) → gx_W D gz_cl 3 p l e (gx_rm 1 20 0 0) s m args below meth c 0 0 (MQ below (gx_Q D gz_cl (some (gx_i r)) X2) args s 0 0 (gx_Z D)) X 57 [some (gx_r (some a0)), none, some (gx_i x2)] [] := by
  intro n
  induction n with
  | zero =>
    intro a0 x2 X h
    have h : none = some _ := h
    cases h
  | succ n ih =>
    intro a0 x2 X h
    rw [gm_X6_begin_57] at h
    refine gx_iload_n C dX6_begin_57 rfl rfl ?_
    refine gx_bipush (v := 16) C dX6_begin_58 (by decide) ?_
    refine gx_icmp_ge (tgt := 76) C dX6_begin_60 (by decide) (fun qz1 => ?_) (fun qz1 => ?_)
    · rw [if_pos qz1] at h
      refine gx_iconst (v := 1) C dX6_begin_76 (by decide) ?_
      cases h
      exact gx_zret (Or.inr rfl) C dX6_begin_77
    · rw [if_neg qz1] at h
      refine gx_aload_n C dX6_begin_63 rfl rfl ?_
      obtain ⟨az2, eaz2, h⟩ := gx_bd h
      refine gx_get C kcX6 3 (by decide) wl_500 (gx_gd_s eaz2) dX6_begin_64 ?_
      refine gx_iload_n C dX6_begin_67 rfl rfl ?_
      refine gx_iconst (v := 0) C dX6_begin_68 (by decide) ?_
      obtain ⟨Xz3, eXz3, h⟩ := gx_bd h
      refine gx_zast C (t := 2) rfl eXz3 dX6_begin_69 ?_
      refine gx_iinc (v := (x2 + 1)) (lv2 := [some (gx_r (some a0)), none, some (gx_i (x2 + 1))]) C dX6_begin_70 rfl rfl (by decide) rfl ?_
      refine gx_goto (tgt := 57) C dX6_begin_73 (by decide) ?_
      exact ih a0 (x2 + 1) Xz3 h
def gm_X6_begin_36 (fu : Nat) : Nat → Nat → Int32 → gx_H → Option (Int32 × gx_H)
  | 0, _, _, _ => none
  | n + 1, a0, x2, X =>
    if (58560 : Int32) ≤ x2 then (
    gm_X6_begin_57 fu  fu a0 (0 : Int32) X) else (
    (gx_gd X a0 6 2).bind fun az5 =>
    (gx_pai X az5 2 x2 (vp_nar .boolean (0 : Int32))).bind fun Xz6 =>
    (gm_X6_begin_36 fu  n) a0 (x2 + 1) Xz6)
set_option maxHeartbeats 1000000 in
set_option maxRecDepth 20000 in
theorem gt_X6_begin_36 {p : Program} {l : Launch} {e : Env} {s : State} {m : MethodId} {args : Array Value} {below : List Frame} {meth : Method} {c : Code} {D : gx_D} {r : Int32} {X2 : gx_H}  (C : gx_C D gz_cl gz_at gz_tb gz_nb p s m meth c cX6_begin 3 RX6 (some .boolean)) (fu : Nat) : ∀ (n : Nat) (a0 : Nat) (x2 : Int32) (X : gx_H) , gm_X6_begin_36 fu  n a0 x2 X = some (r, X2) → gx_W D gz_cl 3 p l e (gx_rm 1 20 0 0) s m args below meth c 0 0 (MQ below (gx_Q D gz_cl (some (gx_i r)) X2) args s 0 0 (gx_Z D)) X 36 [some (gx_r (some a0)), none, some (gx_i x2)] [] := by
  intro n
  induction n with
  | zero =>
    intro a0 x2 X h
    have h : none = some _ := h
    cases h
  | succ n ih =>
    intro a0 x2 X h
    rw [gm_X6_begin_36] at h
    refine gx_iload_n C dX6_begin_36 rfl rfl ?_
    refine gx_ldc (v := 58560) C wl_496 dX6_begin_37 ?_
    refine gx_icmp_ge (tgt := 55) C dX6_begin_39 (by decide) (fun qz4 => ?_) (fun qz4 => ?_)
    · rw [if_pos qz4] at h
      refine gx_iconst (v := 0) C dX6_begin_55 (by decide) ?_
      refine gx_istore_n (lv2 := [some (gx_r (some a0)), none, some (gx_i (0 : Int32))]) C dX6_begin_56 rfl (by decide) rfl ?_
      exact gt_X6_begin_57 C fu  fu a0 (0 : Int32) X h
    · rw [if_neg qz4] at h
      refine gx_aload_n C dX6_begin_42 rfl rfl ?_
      obtain ⟨az5, eaz5, h⟩ := gx_bd h
      refine gx_get C kcX6 2 (by decide) wl_499 (gx_gd_s eaz5) dX6_begin_43 ?_
      refine gx_iload_n C dX6_begin_46 rfl rfl ?_
      refine gx_iconst (v := 0) C dX6_begin_47 (by decide) ?_
      obtain ⟨Xz6, eXz6, h⟩ := gx_bd h
      refine gx_zast C (t := 2) rfl eXz6 dX6_begin_48 ?_
      refine gx_iinc (v := (x2 + 1)) (lv2 := [some (gx_r (some a0)), none, some (gx_i (x2 + 1))]) C dX6_begin_49 rfl rfl (by decide) rfl ?_
      refine gx_goto (tgt := 36) C dX6_begin_52 (by decide) ?_
      exact ih a0 (x2 + 1) Xz6 h
def gm_X6_begin (fu : Nat) (this : Nat) (p_0 : Int32) (X : gx_H) : Option (Int32 × gx_H) :=
  (gx_pf X this 6 0 (.int (0 : Int32))).bind fun Xz7 =>
  if p_0 < (1 : Int32) then (
  some ((0 : Int32), Xz7)) else (
  if p_0 ≤ (60 : Int32) then (
  gx_ob Xz7 this 6 <|
  (gm_X6_change fu this Xz7).bind fun Xz11 =>
  (gx_pf Xz11 this 6 1 (.int p_0)).bind fun Xz12 =>
  (gx_gd Xz12 this 6 4).bind fun az13 =>
  (gx_pai Xz12 az13 0 (0 : Int32) (0 : Int32)).bind fun Xz14 =>
  gm_X6_begin_36 fu  fu this (0 : Int32) Xz14) else (
  some ((0 : Int32), Xz7)))
set_option maxHeartbeats 1000000 in
set_option maxRecDepth 20000 in
theorem gc_X6_begin {l : Launch} {D : gx_D} (fu : Nat) (this : Nat) (p_0 : Int32) (X : gx_H) (r : Int32) (X2 : gx_H) (h : gm_X6_begin fu this p_0 X = some (r, X2)) : gx_M D gz_cl gz_at gz_tb gz_nb l yX6_begin cX6_begin 3 (some .boolean) 1 20 [gx_r (some this), gx_i p_0] X (some (gx_i r)) X2 0 0 := by
  unfold gm_X6_begin at h
  refine gx_enter [some (gx_r (some this)), some (gx_i p_0), none] rfl (by decide) (Nat.le_of_ble_eq_true rfl) ?_
  intro p e s m below meth c C _
  refine gx_aload_n C dX6_begin_0 rfl rfl ?_
  refine gx_iconst (v := 0) C dX6_begin_1 (by decide) ?_
  obtain ⟨Xz7, eXz7, h⟩ := gx_bd h
  refine gx_put C kcX6 0 (by decide) rfl wl_497 ⟨rfl, rfl⟩ eXz7 dX6_begin_2 ?_
  refine gx_iload_n C dX6_begin_5 rfl rfl ?_
  refine gx_iconst (v := 1) C dX6_begin_6 (by decide) ?_
  refine gx_icmp_lt (tgt := 16) C dX6_begin_7 (by decide) (fun qz8 => ?_) (fun qz8 => ?_)
  · rw [if_pos qz8] at h
    refine gx_iconst (v := 0) C dX6_begin_16 (by decide) ?_
    cases h
    exact gx_zret (Or.inl rfl) C dX6_begin_17
  · rw [if_neg qz8] at h
    refine gx_iload_n C dX6_begin_10 rfl rfl ?_
    refine gx_bipush (v := 60) C dX6_begin_11 (by decide) ?_
    refine gx_icmp_le (tgt := 18) C dX6_begin_13 (by decide) (fun qz9 => ?_) (fun qz9 => ?_)
    · rw [if_pos qz9] at h
      refine gx_aload_n C dX6_begin_18 rfl rfl ?_
      obtain ⟨hoz10, h⟩ := gx_obs h
      obtain ⟨Xz11, eXz11, h⟩ := gx_bd h
      refine gx_callV (As := []) (st := []) (stk2 := []) C cd_X6_change wl_564 ws_X6_change wl_562 rfl hoz10 (gc_X6_change fu this Xz7 Xz11 eXz11) rfl ⟨Nat.le_of_ble_eq_true rfl, Nat.le_of_ble_eq_true rfl⟩ ⟨Nat.le_of_ble_eq_true rfl, Nat.le_of_ble_eq_true rfl⟩ (Nat.le_of_ble_eq_true rfl) rfl rfl dX6_begin_19 ?_
      refine gx_aload_n C dX6_begin_22 rfl rfl ?_
      refine gx_iload_n C dX6_begin_23 rfl rfl ?_
      obtain ⟨Xz12, eXz12, h⟩ := gx_bd h
      refine gx_put C kcX6 1 (by decide) rfl wl_498 ⟨rfl, rfl⟩ eXz12 dX6_begin_24 ?_
      refine gx_aload_n C dX6_begin_27 rfl rfl ?_
      obtain ⟨az13, eaz13, h⟩ := gx_bd h
      refine gx_get C kcX6 4 (by decide) wl_501 (gx_gd_s eaz13) dX6_begin_28 ?_
      refine gx_iconst (v := 0) C dX6_begin_31 (by decide) ?_
      refine gx_iconst (v := 0) C dX6_begin_32 (by decide) ?_
      obtain ⟨Xz14, eXz14, h⟩ := gx_bd h
      refine gx_iast C (t := 0) rfl eXz14 dX6_begin_33 ?_
      refine gx_iconst (v := 0) C dX6_begin_34 (by decide) ?_
      refine gx_istore_n (lv2 := [some (gx_r (some this)), some (gx_i p_0), some (gx_i (0 : Int32))]) C dX6_begin_35 rfl (by decide) rfl ?_
      refine gx_sub (lv2 := [some (gx_r (some this)), none, some (gx_i (0 : Int32))]) [true, false, true] rfl ?_
      exact gt_X6_begin_36 C fu  fu this (0 : Int32) Xz14 h
    · rw [if_neg qz9] at h
      refine gx_iconst (v := 0) C dX6_begin_16 (by decide) ?_
      cases h
      exact gx_zret (Or.inl rfl) C dX6_begin_17
theorem dX6_below_0 : decode cX6_below 0 = .ok (.iload_n 2, 1) := by decide +kernel
theorem dX6_below_1 : decode cX6_below 1 = .ok (.iconst 1, 1) := by decide +kernel
theorem dX6_below_2 : decode cX6_below 2 = .ok (.if_icmp .eq 8, 3) := by decide +kernel
theorem dX6_below_5 : decode cX6_below 5 = .ok (.iload_n 2, 1) := by decide +kernel
theorem dX6_below_6 : decode cX6_below 6 = .ok (.iconst 2, 1) := by decide +kernel
theorem dX6_below_7 : decode cX6_below 7 = .ok (.if_icmp .ne 12, 3) := by decide +kernel
theorem dX6_below_10 : decode cX6_below 10 = .ok (.aload_n 0, 1) := by decide +kernel
theorem dX6_below_11 : decode cX6_below 11 = .ok (.getfield 25, 3) := by decide +kernel
theorem dX6_below_14 : decode cX6_below 14 = .ok (.iload_n 1, 1) := by decide +kernel
theorem dX6_below_15 : decode cX6_below 15 = .ok (.iaload, 1) := by decide +kernel
theorem dX6_below_16 : decode cX6_below 16 = .ok (.goto 29, 3) := by decide +kernel
theorem dX6_below_19 : decode cX6_below 19 = .ok (.iload_n 2, 1) := by decide +kernel
theorem dX6_below_20 : decode cX6_below 20 = .ok (.iconst 3, 1) := by decide +kernel
theorem dX6_below_21 : decode cX6_below 21 = .ok (.if_icmp .ne 8, 3) := by decide +kernel
theorem dX6_below_24 : decode cX6_below 24 = .ok (.bipush 8, 2) := by decide +kernel
theorem dX6_below_26 : decode cX6_below 26 = .ok (.goto 19, 3) := by decide +kernel
theorem dX6_below_29 : decode cX6_below 29 = .ok (.iload_n 2, 1) := by decide +kernel
theorem dX6_below_30 : decode cX6_below 30 = .ok (.iconst 4, 1) := by decide +kernel
theorem dX6_below_31 : decode cX6_below 31 = .ok (.if_icmp .eq 8, 3) := by decide +kernel
theorem dX6_below_34 : decode cX6_below 34 = .ok (.iload_n 2, 1) := by decide +kernel
theorem dX6_below_35 : decode cX6_below 35 = .ok (.iconst 5, 1) := by decide +kernel
theorem dX6_below_36 : decode cX6_below 36 = .ok (.if_icmp .ne 8, 3) := by decide +kernel
theorem dX6_below_39 : decode cX6_below 39 = .ok (.bipush 16, 2) := by decide +kernel
theorem dX6_below_41 : decode cX6_below 41 = .ok (.goto 4, 3) := by decide +kernel
theorem dX6_below_44 : decode cX6_below 44 = .ok (.iconst 1, 1) := by decide +kernel
theorem dX6_below_45 : decode cX6_below 45 = .ok (.ireturn, 1) := by decide +kernel
def gm_X6_below_10 (fu : Nat) (a0 : Nat) (x1 : Int32) (X : gx_H) : Option (Int32 × gx_H) :=
  (gx_gd X a0 6 5).bind fun az1 =>
  (gx_gai X az1 0 x1).bind fun vz2 =>
  some (vz2, X)
set_option maxHeartbeats 1000000 in
set_option maxRecDepth 20000 in
theorem gt_X6_below_10 {p : Program} {l : Launch} {e : Env} {s : State} {m : MethodId} {args : Array Value} {below : List Frame} {meth : Method} {c : Code} {D : gx_D} {r : Int32} {X2 : gx_H}  (C : gx_C D gz_cl gz_at gz_tb gz_nb p s m meth c cX6_below 3 RX6 (some .int)) (fu : Nat) (a0 : Nat) (x1 : Int32) (X : gx_H) (h : gm_X6_below_10 fu  a0 x1 X = some (r, X2)) : gx_W D gz_cl 3 p l e (gx_rm 0 0 0 0) s m args below meth c 0 0 (MQ below (gx_Q D gz_cl (some (gx_i r)) X2) args s 0 0 (gx_Z D)) X 10 [some (gx_r (some a0)), some (gx_i x1), none] [] := by
  unfold gm_X6_below_10 at h
  refine gx_aload_n C dX6_below_10 rfl rfl ?_
  obtain ⟨az1, eaz1, h⟩ := gx_bd h
  refine gx_get C kcX6 5 (by decide) wl_502 (gx_gd_s eaz1) dX6_below_11 ?_
  refine gx_iload_n C dX6_below_14 rfl rfl ?_
  obtain ⟨vz2, evz2, h⟩ := gx_bd h
  refine gx_iald C (t := 0) rfl evz2 dX6_below_15 ?_
  refine gx_goto (tgt := 45) C dX6_below_16 (by decide) ?_
  cases h
  exact gx_iret C dX6_below_45
def gm_X6_below_39 (fu : Nat)  (X : gx_H) : Option (Int32 × gx_H) :=
  some ((16 : Int32), X)
set_option maxHeartbeats 1000000 in
set_option maxRecDepth 20000 in
theorem gt_X6_below_39 {p : Program} {l : Launch} {e : Env} {s : State} {m : MethodId} {args : Array Value} {below : List Frame} {meth : Method} {c : Code} {D : gx_D} {r : Int32} {X2 : gx_H}  (C : gx_C D gz_cl gz_at gz_tb gz_nb p s m meth c cX6_below 3 RX6 (some .int)) (fu : Nat)  (X : gx_H) (h : gm_X6_below_39 fu   X = some (r, X2)) : gx_W D gz_cl 3 p l e (gx_rm 0 0 0 0) s m args below meth c 0 0 (MQ below (gx_Q D gz_cl (some (gx_i r)) X2) args s 0 0 (gx_Z D)) X 39 [none, none, none] [] := by
  unfold gm_X6_below_39 at h
  refine gx_bipush (v := 16) C dX6_below_39 (by decide) ?_
  refine gx_goto (tgt := 45) C dX6_below_41 (by decide) ?_
  cases h
  exact gx_iret C dX6_below_45
def gm_X6_below (fu : Nat) (this : Nat) (p_0 : Int32) (p_1 : Int32) (X : gx_H) : Option (Int32 × gx_H) :=
  if p_1 = (1 : Int32) then (
  gm_X6_below_10 fu  this p_0 X) else (
  if p_1 = (2 : Int32) then (
  gm_X6_below_10 fu  this p_0 X) else (
  if p_1 = (3 : Int32) then (
  some ((8 : Int32), X)) else (
  if p_1 = (4 : Int32) then (
  gm_X6_below_39 fu   X) else (
  if p_1 = (5 : Int32) then (
  gm_X6_below_39 fu   X) else (
  some ((1 : Int32), X))))))
set_option maxHeartbeats 1000000 in
set_option maxRecDepth 20000 in
theorem gc_X6_below {l : Launch} {D : gx_D} (fu : Nat) (this : Nat) (p_0 : Int32) (p_1 : Int32) (X : gx_H) (r : Int32) (X2 : gx_H) (h : gm_X6_below fu this p_0 p_1 X = some (r, X2)) : gx_M D gz_cl gz_at gz_tb gz_nb l yX6_below cX6_below 3 (some .int) 0 0 [gx_r (some this), gx_i p_0, gx_i p_1] X (some (gx_i r)) X2 0 0 := by
  unfold gm_X6_below at h
  refine gx_enter [some (gx_r (some this)), some (gx_i p_0), some (gx_i p_1)] rfl (by decide) (Nat.le_of_ble_eq_true rfl) ?_
  intro p e s m below meth c C _
  refine gx_iload_n C dX6_below_0 rfl rfl ?_
  refine gx_iconst (v := 1) C dX6_below_1 (by decide) ?_
  refine gx_icmp_eq (tgt := 10) C dX6_below_2 (by decide) (fun qz3 => ?_) (fun qz3 => ?_)
  · rw [if_pos qz3] at h
    refine gx_sub (lv2 := [some (gx_r (some this)), some (gx_i p_0), none]) [true, true, false] rfl ?_
    exact gt_X6_below_10 C fu  this p_0 X h
  · rw [if_neg qz3] at h
    refine gx_iload_n C dX6_below_5 rfl rfl ?_
    refine gx_iconst (v := 2) C dX6_below_6 (by decide) ?_
    refine gx_icmp_ne (tgt := 19) C dX6_below_7 (by decide) (fun qz4 => ?_) (fun qz4 => ?_)
    · rw [if_neg qz4] at h
      refine gx_iload_n C dX6_below_19 rfl rfl ?_
      refine gx_iconst (v := 3) C dX6_below_20 (by decide) ?_
      refine gx_icmp_ne (tgt := 29) C dX6_below_21 (by decide) (fun qz5 => ?_) (fun qz5 => ?_)
      · rw [if_neg qz5] at h
        refine gx_iload_n C dX6_below_29 rfl rfl ?_
        refine gx_iconst (v := 4) C dX6_below_30 (by decide) ?_
        refine gx_icmp_eq (tgt := 39) C dX6_below_31 (by decide) (fun qz6 => ?_) (fun qz6 => ?_)
        · rw [if_pos qz6] at h
          refine gx_sub (lv2 := [none, none, none]) [false, false, false] rfl ?_
          exact gt_X6_below_39 C fu   X h
        · rw [if_neg qz6] at h
          refine gx_iload_n C dX6_below_34 rfl rfl ?_
          refine gx_iconst (v := 5) C dX6_below_35 (by decide) ?_
          refine gx_icmp_ne (tgt := 44) C dX6_below_36 (by decide) (fun qz7 => ?_) (fun qz7 => ?_)
          · rw [if_neg qz7] at h
            refine gx_iconst (v := 1) C dX6_below_44 (by decide) ?_
            cases h
            exact gx_iret C dX6_below_45
          · rw [if_pos qz7] at h
            refine gx_sub (lv2 := [none, none, none]) [false, false, false] rfl ?_
            exact gt_X6_below_39 C fu   X h
      · rw [if_pos qz5] at h
        refine gx_bipush (v := 8) C dX6_below_24 (by decide) ?_
        refine gx_goto (tgt := 45) C dX6_below_26 (by decide) ?_
        cases h
        exact gx_iret C dX6_below_45
    · rw [if_pos qz4] at h
      refine gx_sub (lv2 := [some (gx_r (some this)), some (gx_i p_0), none]) [true, true, false] rfl ?_
      exact gt_X6_below_10 C fu  this p_0 X h
theorem dX6_bits_0 : decode cX6_bits 0 = .ok (.iconst 0, 1) := by decide +kernel
theorem dX6_bits_1 : decode cX6_bits 1 = .ok (.istore_n 3, 1) := by decide +kernel
theorem dX6_bits_2 : decode cX6_bits 2 = .ok (.iconst 0, 1) := by decide +kernel
theorem dX6_bits_3 : decode cX6_bits 3 = .ok (.istore 4, 2) := by decide +kernel
theorem dX6_bits_5 : decode cX6_bits 5 = .ok (.iload 4, 2) := by decide +kernel
theorem dX6_bits_7 : decode cX6_bits 7 = .ok (.aload_n 0, 1) := by decide +kernel
theorem dX6_bits_8 : decode cX6_bits 8 = .ok (.getfield 7, 3) := by decide +kernel
theorem dX6_bits_11 : decode cX6_bits 11 = .ok (.if_icmp .ge 19, 3) := by decide +kernel
theorem dX6_bits_14 : decode cX6_bits 14 = .ok (.iload_n 3, 1) := by decide +kernel
theorem dX6_bits_15 : decode cX6_bits 15 = .ok (.lload_n 1, 1) := by decide +kernel
theorem dX6_bits_16 : decode cX6_bits 16 = .ok (.iload 4, 2) := by decide +kernel
theorem dX6_bits_18 : decode cX6_bits 18 = .ok (.lshr, 1) := by decide +kernel
theorem dX6_bits_19 : decode cX6_bits 19 = .ok (.lconst 1, 1) := by decide +kernel
theorem dX6_bits_20 : decode cX6_bits 20 = .ok (.land, 1) := by decide +kernel
theorem dX6_bits_21 : decode cX6_bits 21 = .ok (.l2i, 1) := by decide +kernel
theorem dX6_bits_22 : decode cX6_bits 22 = .ok (.iadd, 1) := by decide +kernel
theorem dX6_bits_23 : decode cX6_bits 23 = .ok (.istore_n 3, 1) := by decide +kernel
theorem dX6_bits_24 : decode cX6_bits 24 = .ok (.iinc 4 1, 3) := by decide +kernel
theorem dX6_bits_27 : decode cX6_bits 27 = .ok (.goto (-22), 3) := by decide +kernel
theorem dX6_bits_30 : decode cX6_bits 30 = .ok (.iload_n 3, 1) := by decide +kernel
theorem dX6_bits_31 : decode cX6_bits 31 = .ok (.ireturn, 1) := by decide +kernel
def gm_X6_bits_5 (fu : Nat) : Nat → Nat → Int64 → Int32 → Int32 → gx_H → Option (Int32 × gx_H)
  | 0, _, _, _, _, _ => none
  | n + 1, a0, y1, x3, x4, X =>
    (gx_gi X a0 6 1).bind fun vz1 =>
    if vz1 ≤ x4 then (
    some (x3, X)) else (
    (gm_X6_bits_5 fu  n) a0 y1 (x3 + (((y1 >>> (x4.toInt64 &&& 63)) &&& (1 : Int64)).toInt32)) (x4 + 1) X)
set_option maxHeartbeats 1000000 in
set_option maxRecDepth 20000 in
theorem gt_X6_bits_5 {p : Program} {l : Launch} {e : Env} {s : State} {m : MethodId} {args : Array Value} {below : List Frame} {meth : Method} {c : Code} {D : gx_D} {r : Int32} {X2 : gx_H}  (C : gx_C D gz_cl gz_at gz_tb gz_nb p s m meth c cX6_bits 5 RX6 (some .int)) (fu : Nat) : ∀ (n : Nat) (a0 : Nat) (y1 : Int64) (x3 : Int32) (x4 : Int32) (X : gx_H) , gm_X6_bits_5 fu  n a0 y1 x3 x4 X = some (r, X2) → gx_W D gz_cl 5 p l e (gx_rm 0 0 0 0) s m args below meth c 0 0 (MQ below (gx_Q D gz_cl (some (gx_i r)) X2) args s 0 0 (gx_Z D)) X 5 [some (gx_r (some a0)), some (gx_l y1), none, some (gx_i x3), some (gx_i x4)] [] := by
  intro n
  induction n with
  | zero =>
    intro a0 y1 x3 x4 X h
    have h : none = some _ := h
    cases h
  | succ n ih =>
    intro a0 y1 x3 x4 X h
    rw [gm_X6_bits_5] at h
    refine gx_iload C dX6_bits_5 rfl ?_
    refine gx_aload_n C dX6_bits_7 rfl rfl ?_
    obtain ⟨vz1, evz1, h⟩ := gx_bd h
    refine gx_get C kcX6 1 (by decide) wl_498 (gx_gi_s evz1) dX6_bits_8 ?_
    refine gx_icmp_ge (tgt := 30) C dX6_bits_11 (by decide) (fun qz2 => ?_) (fun qz2 => ?_)
    · rw [if_pos qz2] at h
      refine gx_iload_n C dX6_bits_30 rfl rfl ?_
      cases h
      exact gx_iret C dX6_bits_31
    · rw [if_neg qz2] at h
      refine gx_iload_n C dX6_bits_14 rfl rfl ?_
      refine gx_lload_n C dX6_bits_15 rfl rfl ?_
      refine gx_iload C dX6_bits_16 rfl ?_
      refine gx_lshr C dX6_bits_18 ?_
      refine gx_lconst (v := 1) C dX6_bits_19 (by decide) ?_
      refine gx_land C dX6_bits_20 ?_
      refine gx_l2i C dX6_bits_21 ?_
      refine gx_iadd C dX6_bits_22 ?_
      refine gx_istore_n (lv2 := [some (gx_r (some a0)), some (gx_l y1), none, some (gx_i (x3 + (((y1 >>> (x4.toInt64 &&& 63)) &&& (1 : Int64)).toInt32))), some (gx_i x4)]) C dX6_bits_23 rfl (by decide) rfl ?_
      refine gx_iinc (v := (x4 + 1)) (lv2 := [some (gx_r (some a0)), some (gx_l y1), none, some (gx_i (x3 + (((y1 >>> (x4.toInt64 &&& 63)) &&& (1 : Int64)).toInt32))), some (gx_i (x4 + 1))]) C dX6_bits_24 rfl rfl (by decide) rfl ?_
      refine gx_goto (tgt := 5) C dX6_bits_27 (by decide) ?_
      exact ih a0 y1 (x3 + (((y1 >>> (x4.toInt64 &&& 63)) &&& (1 : Int64)).toInt32)) (x4 + 1) X h
def gm_X6_bits (fu : Nat) (this : Nat) (l_0 : Int64) (X : gx_H) : Option (Int32 × gx_H) :=
  gm_X6_bits_5 fu  fu this l_0 (0 : Int32) (0 : Int32) X
set_option maxHeartbeats 1000000 in
set_option maxRecDepth 20000 in
theorem gc_X6_bits {l : Launch} {D : gx_D} (fu : Nat) (this : Nat) (l_0 : Int64) (X : gx_H) (r : Int32) (X2 : gx_H) (h : gm_X6_bits fu this l_0 X = some (r, X2)) : gx_M D gz_cl gz_at gz_tb gz_nb l yX6_bits cX6_bits 5 (some .int) 0 0 [gx_r (some this), gx_l l_0] X (some (gx_i r)) X2 0 0 := by
  unfold gm_X6_bits at h
  refine gx_enter [some (gx_r (some this)), some (gx_l l_0), none, none, none] rfl (by decide) (Nat.le_of_ble_eq_true rfl) ?_
  intro p e s m below meth c C _
  refine gx_iconst (v := 0) C dX6_bits_0 (by decide) ?_
  refine gx_istore_n (lv2 := [some (gx_r (some this)), some (gx_l l_0), none, some (gx_i (0 : Int32)), none]) C dX6_bits_1 rfl (by decide) rfl ?_
  refine gx_iconst (v := 0) C dX6_bits_2 (by decide) ?_
  refine gx_istore (lv2 := [some (gx_r (some this)), some (gx_l l_0), none, some (gx_i (0 : Int32)), some (gx_i (0 : Int32))]) C dX6_bits_3 (by decide) rfl ?_
  exact gt_X6_bits_5 C fu  fu this l_0 (0 : Int32) (0 : Int32) X h
theorem dX6_isState_0 : decode cX6_isState 0 = .ok (.iload_n 1, 1) := by decide +kernel
theorem dX6_isState_1 : decode cX6_isState 1 = .ok (.ifCond .lt 15, 3) := by decide +kernel
theorem dX6_isState_4 : decode cX6_isState 4 = .ok (.iload_n 1, 1) := by decide +kernel
theorem dX6_isState_5 : decode cX6_isState 5 = .ok (.aload_n 0, 1) := by decide +kernel
theorem dX6_isState_6 : decode cX6_isState 6 = .ok (.getfield 7, 3) := by decide +kernel
theorem dX6_isState_9 : decode cX6_isState 9 = .ok (.if_icmp .ge 7, 3) := by decide +kernel
theorem dX6_isState_12 : decode cX6_isState 12 = .ok (.iconst 1, 1) := by decide +kernel
theorem dX6_isState_13 : decode cX6_isState 13 = .ok (.goto 4, 3) := by decide +kernel
theorem dX6_isState_16 : decode cX6_isState 16 = .ok (.iconst 0, 1) := by decide +kernel
theorem dX6_isState_17 : decode cX6_isState 17 = .ok (.ireturn, 1) := by decide +kernel
def gm_X6_isState_16 (fu : Nat)  (X : gx_H) : Option (Int32 × gx_H) :=
  some ((0 : Int32), X)
set_option maxHeartbeats 1000000 in
set_option maxRecDepth 20000 in
theorem gt_X6_isState_16 {p : Program} {l : Launch} {e : Env} {s : State} {m : MethodId} {args : Array Value} {below : List Frame} {meth : Method} {c : Code} {D : gx_D} {r : Int32} {X2 : gx_H}  (C : gx_C D gz_cl gz_at gz_tb gz_nb p s m meth c cX6_isState 2 RX6 (some .boolean)) (fu : Nat)  (X : gx_H) (h : gm_X6_isState_16 fu   X = some (r, X2)) : gx_W D gz_cl 2 p l e (gx_rm 0 0 0 0) s m args below meth c 0 0 (MQ below (gx_Q D gz_cl (some (gx_i r)) X2) args s 0 0 (gx_Z D)) X 16 [none, none] [] := by
  unfold gm_X6_isState_16 at h
  refine gx_iconst (v := 0) C dX6_isState_16 (by decide) ?_
  cases h
  exact gx_zret (Or.inl rfl) C dX6_isState_17
def gm_X6_isState (fu : Nat) (this : Nat) (p_0 : Int32) (X : gx_H) : Option (Int32 × gx_H) :=
  if p_0 < 0 then (
  gm_X6_isState_16 fu   X) else (
  (gx_gi X this 6 1).bind fun vz2 =>
  if vz2 ≤ p_0 then (
  gm_X6_isState_16 fu   X) else (
  some ((1 : Int32), X)))
set_option maxHeartbeats 1000000 in
set_option maxRecDepth 20000 in
theorem gc_X6_isState {l : Launch} {D : gx_D} (fu : Nat) (this : Nat) (p_0 : Int32) (X : gx_H) (r : Int32) (X2 : gx_H) (h : gm_X6_isState fu this p_0 X = some (r, X2)) : gx_M D gz_cl gz_at gz_tb gz_nb l yX6_isState cX6_isState 2 (some .boolean) 0 0 [gx_r (some this), gx_i p_0] X (some (gx_i r)) X2 0 0 := by
  unfold gm_X6_isState at h
  refine gx_enter [some (gx_r (some this)), some (gx_i p_0)] rfl (by decide) (Nat.le_of_ble_eq_true rfl) ?_
  intro p e s m below meth c C _
  refine gx_iload_n C dX6_isState_0 rfl rfl ?_
  refine gx_if_lt (tgt := 16) C dX6_isState_1 (by decide) (fun qz1 => ?_) (fun qz1 => ?_)
  · rw [if_pos qz1] at h
    refine gx_sub (lv2 := [none, none]) [false, false] rfl ?_
    exact gt_X6_isState_16 C fu   X h
  · rw [if_neg qz1] at h
    refine gx_iload_n C dX6_isState_4 rfl rfl ?_
    refine gx_aload_n C dX6_isState_5 rfl rfl ?_
    obtain ⟨vz2, evz2, h⟩ := gx_bd h
    refine gx_get C kcX6 1 (by decide) wl_498 (gx_gi_s evz2) dX6_isState_6 ?_
    refine gx_icmp_ge (tgt := 16) C dX6_isState_9 (by decide) (fun qz3 => ?_) (fun qz3 => ?_)
    · rw [if_pos qz3] at h
      refine gx_sub (lv2 := [none, none]) [false, false] rfl ?_
      exact gt_X6_isState_16 C fu   X h
    · rw [if_neg qz3] at h
      refine gx_iconst (v := 1) C dX6_isState_12 (by decide) ?_
      refine gx_goto (tgt := 17) C dX6_isState_13 (by decide) ?_
      cases h
      exact gx_zret (Or.inr rfl) C dX6_isState_17
theorem dX6_canWay_0 : decode cX6_canWay 0 = .ok (.iload_n 1, 1) := by decide +kernel
theorem dX6_canWay_1 : decode cX6_canWay 1 = .ok (.ifCond .lt 34, 3) := by decide +kernel
theorem dX6_canWay_4 : decode cX6_canWay 4 = .ok (.iload_n 1, 1) := by decide +kernel
theorem dX6_canWay_5 : decode cX6_canWay 5 = .ok (.bipush 16, 2) := by decide +kernel
theorem dX6_canWay_7 : decode cX6_canWay 7 = .ok (.if_icmp .ge 28, 3) := by decide +kernel
theorem dX6_canWay_10 : decode cX6_canWay 10 = .ok (.aload_n 0, 1) := by decide +kernel
theorem dX6_canWay_11 : decode cX6_canWay 11 = .ok (.iload_n 2, 1) := by decide +kernel
theorem dX6_canWay_12 : decode cX6_canWay 12 = .ok (.invokevirtual 72, 3) := by decide +kernel
theorem dX6_canWay_15 : decode cX6_canWay 15 = .ok (.ifCond .eq 20, 3) := by decide +kernel
theorem dX6_canWay_18 : decode cX6_canWay 18 = .ok (.iload_n 3, 1) := by decide +kernel
theorem dX6_canWay_19 : decode cX6_canWay 19 = .ok (.iconst (-1), 1) := by decide +kernel
theorem dX6_canWay_20 : decode cX6_canWay 20 = .ok (.if_icmp .eq 11, 3) := by decide +kernel
theorem dX6_canWay_23 : decode cX6_canWay 23 = .ok (.aload_n 0, 1) := by decide +kernel
theorem dX6_canWay_24 : decode cX6_canWay 24 = .ok (.iload_n 3, 1) := by decide +kernel
theorem dX6_canWay_25 : decode cX6_canWay 25 = .ok (.invokevirtual 72, 3) := by decide +kernel
theorem dX6_canWay_28 : decode cX6_canWay 28 = .ok (.ifCond .eq 7, 3) := by decide +kernel
theorem dX6_canWay_31 : decode cX6_canWay 31 = .ok (.iconst 1, 1) := by decide +kernel
theorem dX6_canWay_32 : decode cX6_canWay 32 = .ok (.goto 4, 3) := by decide +kernel
theorem dX6_canWay_35 : decode cX6_canWay 35 = .ok (.iconst 0, 1) := by decide +kernel
theorem dX6_canWay_36 : decode cX6_canWay 36 = .ok (.ireturn, 1) := by decide +kernel
def gm_X6_canWay_31 (fu : Nat)  (X : gx_H) : Option (Int32 × gx_H) :=
  some ((1 : Int32), X)
set_option maxHeartbeats 1000000 in
set_option maxRecDepth 20000 in
theorem gt_X6_canWay_31 {p : Program} {l : Launch} {e : Env} {s : State} {m : MethodId} {args : Array Value} {below : List Frame} {meth : Method} {c : Code} {D : gx_D} {r : Int32} {X2 : gx_H}  (C : gx_C D gz_cl gz_at gz_tb gz_nb p s m meth c cX6_canWay 4 RX6 (some .boolean)) (fu : Nat)  (X : gx_H) (h : gm_X6_canWay_31 fu   X = some (r, X2)) : gx_W D gz_cl 4 p l e (gx_rm 1 21 0 0) s m args below meth c 0 0 (MQ below (gx_Q D gz_cl (some (gx_i r)) X2) args s 0 0 (gx_Z D)) X 31 [none, none, none, none] [] := by
  unfold gm_X6_canWay_31 at h
  refine gx_iconst (v := 1) C dX6_canWay_31 (by decide) ?_
  refine gx_goto (tgt := 36) C dX6_canWay_32 (by decide) ?_
  cases h
  exact gx_zret (Or.inr rfl) C dX6_canWay_36
def gm_X6_canWay_35 (fu : Nat)  (X : gx_H) : Option (Int32 × gx_H) :=
  some ((0 : Int32), X)
set_option maxHeartbeats 1000000 in
set_option maxRecDepth 20000 in
theorem gt_X6_canWay_35 {p : Program} {l : Launch} {e : Env} {s : State} {m : MethodId} {args : Array Value} {below : List Frame} {meth : Method} {c : Code} {D : gx_D} {r : Int32} {X2 : gx_H}  (C : gx_C D gz_cl gz_at gz_tb gz_nb p s m meth c cX6_canWay 4 RX6 (some .boolean)) (fu : Nat)  (X : gx_H) (h : gm_X6_canWay_35 fu   X = some (r, X2)) : gx_W D gz_cl 4 p l e (gx_rm 1 21 0 0) s m args below meth c 0 0 (MQ below (gx_Q D gz_cl (some (gx_i r)) X2) args s 0 0 (gx_Z D)) X 35 [none, none, none, none] [] := by
  unfold gm_X6_canWay_35 at h
  refine gx_iconst (v := 0) C dX6_canWay_35 (by decide) ?_
  cases h
  exact gx_zret (Or.inl rfl) C dX6_canWay_36
def gm_X6_canWay (fu : Nat) (this : Nat) (p_0 : Int32) (p_1 : Int32) (p_2 : Int32) (X : gx_H) : Option (Int32 × gx_H) :=
  if p_0 < 0 then (
  gm_X6_canWay_35 fu   X) else (
  if (16 : Int32) ≤ p_0 then (
  gm_X6_canWay_35 fu   X) else (
  gx_ob X this 6 <|
  gx_b2 (gm_X6_isState fu this p_1 X) fun vz5 Xz4 =>
  if vz5 = 0 then (
  gm_X6_canWay_35 fu   Xz4) else (
  if p_2 = (-1 : Int32) then (
  gm_X6_canWay_31 fu   Xz4) else (
  gx_ob Xz4 this 6 <|
  gx_b2 (gm_X6_isState fu this p_2 Xz4) fun vz10 Xz9 =>
  if vz10 = 0 then (
  gm_X6_canWay_35 fu   Xz9) else (
  gm_X6_canWay_31 fu   Xz9)))))
set_option maxHeartbeats 1000000 in
set_option maxRecDepth 20000 in
theorem gc_X6_canWay {l : Launch} {D : gx_D} (fu : Nat) (this : Nat) (p_0 : Int32) (p_1 : Int32) (p_2 : Int32) (X : gx_H) (r : Int32) (X2 : gx_H) (h : gm_X6_canWay fu this p_0 p_1 p_2 X = some (r, X2)) : gx_M D gz_cl gz_at gz_tb gz_nb l yX6_canWay cX6_canWay 4 (some .boolean) 1 21 [gx_r (some this), gx_i p_0, gx_i p_1, gx_i p_2] X (some (gx_i r)) X2 0 0 := by
  unfold gm_X6_canWay at h
  refine gx_enter [some (gx_r (some this)), some (gx_i p_0), some (gx_i p_1), some (gx_i p_2)] rfl (by decide) (Nat.le_of_ble_eq_true rfl) ?_
  intro p e s m below meth c C _
  refine gx_iload_n C dX6_canWay_0 rfl rfl ?_
  refine gx_if_lt (tgt := 35) C dX6_canWay_1 (by decide) (fun qz1 => ?_) (fun qz1 => ?_)
  · rw [if_pos qz1] at h
    refine gx_sub (lv2 := [none, none, none, none]) [false, false, false, false] rfl ?_
    exact gt_X6_canWay_35 C fu   X h
  · rw [if_neg qz1] at h
    refine gx_iload_n C dX6_canWay_4 rfl rfl ?_
    refine gx_bipush (v := 16) C dX6_canWay_5 (by decide) ?_
    refine gx_icmp_ge (tgt := 35) C dX6_canWay_7 (by decide) (fun qz2 => ?_) (fun qz2 => ?_)
    · rw [if_pos qz2] at h
      refine gx_sub (lv2 := [none, none, none, none]) [false, false, false, false] rfl ?_
      exact gt_X6_canWay_35 C fu   X h
    · rw [if_neg qz2] at h
      refine gx_aload_n C dX6_canWay_10 rfl rfl ?_
      refine gx_iload_n C dX6_canWay_11 rfl rfl ?_
      obtain ⟨hoz3, h⟩ := gx_obs h
      obtain ⟨vz5, Xz4, eXz4, h⟩ := gx_bd2 h
      refine gx_callV (As := [gx_i p_1]) (st := []) (stk2 := [gx_i vz5]) C cd_X6_isState wl_576 ws_X6_isState wl_574 rfl hoz3 (gc_X6_isState fu this p_1 X vz5 Xz4 eXz4) rfl ⟨Nat.le_of_ble_eq_true rfl, Nat.le_of_ble_eq_true rfl⟩ ⟨Nat.le_of_ble_eq_true rfl, Nat.le_of_ble_eq_true rfl⟩ (Nat.le_of_ble_eq_true rfl) rfl rfl dX6_canWay_12 ?_
      refine gx_if_eq (tgt := 35) C dX6_canWay_15 (by decide) (fun qz6 => ?_) (fun qz6 => ?_)
      · rw [if_pos qz6] at h
        refine gx_sub (lv2 := [none, none, none, none]) [false, false, false, false] rfl ?_
        exact gt_X6_canWay_35 C fu   Xz4 h
      · rw [if_neg qz6] at h
        refine gx_iload_n C dX6_canWay_18 rfl rfl ?_
        refine gx_iconst (v := -1) C dX6_canWay_19 (by decide) ?_
        refine gx_icmp_eq (tgt := 31) C dX6_canWay_20 (by decide) (fun qz7 => ?_) (fun qz7 => ?_)
        · rw [if_pos qz7] at h
          refine gx_sub (lv2 := [none, none, none, none]) [false, false, false, false] rfl ?_
          exact gt_X6_canWay_31 C fu   Xz4 h
        · rw [if_neg qz7] at h
          refine gx_aload_n C dX6_canWay_23 rfl rfl ?_
          refine gx_iload_n C dX6_canWay_24 rfl rfl ?_
          obtain ⟨hoz8, h⟩ := gx_obs h
          obtain ⟨vz10, Xz9, eXz9, h⟩ := gx_bd2 h
          refine gx_callV (As := [gx_i p_2]) (st := []) (stk2 := [gx_i vz10]) C cd_X6_isState wl_576 ws_X6_isState wl_574 rfl hoz8 (gc_X6_isState fu this p_2 Xz4 vz10 Xz9 eXz9) rfl ⟨Nat.le_of_ble_eq_true rfl, Nat.le_of_ble_eq_true rfl⟩ ⟨Nat.le_of_ble_eq_true rfl, Nat.le_of_ble_eq_true rfl⟩ (Nat.le_of_ble_eq_true rfl) rfl rfl dX6_canWay_25 ?_
          refine gx_if_eq (tgt := 35) C dX6_canWay_28 (by decide) (fun qz11 => ?_) (fun qz11 => ?_)
          · rw [if_pos qz11] at h
            refine gx_sub (lv2 := [none, none, none, none]) [false, false, false, false] rfl ?_
            exact gt_X6_canWay_35 C fu   Xz9 h
          · rw [if_neg qz11] at h
            refine gx_sub (lv2 := [none, none, none, none]) [false, false, false, false] rfl ?_
            exact gt_X6_canWay_31 C fu   Xz9 h
theorem dX6_isGoal_0 : decode cX6_isGoal 0 = .ok (.sipush 1600, 3) := by decide +kernel
theorem dX6_isGoal_3 : decode cX6_isGoal 3 = .ok (.iload_n 1, 1) := by decide +kernel
theorem dX6_isGoal_4 : decode cX6_isGoal 4 = .ok (.imul, 1) := by decide +kernel
theorem dX6_isGoal_5 : decode cX6_isGoal 5 = .ok (.sipush 200, 3) := by decide +kernel
theorem dX6_isGoal_8 : decode cX6_isGoal 8 = .ok (.iload_n 2, 1) := by decide +kernel
theorem dX6_isGoal_9 : decode cX6_isGoal 9 = .ok (.imul, 1) := by decide +kernel
theorem dX6_isGoal_10 : decode cX6_isGoal 10 = .ok (.iadd, 1) := by decide +kernel
theorem dX6_isGoal_11 : decode cX6_isGoal 11 = .ok (.istore 4, 2) := by decide +kernel
theorem dX6_isGoal_13 : decode cX6_isGoal 13 = .ok (.iconst 0, 1) := by decide +kernel
theorem dX6_isGoal_14 : decode cX6_isGoal 14 = .ok (.istore 5, 2) := by decide +kernel
theorem dX6_isGoal_16 : decode cX6_isGoal 16 = .ok (.iload 5, 2) := by decide +kernel
theorem dX6_isGoal_18 : decode cX6_isGoal 18 = .ok (.aload_n 0, 1) := by decide +kernel
theorem dX6_isGoal_19 : decode cX6_isGoal 19 = .ok (.getfield 25, 3) := by decide +kernel
theorem dX6_isGoal_22 : decode cX6_isGoal 22 = .ok (.bipush 8, 2) := by decide +kernel
theorem dX6_isGoal_24 : decode cX6_isGoal 24 = .ok (.iload_n 1, 1) := by decide +kernel
theorem dX6_isGoal_25 : decode cX6_isGoal 25 = .ok (.imul, 1) := by decide +kernel
theorem dX6_isGoal_26 : decode cX6_isGoal 26 = .ok (.iload_n 2, 1) := by decide +kernel
theorem dX6_isGoal_27 : decode cX6_isGoal 27 = .ok (.iadd, 1) := by decide +kernel
theorem dX6_isGoal_28 : decode cX6_isGoal 28 = .ok (.iaload, 1) := by decide +kernel
theorem dX6_isGoal_29 : decode cX6_isGoal 29 = .ok (.if_icmp .ge 53, 3) := by decide +kernel
theorem dX6_isGoal_32 : decode cX6_isGoal 32 = .ok (.aload_n 0, 1) := by decide +kernel
theorem dX6_isGoal_33 : decode cX6_isGoal 33 = .ok (.getfield 31, 3) := by decide +kernel
theorem dX6_isGoal_36 : decode cX6_isGoal 36 = .ok (.iload 4, 2) := by decide +kernel
theorem dX6_isGoal_38 : decode cX6_isGoal 38 = .ok (.iload 5, 2) := by decide +kernel
theorem dX6_isGoal_40 : decode cX6_isGoal 40 = .ok (.iadd, 1) := by decide +kernel
theorem dX6_isGoal_41 : decode cX6_isGoal 41 = .ok (.iaload, 1) := by decide +kernel
theorem dX6_isGoal_42 : decode cX6_isGoal 42 = .ok (.iconst 1, 1) := by decide +kernel
theorem dX6_isGoal_43 : decode cX6_isGoal 43 = .ok (.if_icmp .eq 17, 3) := by decide +kernel
theorem dX6_isGoal_46 : decode cX6_isGoal 46 = .ok (.aload_n 0, 1) := by decide +kernel
theorem dX6_isGoal_47 : decode cX6_isGoal 47 = .ok (.getfield 31, 3) := by decide +kernel
theorem dX6_isGoal_50 : decode cX6_isGoal 50 = .ok (.iload 4, 2) := by decide +kernel
theorem dX6_isGoal_52 : decode cX6_isGoal 52 = .ok (.iload 5, 2) := by decide +kernel
theorem dX6_isGoal_54 : decode cX6_isGoal 54 = .ok (.iadd, 1) := by decide +kernel
theorem dX6_isGoal_55 : decode cX6_isGoal 55 = .ok (.iaload, 1) := by decide +kernel
theorem dX6_isGoal_56 : decode cX6_isGoal 56 = .ok (.iconst 2, 1) := by decide +kernel
theorem dX6_isGoal_57 : decode cX6_isGoal 57 = .ok (.if_icmp .ne 19, 3) := by decide +kernel
theorem dX6_isGoal_60 : decode cX6_isGoal 60 = .ok (.aload_n 0, 1) := by decide +kernel
theorem dX6_isGoal_61 : decode cX6_isGoal 61 = .ok (.getfield 34, 3) := by decide +kernel
theorem dX6_isGoal_64 : decode cX6_isGoal 64 = .ok (.iload 4, 2) := by decide +kernel
theorem dX6_isGoal_66 : decode cX6_isGoal 66 = .ok (.iload 5, 2) := by decide +kernel
theorem dX6_isGoal_68 : decode cX6_isGoal 68 = .ok (.iadd, 1) := by decide +kernel
theorem dX6_isGoal_69 : decode cX6_isGoal 69 = .ok (.iaload, 1) := by decide +kernel
theorem dX6_isGoal_70 : decode cX6_isGoal 70 = .ok (.iload_n 3, 1) := by decide +kernel
theorem dX6_isGoal_71 : decode cX6_isGoal 71 = .ok (.if_icmp .ne 5, 3) := by decide +kernel
theorem dX6_isGoal_74 : decode cX6_isGoal 74 = .ok (.iconst 1, 1) := by decide +kernel
theorem dX6_isGoal_75 : decode cX6_isGoal 75 = .ok (.ireturn, 1) := by decide +kernel
theorem dX6_isGoal_76 : decode cX6_isGoal 76 = .ok (.iinc 5 1, 3) := by decide +kernel
theorem dX6_isGoal_79 : decode cX6_isGoal 79 = .ok (.goto (-63), 3) := by decide +kernel
theorem dX6_isGoal_82 : decode cX6_isGoal 82 = .ok (.bipush 6, 2) := by decide +kernel
theorem dX6_isGoal_84 : decode cX6_isGoal 84 = .ok (.bipush 8, 2) := by decide +kernel
theorem dX6_isGoal_86 : decode cX6_isGoal 86 = .ok (.iload_n 1, 1) := by decide +kernel
theorem dX6_isGoal_87 : decode cX6_isGoal 87 = .ok (.imul, 1) := by decide +kernel
theorem dX6_isGoal_88 : decode cX6_isGoal 88 = .ok (.iload_n 2, 1) := by decide +kernel
theorem dX6_isGoal_89 : decode cX6_isGoal 89 = .ok (.iadd, 1) := by decide +kernel
theorem dX6_isGoal_90 : decode cX6_isGoal 90 = .ok (.imul, 1) := by decide +kernel
theorem dX6_isGoal_91 : decode cX6_isGoal 91 = .ok (.istore 5, 2) := by decide +kernel
theorem dX6_isGoal_93 : decode cX6_isGoal 93 = .ok (.iload 5, 2) := by decide +kernel
theorem dX6_isGoal_95 : decode cX6_isGoal 95 = .ok (.bipush 6, 2) := by decide +kernel
theorem dX6_isGoal_97 : decode cX6_isGoal 97 = .ok (.bipush 8, 2) := by decide +kernel
theorem dX6_isGoal_99 : decode cX6_isGoal 99 = .ok (.iload_n 1, 1) := by decide +kernel
theorem dX6_isGoal_100 : decode cX6_isGoal 100 = .ok (.imul, 1) := by decide +kernel
theorem dX6_isGoal_101 : decode cX6_isGoal 101 = .ok (.iload_n 2, 1) := by decide +kernel
theorem dX6_isGoal_102 : decode cX6_isGoal 102 = .ok (.iadd, 1) := by decide +kernel
theorem dX6_isGoal_103 : decode cX6_isGoal 103 = .ok (.imul, 1) := by decide +kernel
theorem dX6_isGoal_104 : decode cX6_isGoal 104 = .ok (.aload_n 0, 1) := by decide +kernel
theorem dX6_isGoal_105 : decode cX6_isGoal 105 = .ok (.getfield 28, 3) := by decide +kernel
theorem dX6_isGoal_108 : decode cX6_isGoal 108 = .ok (.bipush 8, 2) := by decide +kernel
theorem dX6_isGoal_110 : decode cX6_isGoal 110 = .ok (.iload_n 1, 1) := by decide +kernel
theorem dX6_isGoal_111 : decode cX6_isGoal 111 = .ok (.imul, 1) := by decide +kernel
theorem dX6_isGoal_112 : decode cX6_isGoal 112 = .ok (.iload_n 2, 1) := by decide +kernel
theorem dX6_isGoal_113 : decode cX6_isGoal 113 = .ok (.iadd, 1) := by decide +kernel
theorem dX6_isGoal_114 : decode cX6_isGoal 114 = .ok (.iaload, 1) := by decide +kernel
theorem dX6_isGoal_115 : decode cX6_isGoal 115 = .ok (.iadd, 1) := by decide +kernel
theorem dX6_isGoal_116 : decode cX6_isGoal 116 = .ok (.if_icmp .ge 22, 3) := by decide +kernel
theorem dX6_isGoal_119 : decode cX6_isGoal 119 = .ok (.aload_n 0, 1) := by decide +kernel
theorem dX6_isGoal_120 : decode cX6_isGoal 120 = .ok (.getfield 43, 3) := by decide +kernel
theorem dX6_isGoal_123 : decode cX6_isGoal 123 = .ok (.iload 5, 2) := by decide +kernel
theorem dX6_isGoal_125 : decode cX6_isGoal 125 = .ok (.iaload, 1) := by decide +kernel
theorem dX6_isGoal_126 : decode cX6_isGoal 126 = .ok (.iload_n 3, 1) := by decide +kernel
theorem dX6_isGoal_127 : decode cX6_isGoal 127 = .ok (.if_icmp .ne 5, 3) := by decide +kernel
theorem dX6_isGoal_130 : decode cX6_isGoal 130 = .ok (.iconst 1, 1) := by decide +kernel
theorem dX6_isGoal_131 : decode cX6_isGoal 131 = .ok (.ireturn, 1) := by decide +kernel
theorem dX6_isGoal_132 : decode cX6_isGoal 132 = .ok (.iinc 5 1, 3) := by decide +kernel
theorem dX6_isGoal_135 : decode cX6_isGoal 135 = .ok (.goto (-42), 3) := by decide +kernel
theorem dX6_isGoal_138 : decode cX6_isGoal 138 = .ok (.iconst 0, 1) := by decide +kernel
theorem dX6_isGoal_139 : decode cX6_isGoal 139 = .ok (.ireturn, 1) := by decide +kernel
def gm_X6_isGoal_76 (fu : Nat) (K16 : Nat → Int32 → Int32 → Int32 → Int32 → Int32 → gx_H → Option (Int32 × gx_H)) (a0 : Nat) (x1 : Int32) (x2 : Int32) (x3 : Int32) (x4 : Int32) (x5 : Int32) (X : gx_H) : Option (Int32 × gx_H) :=
  K16 a0 x1 x2 x3 x4 (x5 + 1) X
set_option maxHeartbeats 1000000 in
set_option maxRecDepth 20000 in
theorem gt_X6_isGoal_76 {p : Program} {l : Launch} {e : Env} {s : State} {m : MethodId} {args : Array Value} {below : List Frame} {meth : Method} {c : Code} {D : gx_D} {r : Int32} {X2 : gx_H}  (C : gx_C D gz_cl gz_at gz_tb gz_nb p s m meth c cX6_isGoal 6 RX6 (some .boolean)) (fu : Nat) (K16 : Nat → Int32 → Int32 → Int32 → Int32 → Int32 → gx_H → Option (Int32 × gx_H)) (hK16 : ∀ (a0 : Nat) (x1 : Int32) (x2 : Int32) (x3 : Int32) (x4 : Int32) (x5 : Int32) (X : gx_H), K16 a0 x1 x2 x3 x4 x5 X = some (r, X2) → gx_W D gz_cl 6 p l e (gx_rm 0 0 0 0) s m args below meth c 0 0 (MQ below (gx_Q D gz_cl (some (gx_i r)) X2) args s 0 0 (gx_Z D)) X 16 [some (gx_r (some a0)), some (gx_i x1), some (gx_i x2), some (gx_i x3), some (gx_i x4), some (gx_i x5)] []) (a0 : Nat) (x1 : Int32) (x2 : Int32) (x3 : Int32) (x4 : Int32) (x5 : Int32) (X : gx_H) (h : gm_X6_isGoal_76 fu K16 a0 x1 x2 x3 x4 x5 X = some (r, X2)) : gx_W D gz_cl 6 p l e (gx_rm 0 0 0 0) s m args below meth c 0 0 (MQ below (gx_Q D gz_cl (some (gx_i r)) X2) args s 0 0 (gx_Z D)) X 76 [some (gx_r (some a0)), some (gx_i x1), some (gx_i x2), some (gx_i x3), some (gx_i x4), some (gx_i x5)] [] := by
  unfold gm_X6_isGoal_76 at h
  refine gx_iinc (v := (x5 + 1)) (lv2 := [some (gx_r (some a0)), some (gx_i x1), some (gx_i x2), some (gx_i x3), some (gx_i x4), some (gx_i (x5 + 1))]) C dX6_isGoal_76 rfl rfl (by decide) rfl ?_
  refine gx_goto (tgt := 16) C dX6_isGoal_79 (by decide) ?_
  exact hK16 a0 x1 x2 x3 x4 (x5 + 1) X h
def gm_X6_isGoal_60 (fu : Nat) (K16 : Nat → Int32 → Int32 → Int32 → Int32 → Int32 → gx_H → Option (Int32 × gx_H)) (a0 : Nat) (x1 : Int32) (x2 : Int32) (x3 : Int32) (x4 : Int32) (x5 : Int32) (X : gx_H) : Option (Int32 × gx_H) :=
  (gx_gd X a0 6 8).bind fun az1 =>
  (gx_gai X az1 0 (x4 + x5)).bind fun vz2 =>
  if vz2 = x3 then (
  some ((1 : Int32), X)) else (
  gm_X6_isGoal_76 fu K16 a0 x1 x2 x3 x4 x5 X)
set_option maxHeartbeats 1000000 in
set_option maxRecDepth 20000 in
theorem gt_X6_isGoal_60 {p : Program} {l : Launch} {e : Env} {s : State} {m : MethodId} {args : Array Value} {below : List Frame} {meth : Method} {c : Code} {D : gx_D} {r : Int32} {X2 : gx_H}  (C : gx_C D gz_cl gz_at gz_tb gz_nb p s m meth c cX6_isGoal 6 RX6 (some .boolean)) (fu : Nat) (K16 : Nat → Int32 → Int32 → Int32 → Int32 → Int32 → gx_H → Option (Int32 × gx_H)) (hK16 : ∀ (a0 : Nat) (x1 : Int32) (x2 : Int32) (x3 : Int32) (x4 : Int32) (x5 : Int32) (X : gx_H), K16 a0 x1 x2 x3 x4 x5 X = some (r, X2) → gx_W D gz_cl 6 p l e (gx_rm 0 0 0 0) s m args below meth c 0 0 (MQ below (gx_Q D gz_cl (some (gx_i r)) X2) args s 0 0 (gx_Z D)) X 16 [some (gx_r (some a0)), some (gx_i x1), some (gx_i x2), some (gx_i x3), some (gx_i x4), some (gx_i x5)] []) (a0 : Nat) (x1 : Int32) (x2 : Int32) (x3 : Int32) (x4 : Int32) (x5 : Int32) (X : gx_H) (h : gm_X6_isGoal_60 fu K16 a0 x1 x2 x3 x4 x5 X = some (r, X2)) : gx_W D gz_cl 6 p l e (gx_rm 0 0 0 0) s m args below meth c 0 0 (MQ below (gx_Q D gz_cl (some (gx_i r)) X2) args s 0 0 (gx_Z D)) X 60 [some (gx_r (some a0)), some (gx_i x1), some (gx_i x2), some (gx_i x3), some (gx_i x4), some (gx_i x5)] [] := by
  unfold gm_X6_isGoal_60 at h
  refine gx_aload_n C dX6_isGoal_60 rfl rfl ?_
  obtain ⟨az1, eaz1, h⟩ := gx_bd h
  refine gx_get C kcX6 8 (by decide) wl_505 (gx_gd_s eaz1) dX6_isGoal_61 ?_
  refine gx_iload C dX6_isGoal_64 rfl ?_
  refine gx_iload C dX6_isGoal_66 rfl ?_
  refine gx_iadd C dX6_isGoal_68 ?_
  obtain ⟨vz2, evz2, h⟩ := gx_bd h
  refine gx_iald C (t := 0) rfl evz2 dX6_isGoal_69 ?_
  refine gx_iload_n C dX6_isGoal_70 rfl rfl ?_
  refine gx_icmp_ne (tgt := 76) C dX6_isGoal_71 (by decide) (fun qz3 => ?_) (fun qz3 => ?_)
  · rw [if_neg qz3] at h
    exact gt_X6_isGoal_76 C fu K16 hK16 a0 x1 x2 x3 x4 x5 X h
  · rw [if_pos qz3] at h
    refine gx_iconst (v := 1) C dX6_isGoal_74 (by decide) ?_
    cases h
    exact gx_zret (Or.inr rfl) C dX6_isGoal_75
def gm_X6_isGoal_93 (fu : Nat) : Nat → Nat → Int32 → Int32 → Int32 → Int32 → gx_H → Option (Int32 × gx_H)
  | 0, _, _, _, _, _, _ => none
  | n + 1, a0, x1, x2, x3, x5, X =>
    (gx_gd X a0 6 6).bind fun az4 =>
    (gx_gai X az4 0 (((8 : Int32) * x1) + x2)).bind fun vz5 =>
    if (((6 : Int32) * (((8 : Int32) * x1) + x2)) + vz5) ≤ x5 then (
    some ((0 : Int32), X)) else (
    (gx_gd X a0 6 11).bind fun az7 =>
    (gx_gai X az7 0 x5).bind fun vz8 =>
    if vz8 = x3 then (
    some ((1 : Int32), X)) else (
    (gm_X6_isGoal_93 fu  n) a0 x1 x2 x3 (x5 + 1) X))
set_option maxHeartbeats 1000000 in
set_option maxRecDepth 20000 in
theorem gt_X6_isGoal_93 {p : Program} {l : Launch} {e : Env} {s : State} {m : MethodId} {args : Array Value} {below : List Frame} {meth : Method} {c : Code} {D : gx_D} {r : Int32} {X2 : gx_H}  (C : gx_C D gz_cl gz_at gz_tb gz_nb p s m meth c cX6_isGoal 6 RX6 (some .boolean)) (fu : Nat) : ∀ (n : Nat) (a0 : Nat) (x1 : Int32) (x2 : Int32) (x3 : Int32) (x5 : Int32) (X : gx_H) , gm_X6_isGoal_93 fu  n a0 x1 x2 x3 x5 X = some (r, X2) → gx_W D gz_cl 6 p l e (gx_rm 0 0 0 0) s m args below meth c 0 0 (MQ below (gx_Q D gz_cl (some (gx_i r)) X2) args s 0 0 (gx_Z D)) X 93 [some (gx_r (some a0)), some (gx_i x1), some (gx_i x2), some (gx_i x3), none, some (gx_i x5)] [] := by
  intro n
  induction n with
  | zero =>
    intro a0 x1 x2 x3 x5 X h
    have h : none = some _ := h
    cases h
  | succ n ih =>
    intro a0 x1 x2 x3 x5 X h
    rw [gm_X6_isGoal_93] at h
    refine gx_iload C dX6_isGoal_93 rfl ?_
    refine gx_bipush (v := 6) C dX6_isGoal_95 (by decide) ?_
    refine gx_bipush (v := 8) C dX6_isGoal_97 (by decide) ?_
    refine gx_iload_n C dX6_isGoal_99 rfl rfl ?_
    refine gx_imul C dX6_isGoal_100 ?_
    refine gx_iload_n C dX6_isGoal_101 rfl rfl ?_
    refine gx_iadd C dX6_isGoal_102 ?_
    refine gx_imul C dX6_isGoal_103 ?_
    refine gx_aload_n C dX6_isGoal_104 rfl rfl ?_
    obtain ⟨az4, eaz4, h⟩ := gx_bd h
    refine gx_get C kcX6 6 (by decide) wl_503 (gx_gd_s eaz4) dX6_isGoal_105 ?_
    refine gx_bipush (v := 8) C dX6_isGoal_108 (by decide) ?_
    refine gx_iload_n C dX6_isGoal_110 rfl rfl ?_
    refine gx_imul C dX6_isGoal_111 ?_
    refine gx_iload_n C dX6_isGoal_112 rfl rfl ?_
    refine gx_iadd C dX6_isGoal_113 ?_
    obtain ⟨vz5, evz5, h⟩ := gx_bd h
    refine gx_iald C (t := 0) rfl evz5 dX6_isGoal_114 ?_
    refine gx_iadd C dX6_isGoal_115 ?_
    refine gx_icmp_ge (tgt := 138) C dX6_isGoal_116 (by decide) (fun qz6 => ?_) (fun qz6 => ?_)
    · rw [if_pos qz6] at h
      refine gx_iconst (v := 0) C dX6_isGoal_138 (by decide) ?_
      cases h
      exact gx_zret (Or.inl rfl) C dX6_isGoal_139
    · rw [if_neg qz6] at h
      refine gx_aload_n C dX6_isGoal_119 rfl rfl ?_
      obtain ⟨az7, eaz7, h⟩ := gx_bd h
      refine gx_get C kcX6 11 (by decide) wl_508 (gx_gd_s eaz7) dX6_isGoal_120 ?_
      refine gx_iload C dX6_isGoal_123 rfl ?_
      obtain ⟨vz8, evz8, h⟩ := gx_bd h
      refine gx_iald C (t := 0) rfl evz8 dX6_isGoal_125 ?_
      refine gx_iload_n C dX6_isGoal_126 rfl rfl ?_
      refine gx_icmp_ne (tgt := 132) C dX6_isGoal_127 (by decide) (fun qz9 => ?_) (fun qz9 => ?_)
      · rw [if_neg qz9] at h
        refine gx_iinc (v := (x5 + 1)) (lv2 := [some (gx_r (some a0)), some (gx_i x1), some (gx_i x2), some (gx_i x3), none, some (gx_i (x5 + 1))]) C dX6_isGoal_132 rfl rfl (by decide) rfl ?_
        refine gx_goto (tgt := 93) C dX6_isGoal_135 (by decide) ?_
        exact ih a0 x1 x2 x3 (x5 + 1) X h
      · rw [if_pos qz9] at h
        refine gx_iconst (v := 1) C dX6_isGoal_130 (by decide) ?_
        cases h
        exact gx_zret (Or.inr rfl) C dX6_isGoal_131
def gm_X6_isGoal_16 (fu : Nat) : Nat → Nat → Int32 → Int32 → Int32 → Int32 → Int32 → gx_H → Option (Int32 × gx_H)
  | 0, _, _, _, _, _, _, _ => none
  | n + 1, a0, x1, x2, x3, x4, x5, X =>
    (gx_gd X a0 6 5).bind fun az10 =>
    (gx_gai X az10 0 (((8 : Int32) * x1) + x2)).bind fun vz11 =>
    if vz11 ≤ x5 then (
    gm_X6_isGoal_93 fu  fu a0 x1 x2 x3 ((6 : Int32) * (((8 : Int32) * x1) + x2)) X) else (
    (gx_gd X a0 6 7).bind fun az13 =>
    (gx_gai X az13 0 (x4 + x5)).bind fun vz14 =>
    if vz14 = (1 : Int32) then (
    gm_X6_isGoal_60 fu (gm_X6_isGoal_16 fu  n) a0 x1 x2 x3 x4 x5 X) else (
    (gx_gd X a0 6 7).bind fun az16 =>
    (gx_gai X az16 0 (x4 + x5)).bind fun vz17 =>
    if vz17 = (2 : Int32) then (
    gm_X6_isGoal_60 fu (gm_X6_isGoal_16 fu  n) a0 x1 x2 x3 x4 x5 X) else (
    gm_X6_isGoal_76 fu (gm_X6_isGoal_16 fu  n) a0 x1 x2 x3 x4 x5 X)))
set_option maxHeartbeats 1000000 in
set_option maxRecDepth 20000 in
theorem gt_X6_isGoal_16 {p : Program} {l : Launch} {e : Env} {s : State} {m : MethodId} {args : Array Value} {below : List Frame} {meth : Method} {c : Code} {D : gx_D} {r : Int32} {X2 : gx_H}  (C : gx_C D gz_cl gz_at gz_tb gz_nb p s m meth c cX6_isGoal 6 RX6 (some .boolean)) (fu : Nat) : ∀ (n : Nat) (a0 : Nat) (x1 : Int32) (x2 : Int32) (x3 : Int32) (x4 : Int32) (x5 : Int32) (X : gx_H) , gm_X6_isGoal_16 fu  n a0 x1 x2 x3 x4 x5 X = some (r, X2) → gx_W D gz_cl 6 p l e (gx_rm 0 0 0 0) s m args below meth c 0 0 (MQ below (gx_Q D gz_cl (some (gx_i r)) X2) args s 0 0 (gx_Z D)) X 16 [some (gx_r (some a0)), some (gx_i x1), some (gx_i x2), some (gx_i x3), some (gx_i x4), some (gx_i x5)] [] := by
  intro n
  induction n with
  | zero =>
    intro a0 x1 x2 x3 x4 x5 X h
    have h : none = some _ := h
    cases h
  | succ n ih =>
    intro a0 x1 x2 x3 x4 x5 X h
    rw [gm_X6_isGoal_16] at h
    refine gx_iload C dX6_isGoal_16 rfl ?_
    refine gx_aload_n C dX6_isGoal_18 rfl rfl ?_
    obtain ⟨az10, eaz10, h⟩ := gx_bd h
    refine gx_get C kcX6 5 (by decide) wl_502 (gx_gd_s eaz10) dX6_isGoal_19 ?_
    refine gx_bipush (v := 8) C dX6_isGoal_22 (by decide) ?_
    refine gx_iload_n C dX6_isGoal_24 rfl rfl ?_
    refine gx_imul C dX6_isGoal_25 ?_
    refine gx_iload_n C dX6_isGoal_26 rfl rfl ?_
    refine gx_iadd C dX6_isGoal_27 ?_
    obtain ⟨vz11, evz11, h⟩ := gx_bd h
    refine gx_iald C (t := 0) rfl evz11 dX6_isGoal_28 ?_
    refine gx_icmp_ge (tgt := 82) C dX6_isGoal_29 (by decide) (fun qz12 => ?_) (fun qz12 => ?_)
    · rw [if_pos qz12] at h
      refine gx_bipush (v := 6) C dX6_isGoal_82 (by decide) ?_
      refine gx_bipush (v := 8) C dX6_isGoal_84 (by decide) ?_
      refine gx_iload_n C dX6_isGoal_86 rfl rfl ?_
      refine gx_imul C dX6_isGoal_87 ?_
      refine gx_iload_n C dX6_isGoal_88 rfl rfl ?_
      refine gx_iadd C dX6_isGoal_89 ?_
      refine gx_imul C dX6_isGoal_90 ?_
      refine gx_istore (lv2 := [some (gx_r (some a0)), some (gx_i x1), some (gx_i x2), some (gx_i x3), some (gx_i x4), some (gx_i ((6 : Int32) * (((8 : Int32) * x1) + x2)))]) C dX6_isGoal_91 (by decide) rfl ?_
      refine gx_sub (lv2 := [some (gx_r (some a0)), some (gx_i x1), some (gx_i x2), some (gx_i x3), none, some (gx_i ((6 : Int32) * (((8 : Int32) * x1) + x2)))]) [true, true, true, true, false, true] rfl ?_
      exact gt_X6_isGoal_93 C fu  fu a0 x1 x2 x3 ((6 : Int32) * (((8 : Int32) * x1) + x2)) X h
    · rw [if_neg qz12] at h
      refine gx_aload_n C dX6_isGoal_32 rfl rfl ?_
      obtain ⟨az13, eaz13, h⟩ := gx_bd h
      refine gx_get C kcX6 7 (by decide) wl_504 (gx_gd_s eaz13) dX6_isGoal_33 ?_
      refine gx_iload C dX6_isGoal_36 rfl ?_
      refine gx_iload C dX6_isGoal_38 rfl ?_
      refine gx_iadd C dX6_isGoal_40 ?_
      obtain ⟨vz14, evz14, h⟩ := gx_bd h
      refine gx_iald C (t := 0) rfl evz14 dX6_isGoal_41 ?_
      refine gx_iconst (v := 1) C dX6_isGoal_42 (by decide) ?_
      refine gx_icmp_eq (tgt := 60) C dX6_isGoal_43 (by decide) (fun qz15 => ?_) (fun qz15 => ?_)
      · rw [if_pos qz15] at h
        exact gt_X6_isGoal_60 C fu (gm_X6_isGoal_16 fu  n) ih a0 x1 x2 x3 x4 x5 X h
      · rw [if_neg qz15] at h
        refine gx_aload_n C dX6_isGoal_46 rfl rfl ?_
        obtain ⟨az16, eaz16, h⟩ := gx_bd h
        refine gx_get C kcX6 7 (by decide) wl_504 (gx_gd_s eaz16) dX6_isGoal_47 ?_
        refine gx_iload C dX6_isGoal_50 rfl ?_
        refine gx_iload C dX6_isGoal_52 rfl ?_
        refine gx_iadd C dX6_isGoal_54 ?_
        obtain ⟨vz17, evz17, h⟩ := gx_bd h
        refine gx_iald C (t := 0) rfl evz17 dX6_isGoal_55 ?_
        refine gx_iconst (v := 2) C dX6_isGoal_56 (by decide) ?_
        refine gx_icmp_ne (tgt := 76) C dX6_isGoal_57 (by decide) (fun qz18 => ?_) (fun qz18 => ?_)
        · rw [if_neg qz18] at h
          exact gt_X6_isGoal_76 C fu (gm_X6_isGoal_16 fu  n) ih a0 x1 x2 x3 x4 x5 X h
        · rw [if_pos qz18] at h
          exact gt_X6_isGoal_60 C fu (gm_X6_isGoal_16 fu  n) ih a0 x1 x2 x3 x4 x5 X h
def gm_X6_isGoal (fu : Nat) (this : Nat) (p_0 : Int32) (p_1 : Int32) (p_2 : Int32) (X : gx_H) : Option (Int32 × gx_H) :=
  gm_X6_isGoal_16 fu  fu this p_0 p_1 p_2 (((1600 : Int32) * p_0) + ((200 : Int32) * p_1)) (0 : Int32) X
set_option maxHeartbeats 1000000 in
set_option maxRecDepth 20000 in
theorem gc_X6_isGoal {l : Launch} {D : gx_D} (fu : Nat) (this : Nat) (p_0 : Int32) (p_1 : Int32) (p_2 : Int32) (X : gx_H) (r : Int32) (X2 : gx_H) (h : gm_X6_isGoal fu this p_0 p_1 p_2 X = some (r, X2)) : gx_M D gz_cl gz_at gz_tb gz_nb l yX6_isGoal cX6_isGoal 6 (some .boolean) 0 0 [gx_r (some this), gx_i p_0, gx_i p_1, gx_i p_2] X (some (gx_i r)) X2 0 0 := by
  unfold gm_X6_isGoal at h
  refine gx_enter [some (gx_r (some this)), some (gx_i p_0), some (gx_i p_1), some (gx_i p_2), none, none] rfl (by decide) (Nat.le_of_ble_eq_true rfl) ?_
  intro p e s m below meth c C _
  refine gx_sipush (v := 1600) C dX6_isGoal_0 (by decide) ?_
  refine gx_iload_n C dX6_isGoal_3 rfl rfl ?_
  refine gx_imul C dX6_isGoal_4 ?_
  refine gx_sipush (v := 200) C dX6_isGoal_5 (by decide) ?_
  refine gx_iload_n C dX6_isGoal_8 rfl rfl ?_
  refine gx_imul C dX6_isGoal_9 ?_
  refine gx_iadd C dX6_isGoal_10 ?_
  refine gx_istore (lv2 := [some (gx_r (some this)), some (gx_i p_0), some (gx_i p_1), some (gx_i p_2), some (gx_i (((1600 : Int32) * p_0) + ((200 : Int32) * p_1))), none]) C dX6_isGoal_11 (by decide) rfl ?_
  refine gx_iconst (v := 0) C dX6_isGoal_13 (by decide) ?_
  refine gx_istore (lv2 := [some (gx_r (some this)), some (gx_i p_0), some (gx_i p_1), some (gx_i p_2), some (gx_i (((1600 : Int32) * p_0) + ((200 : Int32) * p_1))), some (gx_i (0 : Int32))]) C dX6_isGoal_14 (by decide) rfl ?_
  exact gt_X6_isGoal_16 C fu  fu this p_0 p_1 p_2 (((1600 : Int32) * p_0) + ((200 : Int32) * p_1)) (0 : Int32) X h
theorem dX6_isGuarded_0 : decode cX6_isGuarded 0 = .ok (.sipush 1600, 3) := by decide +kernel
theorem dX6_isGuarded_3 : decode cX6_isGuarded 3 = .ok (.iload_n 1, 1) := by decide +kernel
theorem dX6_isGuarded_4 : decode cX6_isGuarded 4 = .ok (.imul, 1) := by decide +kernel
theorem dX6_isGuarded_5 : decode cX6_isGuarded 5 = .ok (.sipush 200, 3) := by decide +kernel
theorem dX6_isGuarded_8 : decode cX6_isGuarded 8 = .ok (.iload_n 2, 1) := by decide +kernel
theorem dX6_isGuarded_9 : decode cX6_isGuarded 9 = .ok (.imul, 1) := by decide +kernel
theorem dX6_isGuarded_10 : decode cX6_isGuarded 10 = .ok (.iadd, 1) := by decide +kernel
theorem dX6_isGuarded_11 : decode cX6_isGuarded 11 = .ok (.iload_n 3, 1) := by decide +kernel
theorem dX6_isGuarded_12 : decode cX6_isGuarded 12 = .ok (.iadd, 1) := by decide +kernel
theorem dX6_isGuarded_13 : decode cX6_isGuarded 13 = .ok (.istore 4, 2) := by decide +kernel
theorem dX6_isGuarded_15 : decode cX6_isGuarded 15 = .ok (.aload_n 0, 1) := by decide +kernel
theorem dX6_isGuarded_16 : decode cX6_isGuarded 16 = .ok (.getfield 31, 3) := by decide +kernel
theorem dX6_isGuarded_19 : decode cX6_isGuarded 19 = .ok (.iload 4, 2) := by decide +kernel
theorem dX6_isGuarded_21 : decode cX6_isGuarded 21 = .ok (.iaload, 1) := by decide +kernel
theorem dX6_isGuarded_22 : decode cX6_isGuarded 22 = .ok (.iconst 4, 1) := by decide +kernel
theorem dX6_isGuarded_23 : decode cX6_isGuarded 23 = .ok (.if_icmp .ne 69, 3) := by decide +kernel
theorem dX6_isGuarded_26 : decode cX6_isGuarded 26 = .ok (.iload_n 3, 1) := by decide +kernel
theorem dX6_isGuarded_27 : decode cX6_isGuarded 27 = .ok (.ifCond .le 65, 3) := by decide +kernel
theorem dX6_isGuarded_30 : decode cX6_isGuarded 30 = .ok (.aload_n 0, 1) := by decide +kernel
theorem dX6_isGuarded_31 : decode cX6_isGuarded 31 = .ok (.getfield 31, 3) := by decide +kernel
theorem dX6_isGuarded_34 : decode cX6_isGuarded 34 = .ok (.iload 4, 2) := by decide +kernel
theorem dX6_isGuarded_36 : decode cX6_isGuarded 36 = .ok (.iload_n 3, 1) := by decide +kernel
theorem dX6_isGuarded_37 : decode cX6_isGuarded 37 = .ok (.ifCond .le 7, 3) := by decide +kernel
theorem dX6_isGuarded_40 : decode cX6_isGuarded 40 = .ok (.iconst 1, 1) := by decide +kernel
theorem dX6_isGuarded_41 : decode cX6_isGuarded 41 = .ok (.goto 4, 3) := by decide +kernel
theorem dX6_isGuarded_44 : decode cX6_isGuarded 44 = .ok (.iconst 0, 1) := by decide +kernel
theorem dX6_isGuarded_45 : decode cX6_isGuarded 45 = .ok (.isub, 1) := by decide +kernel
theorem dX6_isGuarded_46 : decode cX6_isGuarded 46 = .ok (.iaload, 1) := by decide +kernel
theorem dX6_isGuarded_47 : decode cX6_isGuarded 47 = .ok (.iconst 5, 1) := by decide +kernel
theorem dX6_isGuarded_48 : decode cX6_isGuarded 48 = .ok (.if_icmp .ne 44, 3) := by decide +kernel
theorem dX6_isGuarded_51 : decode cX6_isGuarded 51 = .ok (.aload_n 0, 1) := by decide +kernel
theorem dX6_isGuarded_52 : decode cX6_isGuarded 52 = .ok (.getfield 34, 3) := by decide +kernel
theorem dX6_isGuarded_55 : decode cX6_isGuarded 55 = .ok (.iload 4, 2) := by decide +kernel
theorem dX6_isGuarded_57 : decode cX6_isGuarded 57 = .ok (.iload_n 3, 1) := by decide +kernel
theorem dX6_isGuarded_58 : decode cX6_isGuarded 58 = .ok (.ifCond .le 7, 3) := by decide +kernel
theorem dX6_isGuarded_61 : decode cX6_isGuarded 61 = .ok (.iconst 1, 1) := by decide +kernel
theorem dX6_isGuarded_62 : decode cX6_isGuarded 62 = .ok (.goto 4, 3) := by decide +kernel
theorem dX6_isGuarded_65 : decode cX6_isGuarded 65 = .ok (.iconst 0, 1) := by decide +kernel
theorem dX6_isGuarded_66 : decode cX6_isGuarded 66 = .ok (.isub, 1) := by decide +kernel
theorem dX6_isGuarded_67 : decode cX6_isGuarded 67 = .ok (.iaload, 1) := by decide +kernel
theorem dX6_isGuarded_68 : decode cX6_isGuarded 68 = .ok (.aload_n 0, 1) := by decide +kernel
theorem dX6_isGuarded_69 : decode cX6_isGuarded 69 = .ok (.getfield 34, 3) := by decide +kernel
theorem dX6_isGuarded_72 : decode cX6_isGuarded 72 = .ok (.iload 4, 2) := by decide +kernel
theorem dX6_isGuarded_74 : decode cX6_isGuarded 74 = .ok (.iaload, 1) := by decide +kernel
theorem dX6_isGuarded_75 : decode cX6_isGuarded 75 = .ok (.if_icmp .ne 17, 3) := by decide +kernel
theorem dX6_isGuarded_78 : decode cX6_isGuarded 78 = .ok (.aload_n 0, 1) := by decide +kernel
theorem dX6_isGuarded_79 : decode cX6_isGuarded 79 = .ok (.iload_n 1, 1) := by decide +kernel
theorem dX6_isGuarded_80 : decode cX6_isGuarded 80 = .ok (.iload_n 2, 1) := by decide +kernel
theorem dX6_isGuarded_81 : decode cX6_isGuarded 81 = .ok (.iload_n 3, 1) := by decide +kernel
theorem dX6_isGuarded_82 : decode cX6_isGuarded 82 = .ok (.invokevirtual 94, 3) := by decide +kernel
theorem dX6_isGuarded_85 : decode cX6_isGuarded 85 = .ok (.ifCond .ne 7, 3) := by decide +kernel
theorem dX6_isGuarded_88 : decode cX6_isGuarded 88 = .ok (.iconst 1, 1) := by decide +kernel
theorem dX6_isGuarded_89 : decode cX6_isGuarded 89 = .ok (.goto 4, 3) := by decide +kernel
theorem dX6_isGuarded_92 : decode cX6_isGuarded 92 = .ok (.iconst 0, 1) := by decide +kernel
theorem dX6_isGuarded_93 : decode cX6_isGuarded 93 = .ok (.ireturn, 1) := by decide +kernel
def gm_X6_isGuarded_92 (fu : Nat)  (X : gx_H) : Option (Int32 × gx_H) :=
  some ((0 : Int32), X)
set_option maxHeartbeats 1000000 in
set_option maxRecDepth 20000 in
theorem gt_X6_isGuarded_92 {p : Program} {l : Launch} {e : Env} {s : State} {m : MethodId} {args : Array Value} {below : List Frame} {meth : Method} {c : Code} {D : gx_D} {r : Int32} {X2 : gx_H}  (C : gx_C D gz_cl gz_at gz_tb gz_nb p s m meth c cX6_isGuarded 5 RX6 (some .boolean)) (fu : Nat)  (X : gx_H) (h : gm_X6_isGuarded_92 fu   X = some (r, X2)) : gx_W D gz_cl 5 p l e (gx_rm 1 25 0 0) s m args below meth c 0 0 (MQ below (gx_Q D gz_cl (some (gx_i r)) X2) args s 0 0 (gx_Z D)) X 92 [none, none, none, none, none] [] := by
  unfold gm_X6_isGuarded_92 at h
  refine gx_iconst (v := 0) C dX6_isGuarded_92 (by decide) ?_
  cases h
  exact gx_zret (Or.inl rfl) C dX6_isGuarded_93
def gm_X6_isGuarded_66 (fu : Nat) (a0 : Nat) (x1 : Int32) (x2 : Int32) (x3 : Int32) (x4 : Int32) (sa0 : Nat) (sx1 : Int32) (sx2 : Int32) (X : gx_H) : Option (Int32 × gx_H) :=
  (gx_gai X sa0 0 (sx1 - sx2)).bind fun vz1 =>
  (gx_gd X a0 6 8).bind fun az2 =>
  (gx_gai X az2 0 x4).bind fun vz3 =>
  if vz1 = vz3 then (
  gx_ob X a0 6 <|
  gx_b2 (gm_X6_isGoal fu a0 x1 x2 x3 X) fun vz7 Xz6 =>
  if vz7 = 0 then (
  some ((1 : Int32), Xz6)) else (
  gm_X6_isGuarded_92 fu   Xz6)) else (
  gm_X6_isGuarded_92 fu   X)
set_option maxHeartbeats 1000000 in
set_option maxRecDepth 20000 in
theorem gt_X6_isGuarded_66 {p : Program} {l : Launch} {e : Env} {s : State} {m : MethodId} {args : Array Value} {below : List Frame} {meth : Method} {c : Code} {D : gx_D} {r : Int32} {X2 : gx_H}  (C : gx_C D gz_cl gz_at gz_tb gz_nb p s m meth c cX6_isGuarded 5 RX6 (some .boolean)) (fu : Nat) (a0 : Nat) (x1 : Int32) (x2 : Int32) (x3 : Int32) (x4 : Int32) (sa0 : Nat) (sx1 : Int32) (sx2 : Int32) (X : gx_H) (h : gm_X6_isGuarded_66 fu  a0 x1 x2 x3 x4 sa0 sx1 sx2 X = some (r, X2)) : gx_W D gz_cl 5 p l e (gx_rm 1 25 0 0) s m args below meth c 0 0 (MQ below (gx_Q D gz_cl (some (gx_i r)) X2) args s 0 0 (gx_Z D)) X 66 [some (gx_r (some a0)), some (gx_i x1), some (gx_i x2), some (gx_i x3), some (gx_i x4)] [gx_i sx2, gx_i sx1, gx_r (some sa0)] := by
  unfold gm_X6_isGuarded_66 at h
  refine gx_isub C dX6_isGuarded_66 ?_
  obtain ⟨vz1, evz1, h⟩ := gx_bd h
  refine gx_iald C (t := 0) rfl evz1 dX6_isGuarded_67 ?_
  refine gx_aload_n C dX6_isGuarded_68 rfl rfl ?_
  obtain ⟨az2, eaz2, h⟩ := gx_bd h
  refine gx_get C kcX6 8 (by decide) wl_505 (gx_gd_s eaz2) dX6_isGuarded_69 ?_
  refine gx_iload C dX6_isGuarded_72 rfl ?_
  obtain ⟨vz3, evz3, h⟩ := gx_bd h
  refine gx_iald C (t := 0) rfl evz3 dX6_isGuarded_74 ?_
  refine gx_icmp_ne (tgt := 92) C dX6_isGuarded_75 (by decide) (fun qz4 => ?_) (fun qz4 => ?_)
  · rw [if_neg qz4] at h
    refine gx_sub (lv2 := [none, none, none, none, none]) [false, false, false, false, false] rfl ?_
    exact gt_X6_isGuarded_92 C fu   X h
  · rw [if_pos qz4] at h
    refine gx_aload_n C dX6_isGuarded_78 rfl rfl ?_
    refine gx_iload_n C dX6_isGuarded_79 rfl rfl ?_
    refine gx_iload_n C dX6_isGuarded_80 rfl rfl ?_
    refine gx_iload_n C dX6_isGuarded_81 rfl rfl ?_
    obtain ⟨hoz5, h⟩ := gx_obs h
    obtain ⟨vz7, Xz6, eXz6, h⟩ := gx_bd2 h
    refine gx_callV (As := [gx_i x1, gx_i x2, gx_i x3]) (st := []) (stk2 := [gx_i vz7]) C cd_X6_isGoal wl_643 ws_X6_isGoal wl_641 rfl hoz5 (gc_X6_isGoal fu a0 x1 x2 x3 X vz7 Xz6 eXz6) rfl ⟨Nat.le_of_ble_eq_true rfl, Nat.le_of_ble_eq_true rfl⟩ ⟨Nat.le_of_ble_eq_true rfl, Nat.le_of_ble_eq_true rfl⟩ (Nat.le_of_ble_eq_true rfl) rfl rfl dX6_isGuarded_82 ?_
    refine gx_if_ne (tgt := 92) C dX6_isGuarded_85 (by decide) (fun qz8 => ?_) (fun qz8 => ?_)
    · rw [if_neg qz8] at h
      refine gx_sub (lv2 := [none, none, none, none, none]) [false, false, false, false, false] rfl ?_
      exact gt_X6_isGuarded_92 C fu   Xz6 h
    · rw [if_pos qz8] at h
      refine gx_iconst (v := 1) C dX6_isGuarded_88 (by decide) ?_
      refine gx_goto (tgt := 93) C dX6_isGuarded_89 (by decide) ?_
      cases h
      exact gx_zret (Or.inr rfl) C dX6_isGuarded_93
def gm_X6_isGuarded_45 (fu : Nat) (a0 : Nat) (x1 : Int32) (x2 : Int32) (x3 : Int32) (x4 : Int32) (sa0 : Nat) (sx1 : Int32) (sx2 : Int32) (X : gx_H) : Option (Int32 × gx_H) :=
  (gx_gai X sa0 0 (sx1 - sx2)).bind fun vz9 =>
  if vz9 = (5 : Int32) then (
  (gx_gd X a0 6 8).bind fun az11 =>
  if x3 ≤ 0 then (
  gm_X6_isGuarded_66 fu  a0 x1 x2 x3 x4 az11 x4 (0 : Int32) X) else (
  gm_X6_isGuarded_66 fu  a0 x1 x2 x3 x4 az11 x4 (1 : Int32) X)) else (
  gm_X6_isGuarded_92 fu   X)
set_option maxHeartbeats 1000000 in
set_option maxRecDepth 20000 in
theorem gt_X6_isGuarded_45 {p : Program} {l : Launch} {e : Env} {s : State} {m : MethodId} {args : Array Value} {below : List Frame} {meth : Method} {c : Code} {D : gx_D} {r : Int32} {X2 : gx_H}  (C : gx_C D gz_cl gz_at gz_tb gz_nb p s m meth c cX6_isGuarded 5 RX6 (some .boolean)) (fu : Nat) (a0 : Nat) (x1 : Int32) (x2 : Int32) (x3 : Int32) (x4 : Int32) (sa0 : Nat) (sx1 : Int32) (sx2 : Int32) (X : gx_H) (h : gm_X6_isGuarded_45 fu  a0 x1 x2 x3 x4 sa0 sx1 sx2 X = some (r, X2)) : gx_W D gz_cl 5 p l e (gx_rm 1 25 0 0) s m args below meth c 0 0 (MQ below (gx_Q D gz_cl (some (gx_i r)) X2) args s 0 0 (gx_Z D)) X 45 [some (gx_r (some a0)), some (gx_i x1), some (gx_i x2), some (gx_i x3), some (gx_i x4)] [gx_i sx2, gx_i sx1, gx_r (some sa0)] := by
  unfold gm_X6_isGuarded_45 at h
  refine gx_isub C dX6_isGuarded_45 ?_
  obtain ⟨vz9, evz9, h⟩ := gx_bd h
  refine gx_iald C (t := 0) rfl evz9 dX6_isGuarded_46 ?_
  refine gx_iconst (v := 5) C dX6_isGuarded_47 (by decide) ?_
  refine gx_icmp_ne (tgt := 92) C dX6_isGuarded_48 (by decide) (fun qz10 => ?_) (fun qz10 => ?_)
  · rw [if_neg qz10] at h
    refine gx_sub (lv2 := [none, none, none, none, none]) [false, false, false, false, false] rfl ?_
    exact gt_X6_isGuarded_92 C fu   X h
  · rw [if_pos qz10] at h
    refine gx_aload_n C dX6_isGuarded_51 rfl rfl ?_
    obtain ⟨az11, eaz11, h⟩ := gx_bd h
    refine gx_get C kcX6 8 (by decide) wl_505 (gx_gd_s eaz11) dX6_isGuarded_52 ?_
    refine gx_iload C dX6_isGuarded_55 rfl ?_
    refine gx_iload_n C dX6_isGuarded_57 rfl rfl ?_
    refine gx_if_le (tgt := 65) C dX6_isGuarded_58 (by decide) (fun qz12 => ?_) (fun qz12 => ?_)
    · rw [if_pos qz12] at h
      refine gx_iconst (v := 0) C dX6_isGuarded_65 (by decide) ?_
      exact gt_X6_isGuarded_66 C fu  a0 x1 x2 x3 x4 az11 x4 (0 : Int32) X h
    · rw [if_neg qz12] at h
      refine gx_iconst (v := 1) C dX6_isGuarded_61 (by decide) ?_
      refine gx_goto (tgt := 66) C dX6_isGuarded_62 (by decide) ?_
      exact gt_X6_isGuarded_66 C fu  a0 x1 x2 x3 x4 az11 x4 (1 : Int32) X h
def gm_X6_isGuarded (fu : Nat) (this : Nat) (p_0 : Int32) (p_1 : Int32) (p_2 : Int32) (X : gx_H) : Option (Int32 × gx_H) :=
  (gx_gd X this 6 7).bind fun az13 =>
  (gx_gai X az13 0 ((((1600 : Int32) * p_0) + ((200 : Int32) * p_1)) + p_2)).bind fun vz14 =>
  if vz14 = (4 : Int32) then (
  if p_2 ≤ 0 then (
  gm_X6_isGuarded_92 fu   X) else (
  (gx_gd X this 6 7).bind fun az17 =>
  if p_2 ≤ 0 then (
  gm_X6_isGuarded_45 fu  this p_0 p_1 p_2 ((((1600 : Int32) * p_0) + ((200 : Int32) * p_1)) + p_2) az17 ((((1600 : Int32) * p_0) + ((200 : Int32) * p_1)) + p_2) (0 : Int32) X) else (
  gm_X6_isGuarded_45 fu  this p_0 p_1 p_2 ((((1600 : Int32) * p_0) + ((200 : Int32) * p_1)) + p_2) az17 ((((1600 : Int32) * p_0) + ((200 : Int32) * p_1)) + p_2) (1 : Int32) X))) else (
  gm_X6_isGuarded_92 fu   X)
set_option maxHeartbeats 1000000 in
set_option maxRecDepth 20000 in
theorem gc_X6_isGuarded {l : Launch} {D : gx_D} (fu : Nat) (this : Nat) (p_0 : Int32) (p_1 : Int32) (p_2 : Int32) (X : gx_H) (r : Int32) (X2 : gx_H) (h : gm_X6_isGuarded fu this p_0 p_1 p_2 X = some (r, X2)) : gx_M D gz_cl gz_at gz_tb gz_nb l yX6_isGuarded cX6_isGuarded 5 (some .boolean) 1 25 [gx_r (some this), gx_i p_0, gx_i p_1, gx_i p_2] X (some (gx_i r)) X2 0 0 := by
  unfold gm_X6_isGuarded at h
  refine gx_enter [some (gx_r (some this)), some (gx_i p_0), some (gx_i p_1), some (gx_i p_2), none] rfl (by decide) (Nat.le_of_ble_eq_true rfl) ?_
  intro p e s m below meth c C _
  refine gx_sipush (v := 1600) C dX6_isGuarded_0 (by decide) ?_
  refine gx_iload_n C dX6_isGuarded_3 rfl rfl ?_
  refine gx_imul C dX6_isGuarded_4 ?_
  refine gx_sipush (v := 200) C dX6_isGuarded_5 (by decide) ?_
  refine gx_iload_n C dX6_isGuarded_8 rfl rfl ?_
  refine gx_imul C dX6_isGuarded_9 ?_
  refine gx_iadd C dX6_isGuarded_10 ?_
  refine gx_iload_n C dX6_isGuarded_11 rfl rfl ?_
  refine gx_iadd C dX6_isGuarded_12 ?_
  refine gx_istore (lv2 := [some (gx_r (some this)), some (gx_i p_0), some (gx_i p_1), some (gx_i p_2), some (gx_i ((((1600 : Int32) * p_0) + ((200 : Int32) * p_1)) + p_2))]) C dX6_isGuarded_13 (by decide) rfl ?_
  refine gx_aload_n C dX6_isGuarded_15 rfl rfl ?_
  obtain ⟨az13, eaz13, h⟩ := gx_bd h
  refine gx_get C kcX6 7 (by decide) wl_504 (gx_gd_s eaz13) dX6_isGuarded_16 ?_
  refine gx_iload C dX6_isGuarded_19 rfl ?_
  obtain ⟨vz14, evz14, h⟩ := gx_bd h
  refine gx_iald C (t := 0) rfl evz14 dX6_isGuarded_21 ?_
  refine gx_iconst (v := 4) C dX6_isGuarded_22 (by decide) ?_
  refine gx_icmp_ne (tgt := 92) C dX6_isGuarded_23 (by decide) (fun qz15 => ?_) (fun qz15 => ?_)
  · rw [if_neg qz15] at h
    refine gx_sub (lv2 := [none, none, none, none, none]) [false, false, false, false, false] rfl ?_
    exact gt_X6_isGuarded_92 C fu   X h
  · rw [if_pos qz15] at h
    refine gx_iload_n C dX6_isGuarded_26 rfl rfl ?_
    refine gx_if_le (tgt := 92) C dX6_isGuarded_27 (by decide) (fun qz16 => ?_) (fun qz16 => ?_)
    · rw [if_pos qz16] at h
      refine gx_sub (lv2 := [none, none, none, none, none]) [false, false, false, false, false] rfl ?_
      exact gt_X6_isGuarded_92 C fu   X h
    · rw [if_neg qz16] at h
      refine gx_aload_n C dX6_isGuarded_30 rfl rfl ?_
      obtain ⟨az17, eaz17, h⟩ := gx_bd h
      refine gx_get C kcX6 7 (by decide) wl_504 (gx_gd_s eaz17) dX6_isGuarded_31 ?_
      refine gx_iload C dX6_isGuarded_34 rfl ?_
      refine gx_iload_n C dX6_isGuarded_36 rfl rfl ?_
      refine gx_if_le (tgt := 44) C dX6_isGuarded_37 (by decide) (fun qz18 => ?_) (fun qz18 => ?_)
      · rw [if_pos qz18] at h
        refine gx_iconst (v := 0) C dX6_isGuarded_44 (by decide) ?_
        exact gt_X6_isGuarded_45 C fu  this p_0 p_1 p_2 ((((1600 : Int32) * p_0) + ((200 : Int32) * p_1)) + p_2) az17 ((((1600 : Int32) * p_0) + ((200 : Int32) * p_1)) + p_2) (0 : Int32) X h
      · rw [if_neg qz18] at h
        refine gx_iconst (v := 1) C dX6_isGuarded_40 (by decide) ?_
        refine gx_goto (tgt := 45) C dX6_isGuarded_41 (by decide) ?_
        exact gt_X6_isGuarded_45 C fu  this p_0 p_1 p_2 ((((1600 : Int32) * p_0) + ((200 : Int32) * p_1)) + p_2) az17 ((((1600 : Int32) * p_0) + ((200 : Int32) * p_1)) + p_2) (1 : Int32) X h
theorem dX6_join_0 : decode cX6_join 0 = .ok (.aload_n 1, 1) := by decide +kernel
theorem dX6_join_1 : decode cX6_join 1 = .ok (.iload_n 2, 1) := by decide +kernel
theorem dX6_join_2 : decode cX6_join 2 = .ok (.laload, 1) := by decide +kernel
theorem dX6_join_3 : decode cX6_join 3 = .ok (.lload_n 3, 1) := by decide +kernel
theorem dX6_join_4 : decode cX6_join 4 = .ok (.lor, 1) := by decide +kernel
theorem dX6_join_5 : decode cX6_join 5 = .ok (.aload_n 1, 1) := by decide +kernel
theorem dX6_join_6 : decode cX6_join 6 = .ok (.iload_n 2, 1) := by decide +kernel
theorem dX6_join_7 : decode cX6_join 7 = .ok (.laload, 1) := by decide +kernel
theorem dX6_join_8 : decode cX6_join 8 = .ok (.lcmp, 1) := by decide +kernel
theorem dX6_join_9 : decode cX6_join 9 = .ok (.ifCond .eq 15, 3) := by decide +kernel
theorem dX6_join_12 : decode cX6_join 12 = .ok (.aload_n 1, 1) := by decide +kernel
theorem dX6_join_13 : decode cX6_join 13 = .ok (.iload_n 2, 1) := by decide +kernel
theorem dX6_join_14 : decode cX6_join 14 = .ok (.dup2, 1) := by decide +kernel
theorem dX6_join_15 : decode cX6_join 15 = .ok (.laload, 1) := by decide +kernel
theorem dX6_join_16 : decode cX6_join 16 = .ok (.lload_n 3, 1) := by decide +kernel
theorem dX6_join_17 : decode cX6_join 17 = .ok (.lor, 1) := by decide +kernel
theorem dX6_join_18 : decode cX6_join 18 = .ok (.lastore, 1) := by decide +kernel
theorem dX6_join_19 : decode cX6_join 19 = .ok (.aload_n 0, 1) := by decide +kernel
theorem dX6_join_20 : decode cX6_join 20 = .ok (.iconst 1, 1) := by decide +kernel
theorem dX6_join_21 : decode cX6_join 21 = .ok (.putfield 97, 3) := by decide +kernel
theorem dX6_join_24 : decode cX6_join 24 = .ok (.return_, 1) := by decide +kernel
def gm_X6_join (fu : Nat) (this : Nat) (a_0 : Nat) (p_1 : Int32) (l_2 : Int64) (X : gx_H) : Option gx_H :=
  (gx_gal X a_0 1 p_1).bind fun vz1 =>
  (gx_gal X a_0 1 p_1).bind fun vz2 =>
  if (lg_cmp (vz1 ||| l_2) vz2) = 0 then (
  some X) else (
  (gx_gal X a_0 1 p_1).bind fun vz4 =>
  (gx_pal X a_0 1 p_1 (vz4 ||| l_2)).bind fun Xz5 =>
  (gx_pf Xz5 this 6 18 (.int (1 : Int32))).bind fun Xz6 =>
  some Xz6)
set_option maxHeartbeats 1000000 in
set_option maxRecDepth 20000 in
theorem gc_X6_join {l : Launch} {D : gx_D} (fu : Nat) (this : Nat) (a_0 : Nat) (p_1 : Int32) (l_2 : Int64) (X : gx_H) (X2 : gx_H) (h : gm_X6_join fu this a_0 p_1 l_2 X = some X2) : gx_M D gz_cl gz_at gz_tb gz_nb l yX6_join cX6_join 5 none 0 0 [gx_r (some this), gx_r (some a_0), gx_i p_1, gx_l l_2] X none X2 0 0 := by
  unfold gm_X6_join at h
  refine gx_enter [some (gx_r (some this)), some (gx_r (some a_0)), some (gx_i p_1), some (gx_l l_2), none] rfl (by decide) (Nat.le_of_ble_eq_true rfl) ?_
  intro p e s m below meth c C _
  refine gx_aload_n C dX6_join_0 rfl rfl ?_
  refine gx_iload_n C dX6_join_1 rfl rfl ?_
  obtain ⟨vz1, evz1, h⟩ := gx_bd h
  refine gx_lald C (t := 1) rfl evz1 dX6_join_2 ?_
  refine gx_lload_n C dX6_join_3 rfl rfl ?_
  refine gx_lor C dX6_join_4 ?_
  refine gx_aload_n C dX6_join_5 rfl rfl ?_
  refine gx_iload_n C dX6_join_6 rfl rfl ?_
  obtain ⟨vz2, evz2, h⟩ := gx_bd h
  refine gx_lald C (t := 1) rfl evz2 dX6_join_7 ?_
  refine gx_lcmp C dX6_join_8 ?_
  refine gx_if_eq (tgt := 24) C dX6_join_9 (by decide) (fun qz3 => ?_) (fun qz3 => ?_)
  · rw [if_pos qz3] at h
    cases h
    exact gx_vret C dX6_join_24
  · rw [if_neg qz3] at h
    refine gx_aload_n C dX6_join_12 rfl rfl ?_
    refine gx_iload_n C dX6_join_13 rfl rfl ?_
    refine gx_dup2 C dX6_join_14 rfl rfl ?_
    obtain ⟨vz4, evz4, h⟩ := gx_bd h
    refine gx_lald C (t := 1) rfl evz4 dX6_join_15 ?_
    refine gx_lload_n C dX6_join_16 rfl rfl ?_
    refine gx_lor C dX6_join_17 ?_
    obtain ⟨Xz5, eXz5, h⟩ := gx_bd h
    refine gx_last C (t := 1) rfl eXz5 dX6_join_18 ?_
    refine gx_aload_n C dX6_join_19 rfl rfl ?_
    refine gx_iconst (v := 1) C dX6_join_20 (by decide) ?_
    obtain ⟨Xz6, eXz6, h⟩ := gx_bd h
    refine gx_put C kcX6 18 (by decide) rfl wl_515 (gx_nz (Or.inr rfl)) eXz6 dX6_join_21 ?_
    cases h
    exact gx_vret C dX6_join_24
theorem dX6_wayAt_0 : decode cX6_wayAt 0 = .ok (.bipush 61, 2) := by decide +kernel
theorem dX6_wayAt_2 : decode cX6_wayAt 2 = .ok (.bipush 60, 2) := by decide +kernel
theorem dX6_wayAt_4 : decode cX6_wayAt 4 = .ok (.iload_n 0, 1) := by decide +kernel
theorem dX6_wayAt_5 : decode cX6_wayAt 5 = .ok (.imul, 1) := by decide +kernel
theorem dX6_wayAt_6 : decode cX6_wayAt 6 = .ok (.iload_n 1, 1) := by decide +kernel
theorem dX6_wayAt_7 : decode cX6_wayAt 7 = .ok (.iadd, 1) := by decide +kernel
theorem dX6_wayAt_8 : decode cX6_wayAt 8 = .ok (.imul, 1) := by decide +kernel
theorem dX6_wayAt_9 : decode cX6_wayAt 9 = .ok (.iload_n 2, 1) := by decide +kernel
theorem dX6_wayAt_10 : decode cX6_wayAt 10 = .ok (.iconst (-1), 1) := by decide +kernel
theorem dX6_wayAt_11 : decode cX6_wayAt 11 = .ok (.if_icmp .ne 8, 3) := by decide +kernel
theorem dX6_wayAt_14 : decode cX6_wayAt 14 = .ok (.bipush 60, 2) := by decide +kernel
theorem dX6_wayAt_16 : decode cX6_wayAt 16 = .ok (.goto 4, 3) := by decide +kernel
theorem dX6_wayAt_19 : decode cX6_wayAt 19 = .ok (.iload_n 2, 1) := by decide +kernel
theorem dX6_wayAt_20 : decode cX6_wayAt 20 = .ok (.iadd, 1) := by decide +kernel
theorem dX6_wayAt_21 : decode cX6_wayAt 21 = .ok (.ireturn, 1) := by decide +kernel
def gm_X6_wayAt (fu : Nat) (p_0 : Int32) (p_1 : Int32) (p_2 : Int32) (X : gx_H) : Option (Int32 × gx_H) :=
  if p_2 = (-1 : Int32) then (
  some ((((61 : Int32) * (((60 : Int32) * p_0) + p_1)) + (60 : Int32)), X)) else (
  some ((((61 : Int32) * (((60 : Int32) * p_0) + p_1)) + p_2), X))
set_option maxHeartbeats 1000000 in
set_option maxRecDepth 20000 in
theorem gc_X6_wayAt {l : Launch} {D : gx_D} (fu : Nat) (p_0 : Int32) (p_1 : Int32) (p_2 : Int32) (X : gx_H) (r : Int32) (X2 : gx_H) (h : gm_X6_wayAt fu p_0 p_1 p_2 X = some (r, X2)) : gx_M D gz_cl gz_at gz_tb gz_nb l yX6_wayAt cX6_wayAt 3 (some .int) 0 0 [gx_i p_0, gx_i p_1, gx_i p_2] X (some (gx_i r)) X2 0 0 := by
  unfold gm_X6_wayAt at h
  refine gx_enter [some (gx_i p_0), some (gx_i p_1), some (gx_i p_2)] rfl (by decide) (Nat.le_of_ble_eq_true rfl) ?_
  intro p e s m below meth c C _
  refine gx_bipush (v := 61) C dX6_wayAt_0 (by decide) ?_
  refine gx_bipush (v := 60) C dX6_wayAt_2 (by decide) ?_
  refine gx_iload_n C dX6_wayAt_4 rfl rfl ?_
  refine gx_imul C dX6_wayAt_5 ?_
  refine gx_iload_n C dX6_wayAt_6 rfl rfl ?_
  refine gx_iadd C dX6_wayAt_7 ?_
  refine gx_imul C dX6_wayAt_8 ?_
  refine gx_iload_n C dX6_wayAt_9 rfl rfl ?_
  refine gx_iconst (v := -1) C dX6_wayAt_10 (by decide) ?_
  refine gx_icmp_ne (tgt := 19) C dX6_wayAt_11 (by decide) (fun qz1 => ?_) (fun qz1 => ?_)
  · rw [if_neg qz1] at h
    refine gx_iload_n C dX6_wayAt_19 rfl rfl ?_
    refine gx_iadd C dX6_wayAt_20 ?_
    cases h
    exact gx_iret C dX6_wayAt_21
  · rw [if_pos qz1] at h
    refine gx_bipush (v := 60) C dX6_wayAt_14 (by decide) ?_
    refine gx_goto (tgt := 20) C dX6_wayAt_16 (by decide) ?_
    refine gx_iadd C dX6_wayAt_20 ?_
    cases h
    exact gx_iret C dX6_wayAt_21
