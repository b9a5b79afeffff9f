/-! methods: X0_isGuarded, X0_put, X0_renew, X4_waysFrom, X4_goneTo, X1_afterOf, X3_body, X1_forgetAll, X1_waitAt, X1_growMay, X1_growEntry, X1_growSummary, X1_init, X1_passOn -/
theorem dX0_isGuarded_0 : decode cX0_isGuarded 0 = .ok (.iload_n 1, 1) := by decide +kernel
theorem dX0_isGuarded_1 : decode cX0_isGuarded 1 = .ok (.ifCond .le 63, 3) := by decide +kernel
theorem dX0_isGuarded_4 : decode cX0_isGuarded 4 = .ok (.iload_n 1, 1) := by decide +kernel
theorem dX0_isGuarded_5 : decode cX0_isGuarded 5 = .ok (.aload_n 0, 1) := by decide +kernel
theorem dX0_isGuarded_6 : decode cX0_isGuarded 6 = .ok (.getfield 42, 3) := by decide +kernel
theorem dX0_isGuarded_9 : decode cX0_isGuarded 9 = .ok (.if_icmp .ge 55, 3) := by decide +kernel
theorem dX0_isGuarded_12 : decode cX0_isGuarded 12 = .ok (.aload_n 0, 1) := by decide +kernel
theorem dX0_isGuarded_13 : decode cX0_isGuarded 13 = .ok (.getfield 9, 3) := by decide +kernel
theorem dX0_isGuarded_16 : decode cX0_isGuarded 16 = .ok (.iload_n 1, 1) := by decide +kernel
theorem dX0_isGuarded_17 : decode cX0_isGuarded 17 = .ok (.iaload, 1) := by decide +kernel
theorem dX0_isGuarded_18 : decode cX0_isGuarded 18 = .ok (.iconst 4, 1) := by decide +kernel
theorem dX0_isGuarded_19 : decode cX0_isGuarded 19 = .ok (.if_icmp .ne 45, 3) := by decide +kernel
theorem dX0_isGuarded_22 : decode cX0_isGuarded 22 = .ok (.aload_n 0, 1) := by decide +kernel
theorem dX0_isGuarded_23 : decode cX0_isGuarded 23 = .ok (.getfield 9, 3) := by decide +kernel
theorem dX0_isGuarded_26 : decode cX0_isGuarded 26 = .ok (.iload_n 1, 1) := by decide +kernel
theorem dX0_isGuarded_27 : decode cX0_isGuarded 27 = .ok (.iconst 1, 1) := by decide +kernel
theorem dX0_isGuarded_28 : decode cX0_isGuarded 28 = .ok (.isub, 1) := by decide +kernel
theorem dX0_isGuarded_29 : decode cX0_isGuarded 29 = .ok (.iaload, 1) := by decide +kernel
theorem dX0_isGuarded_30 : decode cX0_isGuarded 30 = .ok (.iconst 5, 1) := by decide +kernel
theorem dX0_isGuarded_31 : decode cX0_isGuarded 31 = .ok (.if_icmp .ne 33, 3) := by decide +kernel
theorem dX0_isGuarded_34 : decode cX0_isGuarded 34 = .ok (.aload_n 0, 1) := by decide +kernel
theorem dX0_isGuarded_35 : decode cX0_isGuarded 35 = .ok (.getfield 15, 3) := by decide +kernel
theorem dX0_isGuarded_38 : decode cX0_isGuarded 38 = .ok (.iload_n 1, 1) := by decide +kernel
theorem dX0_isGuarded_39 : decode cX0_isGuarded 39 = .ok (.iaload, 1) := by decide +kernel
theorem dX0_isGuarded_40 : decode cX0_isGuarded 40 = .ok (.aload_n 0, 1) := by decide +kernel
theorem dX0_isGuarded_41 : decode cX0_isGuarded 41 = .ok (.getfield 15, 3) := by decide +kernel
theorem dX0_isGuarded_44 : decode cX0_isGuarded 44 = .ok (.iload_n 1, 1) := by decide +kernel
theorem dX0_isGuarded_45 : decode cX0_isGuarded 45 = .ok (.iconst 1, 1) := by decide +kernel
theorem dX0_isGuarded_46 : decode cX0_isGuarded 46 = .ok (.isub, 1) := by decide +kernel
theorem dX0_isGuarded_47 : decode cX0_isGuarded 47 = .ok (.iaload, 1) := by decide +kernel
theorem dX0_isGuarded_48 : decode cX0_isGuarded 48 = .ok (.if_icmp .ne 16, 3) := by decide +kernel
theorem dX0_isGuarded_51 : decode cX0_isGuarded 51 = .ok (.aload_n 0, 1) := by decide +kernel
theorem dX0_isGuarded_52 : decode cX0_isGuarded 52 = .ok (.getfield 35, 3) := by decide +kernel
theorem dX0_isGuarded_55 : decode cX0_isGuarded 55 = .ok (.iload_n 1, 1) := by decide +kernel
theorem dX0_isGuarded_56 : decode cX0_isGuarded 56 = .ok (.baload, 1) := by decide +kernel
theorem dX0_isGuarded_57 : decode cX0_isGuarded 57 = .ok (.ifCond .ne 7, 3) := by decide +kernel
theorem dX0_isGuarded_60 : decode cX0_isGuarded 60 = .ok (.iconst 1, 1) := by decide +kernel
theorem dX0_isGuarded_61 : decode cX0_isGuarded 61 = .ok (.goto 4, 3) := by decide +kernel
theorem dX0_isGuarded_64 : decode cX0_isGuarded 64 = .ok (.iconst 0, 1) := by decide +kernel
theorem dX0_isGuarded_65 : decode cX0_isGuarded 65 = .ok (.ireturn, 1) := by decide +kernel
def gm_X0_isGuarded_64 (fu : Nat)  (X : gx_H) : Option (Int32 × gx_H) :=
  some ((0 : Int32), X)
set_option maxHeartbeats 1000000 in
set_option maxRecDepth 20000 in
theorem gt_X0_isGuarded_64 {p : Program} {l : Launch} {e : Env} {s : State} {m : MethodId} {args : Array Value} {below : List Frame} {meth : Method} {c : Code} {D : gx_D} {r : Int32} {X2 : gx_H}  (C : gx_C D gz_cl gz_at gz_tb gz_nb p s m meth c cX0_isGuarded 2 RX0 (some .boolean)) (fu : Nat)  (X : gx_H) (h : gm_X0_isGuarded_64 fu   X = some (r, X2)) : gx_W D gz_cl 2 p l e (gx_rm 0 0 0 0) s m args below meth c 0 0 (MQ below (gx_Q D gz_cl (some (gx_i r)) X2) args s 0 0 (gx_Z D)) X 64 [none, none] [] := by
  unfold gm_X0_isGuarded_64 at h
  refine gx_iconst (v := 0) C dX0_isGuarded_64 (by decide) ?_
  cases h
  exact gx_zret (Or.inl rfl) C dX0_isGuarded_65
def gm_X0_isGuarded (fu : Nat) (this : Nat) (p_0 : Int32) (X : gx_H) : Option (Int32 × gx_H) :=
  if p_0 ≤ 0 then (
  gm_X0_isGuarded_64 fu   X) else (
  (gx_gi X this 0 6).bind fun vz2 =>
  if vz2 ≤ p_0 then (
  gm_X0_isGuarded_64 fu   X) else (
  (gx_gd X this 0 1).bind fun az4 =>
  (gx_gai X az4 0 p_0).bind fun vz5 =>
  if vz5 = (4 : Int32) then (
  (gx_gd X this 0 1).bind fun az7 =>
  (gx_gai X az7 0 (p_0 - (1 : Int32))).bind fun vz8 =>
  if vz8 = (5 : Int32) then (
  (gx_gd X this 0 2).bind fun az10 =>
  (gx_gai X az10 0 p_0).bind fun vz11 =>
  (gx_gd X this 0 2).bind fun az12 =>
  (gx_gai X az12 0 (p_0 - (1 : Int32))).bind fun vz13 =>
  if vz11 = vz13 then (
  (gx_gd X this 0 10).bind fun az15 =>
  (gx_gai X az15 2 p_0).bind fun vz16 =>
  if vz16 = 0 then (
  some ((1 : Int32), X)) else (
  gm_X0_isGuarded_64 fu   X)) else (
  gm_X0_isGuarded_64 fu   X)) else (
  gm_X0_isGuarded_64 fu   X)) else (
  gm_X0_isGuarded_64 fu   X)))
set_option maxHeartbeats 1000000 in
set_option maxRecDepth 20000 in
theorem gc_X0_isGuarded {l : Launch} {D : gx_D} (fu : Nat) (this : Nat) (p_0 : Int32) (X : gx_H) (r : Int32) (X2 : gx_H) (h : gm_X0_isGuarded fu this p_0 X = some (r, X2)) : gx_M D gz_cl gz_at gz_tb gz_nb l yX0_isGuarded cX0_isGuarded 2 (some .boolean) 0 0 [gx_r (some this), gx_i p_0] X (some (gx_i r)) X2 0 0 := by
  unfold gm_X0_isGuarded at h
  refine gx_enter [some (gx_r (some this)), some (gx_i p_0)] rfl (by decide) (Nat.le_of_ble_eq_true rfl) ?_
  intro p e s m below meth c C _
  refine gx_iload_n C dX0_isGuarded_0 rfl rfl ?_
  refine gx_if_le (tgt := 64) C dX0_isGuarded_1 (by decide) (fun qz1 => ?_) (fun qz1 => ?_)
  · rw [if_pos qz1] at h
    refine gx_sub (lv2 := [none, none]) [false, false] rfl ?_
    exact gt_X0_isGuarded_64 C fu   X h
  · rw [if_neg qz1] at h
    refine gx_iload_n C dX0_isGuarded_4 rfl rfl ?_
    refine gx_aload_n C dX0_isGuarded_5 rfl rfl ?_
    obtain ⟨vz2, evz2, h⟩ := gx_bd h
    refine gx_get C kcX0 6 (by decide) wl_204 (gx_gi_s evz2) dX0_isGuarded_6 ?_
    refine gx_icmp_ge (tgt := 64) C dX0_isGuarded_9 (by decide) (fun qz3 => ?_) (fun qz3 => ?_)
    · rw [if_pos qz3] at h
      refine gx_sub (lv2 := [none, none]) [false, false] rfl ?_
      exact gt_X0_isGuarded_64 C fu   X h
    · rw [if_neg qz3] at h
      refine gx_aload_n C dX0_isGuarded_12 rfl rfl ?_
      obtain ⟨az4, eaz4, h⟩ := gx_bd h
      refine gx_get C kcX0 1 (by decide) wl_182 (gx_gd_s eaz4) dX0_isGuarded_13 ?_
      refine gx_iload_n C dX0_isGuarded_16 rfl rfl ?_
      obtain ⟨vz5, evz5, h⟩ := gx_bd h
      refine gx_iald C (t := 0) rfl evz5 dX0_isGuarded_17 ?_
      refine gx_iconst (v := 4) C dX0_isGuarded_18 (by decide) ?_
      refine gx_icmp_ne (tgt := 64) C dX0_isGuarded_19 (by decide) (fun qz6 => ?_) (fun qz6 => ?_)
      · rw [if_neg qz6] at h
        refine gx_sub (lv2 := [none, none]) [false, false] rfl ?_
        exact gt_X0_isGuarded_64 C fu   X h
      · rw [if_pos qz6] at h
        refine gx_aload_n C dX0_isGuarded_22 rfl rfl ?_
        obtain ⟨az7, eaz7, h⟩ := gx_bd h
        refine gx_get C kcX0 1 (by decide) wl_182 (gx_gd_s eaz7) dX0_isGuarded_23 ?_
        refine gx_iload_n C dX0_isGuarded_26 rfl rfl ?_
        refine gx_iconst (v := 1) C dX0_isGuarded_27 (by decide) ?_
        refine gx_isub C dX0_isGuarded_28 ?_
        obtain ⟨vz8, evz8, h⟩ := gx_bd h
        refine gx_iald C (t := 0) rfl evz8 dX0_isGuarded_29 ?_
        refine gx_iconst (v := 5) C dX0_isGuarded_30 (by decide) ?_
        refine gx_icmp_ne (tgt := 64) C dX0_isGuarded_31 (by decide) (fun qz9 => ?_) (fun qz9 => ?_)
        · rw [if_neg qz9] at h
          refine gx_sub (lv2 := [none, none]) [false, false] rfl ?_
          exact gt_X0_isGuarded_64 C fu   X h
        · rw [if_pos qz9] at h
          refine gx_aload_n C dX0_isGuarded_34 rfl rfl ?_
          obtain ⟨az10, eaz10, h⟩ := gx_bd h
          refine gx_get C kcX0 2 (by decide) wl_187 (gx_gd_s eaz10) dX0_isGuarded_35 ?_
          refine gx_iload_n C dX0_isGuarded_38 rfl rfl ?_
          obtain ⟨vz11, evz11, h⟩ := gx_bd h
          refine gx_iald C (t := 0) rfl evz11 dX0_isGuarded_39 ?_
          refine gx_aload_n C dX0_isGuarded_40 rfl rfl ?_
          obtain ⟨az12, eaz12, h⟩ := gx_bd h
          refine gx_get C kcX0 2 (by decide) wl_187 (gx_gd_s eaz12) dX0_isGuarded_41 ?_
          refine gx_iload_n C dX0_isGuarded_44 rfl rfl ?_
          refine gx_iconst (v := 1) C dX0_isGuarded_45 (by decide) ?_
          refine gx_isub C dX0_isGuarded_46 ?_
          obtain ⟨vz13, evz13, h⟩ := gx_bd h
          refine gx_iald C (t := 0) rfl evz13 dX0_isGuarded_47 ?_
          refine gx_icmp_ne (tgt := 64) C dX0_isGuarded_48 (by decide) (fun qz14 => ?_) (fun qz14 => ?_)
          · rw [if_neg qz14] at h
            refine gx_sub (lv2 := [none, none]) [false, false] rfl ?_
            exact gt_X0_isGuarded_64 C fu   X h
          · rw [if_pos qz14] at h
            refine gx_aload_n C dX0_isGuarded_51 rfl rfl ?_
            obtain ⟨az15, eaz15, h⟩ := gx_bd h
            refine gx_get C kcX0 10 (by decide) wl_219 (gx_gd_s eaz15) dX0_isGuarded_52 ?_
            refine gx_iload_n C dX0_isGuarded_55 rfl rfl ?_
            obtain ⟨vz16, evz16, h⟩ := gx_bd h
            refine gx_zald C (t := 2) rfl evz16 dX0_isGuarded_56 ?_
            refine gx_if_ne (tgt := 64) C dX0_isGuarded_57 (by decide) (fun qz17 => ?_) (fun qz17 => ?_)
            · rw [if_neg qz17] at h
              refine gx_sub (lv2 := [none, none]) [false, false] rfl ?_
              exact gt_X0_isGuarded_64 C fu   X h
            · rw [if_pos qz17] at h
              refine gx_iconst (v := 1) C dX0_isGuarded_60 (by decide) ?_
              refine gx_goto (tgt := 65) C dX0_isGuarded_61 (by decide) ?_
              cases h
              exact gx_zret (Or.inr rfl) C dX0_isGuarded_65
theorem dX0_put_0 : decode cX0_put 0 = .ok (.aload_n 0, 1) := by decide +kernel
theorem dX0_put_1 : decode cX0_put 1 = .ok (.getfield 9, 3) := by decide +kernel
theorem dX0_put_4 : decode cX0_put 4 = .ok (.iload_n 1, 1) := by decide +kernel
theorem dX0_put_5 : decode cX0_put 5 = .ok (.iload_n 2, 1) := by decide +kernel
theorem dX0_put_6 : decode cX0_put 6 = .ok (.iastore, 1) := by decide +kernel
theorem dX0_put_7 : decode cX0_put 7 = .ok (.aload_n 0, 1) := by decide +kernel
theorem dX0_put_8 : decode cX0_put 8 = .ok (.getfield 15, 3) := by decide +kernel
theorem dX0_put_11 : decode cX0_put 11 = .ok (.iload_n 1, 1) := by decide +kernel
theorem dX0_put_12 : decode cX0_put 12 = .ok (.iload_n 3, 1) := by decide +kernel
theorem dX0_put_13 : decode cX0_put 13 = .ok (.iastore, 1) := by decide +kernel
theorem dX0_put_14 : decode cX0_put 14 = .ok (.return_, 1) := by decide +kernel
def gm_X0_put (fu : Nat) (this : Nat) (p_0 : Int32) (p_1 : Int32) (p_2 : Int32) (X : gx_H) : Option gx_H :=
  (gx_gd X this 0 1).bind fun az1 =>
  (gx_pai X az1 0 p_0 p_1).bind fun Xz2 =>
  (gx_gd Xz2 this 0 2).bind fun az3 =>
  (gx_pai Xz2 az3 0 p_0 p_2).bind fun Xz4 =>
  some Xz4
set_option maxHeartbeats 1000000 in
set_option maxRecDepth 20000 in
theorem gc_X0_put {l : Launch} {D : gx_D} (fu : Nat) (this : Nat) (p_0 : Int32) (p_1 : Int32) (p_2 : Int32) (X : gx_H) (X2 : gx_H) (h : gm_X0_put fu this p_0 p_1 p_2 X = some X2) : gx_M D gz_cl gz_at gz_tb gz_nb l yX0_put cX0_put 4 none 0 0 [gx_r (some this), gx_i p_0, gx_i p_1, gx_i p_2] X none X2 0 0 := by
  unfold gm_X0_put at h
  refine gx_enter [some (gx_r (some this)), some (gx_i p_0), some (gx_i p_1), some (gx_i p_2)] rfl (by decide) (Nat.le_of_ble_eq_true rfl) ?_
  intro p e s m below meth c C _
  refine gx_aload_n C dX0_put_0 rfl rfl ?_
  obtain ⟨az1, eaz1, h⟩ := gx_bd h
  refine gx_get C kcX0 1 (by decide) wl_182 (gx_gd_s eaz1) dX0_put_1 ?_
  refine gx_iload_n C dX0_put_4 rfl rfl ?_
  refine gx_iload_n C dX0_put_5 rfl rfl ?_
  obtain ⟨Xz2, eXz2, h⟩ := gx_bd h
  refine gx_iast C (t := 0) rfl eXz2 dX0_put_6 ?_
  refine gx_aload_n C dX0_put_7 rfl rfl ?_
  obtain ⟨az3, eaz3, h⟩ := gx_bd h
  refine gx_get C kcX0 2 (by decide) wl_187 (gx_gd_s eaz3) dX0_put_8 ?_
  refine gx_iload_n C dX0_put_11 rfl rfl ?_
  refine gx_iload_n C dX0_put_12 rfl rfl ?_
  obtain ⟨Xz4, eXz4, h⟩ := gx_bd h
  refine gx_iast C (t := 0) rfl eXz4 dX0_put_13 ?_
  cases h
  exact gx_vret C dX0_put_14
theorem dX0_renew_0 : decode cX0_renew 0 = .ok (.aload_n 0, 1) := by decide +kernel
theorem dX0_renew_1 : decode cX0_renew 1 = .ok (.iload_n 1, 1) := by decide +kernel
theorem dX0_renew_2 : decode cX0_renew 2 = .ok (.putfield 42, 3) := by decide +kernel
theorem dX0_renew_5 : decode cX0_renew 5 = .ok (.aload_n 0, 1) := by decide +kernel
theorem dX0_renew_6 : decode cX0_renew 6 = .ok (.iconst 0, 1) := by decide +kernel
theorem dX0_renew_7 : decode cX0_renew 7 = .ok (.putfield 45, 3) := by decide +kernel
theorem dX0_renew_10 : decode cX0_renew 10 = .ok (.iconst 0, 1) := by decide +kernel
theorem dX0_renew_11 : decode cX0_renew 11 = .ok (.istore_n 2, 1) := by decide +kernel
theorem dX0_renew_12 : decode cX0_renew 12 = .ok (.iload_n 2, 1) := by decide +kernel
theorem dX0_renew_13 : decode cX0_renew 13 = .ok (.aload_n 0, 1) := by decide +kernel
theorem dX0_renew_14 : decode cX0_renew 14 = .ok (.getfield 42, 3) := by decide +kernel
theorem dX0_renew_17 : decode cX0_renew 17 = .ok (.if_icmp .ge 16, 3) := by decide +kernel
theorem dX0_renew_20 : decode cX0_renew 20 = .ok (.aload_n 0, 1) := by decide +kernel
theorem dX0_renew_21 : decode cX0_renew 21 = .ok (.iload_n 2, 1) := by decide +kernel
theorem dX0_renew_22 : decode cX0_renew 22 = .ok (.iconst 0, 1) := by decide +kernel
theorem dX0_renew_23 : decode cX0_renew 23 = .ok (.iconst 0, 1) := by decide +kernel
theorem dX0_renew_24 : decode cX0_renew 24 = .ok (.invokevirtual 48, 3) := by decide +kernel
theorem dX0_renew_27 : decode cX0_renew 27 = .ok (.iinc 2 1, 3) := by decide +kernel
theorem dX0_renew_30 : decode cX0_renew 30 = .ok (.goto (-18), 3) := by decide +kernel
theorem dX0_renew_33 : decode cX0_renew 33 = .ok (.return_, 1) := by decide +kernel
def gm_X0_renew_12 (fu : Nat) : Nat → Nat → Int32 → gx_H → Option gx_H
  | 0, _, _, _ => none
  | n + 1, a0, x2, X =>
    (gx_gi X a0 0 6).bind fun vz1 =>
    if vz1 ≤ x2 then (
    some X) else (
    gx_ob X a0 0 <|
    (gm_X0_put fu a0 x2 (0 : Int32) (0 : Int32) X).bind fun Xz4 =>
    (gm_X0_renew_12 fu  n) a0 (x2 + 1) Xz4)
set_option maxHeartbeats 1000000 in
set_option maxRecDepth 20000 in
theorem gt_X0_renew_12 {p : Program} {l : Launch} {e : Env} {s : State} {m : MethodId} {args : Array Value} {below : List Frame} {meth : Method} {c : Code} {D : gx_D} {X2 : gx_H}  (C : gx_C D gz_cl gz_at gz_tb gz_nb p s m meth c cX0_renew 3 RX0 none) (fu : Nat) : ∀ (n : Nat) (a0 : Nat) (x2 : Int32) (X : gx_H) , gm_X0_renew_12 fu  n a0 x2 X = some X2 → gx_W D gz_cl 3 p l e (gx_rm 1 23 0 0) s m args below meth c 0 0 (MQ below (gx_Q D gz_cl none X2) args s 0 0 (gx_Z D)) X 12 [some (gx_r (some a0)), none, some (gx_i x2)] [] := by
  intro n
  induction n with
  | zero =>
    intro a0 x2 X h
    have h : none = some _ := h
    cases h
  | succ n ih =>
    intro a0 x2 X h
    rw [gm_X0_renew_12] at h
    refine gx_iload_n C dX0_renew_12 rfl rfl ?_
    refine gx_aload_n C dX0_renew_13 rfl rfl ?_
    obtain ⟨vz1, evz1, h⟩ := gx_bd h
    refine gx_get C kcX0 6 (by decide) wl_204 (gx_gi_s evz1) dX0_renew_14 ?_
    refine gx_icmp_ge (tgt := 33) C dX0_renew_17 (by decide) (fun qz2 => ?_) (fun qz2 => ?_)
    · rw [if_pos qz2] at h
      cases h
      exact gx_vret C dX0_renew_33
    · rw [if_neg qz2] at h
      refine gx_aload_n C dX0_renew_20 rfl rfl ?_
      refine gx_iload_n C dX0_renew_21 rfl rfl ?_
      refine gx_iconst (v := 0) C dX0_renew_22 (by decide) ?_
      refine gx_iconst (v := 0) C dX0_renew_23 (by decide) ?_
      obtain ⟨hoz3, h⟩ := gx_obs h
      obtain ⟨Xz4, eXz4, h⟩ := gx_bd h
      refine gx_callV (As := [gx_i x2, gx_i (0 : Int32), gx_i (0 : Int32)]) (st := []) (stk2 := []) C cd_X0_put wl_267 ws_X0_put wl_266 rfl hoz3 (gc_X0_put fu a0 x2 (0 : Int32) (0 : Int32) X Xz4 eXz4) rfl ⟨Nat.le_of_ble_eq_true rfl, Nat.le_of_ble_eq_true rfl⟩ ⟨Nat.le_of_ble_eq_true rfl, Nat.le_of_ble_eq_true rfl⟩ (Nat.le_of_ble_eq_true rfl) rfl rfl dX0_renew_24 ?_
      refine gx_iinc (v := (x2 + 1)) (lv2 := [some (gx_r (some a0)), none, some (gx_i (x2 + 1))]) C dX0_renew_27 rfl rfl (by decide) rfl ?_
      refine gx_goto (tgt := 12) C dX0_renew_30 (by decide) ?_
      exact ih a0 (x2 + 1) Xz4 h
def gm_X0_renew (fu : Nat) (this : Nat) (p_0 : Int32) (X : gx_H) : Option gx_H :=
  (gx_pf X this 0 6 (.int p_0)).bind fun Xz5 =>
  (gx_pf Xz5 this 0 7 (.int (0 : Int32))).bind fun Xz6 =>
  gm_X0_renew_12 fu  fu this (0 : Int32) Xz6
set_option maxHeartbeats 1000000 in
set_option maxRecDepth 20000 in
theorem gc_X0_renew {l : Launch} {D : gx_D} (fu : Nat) (this : Nat) (p_0 : Int32) (X : gx_H) (X2 : gx_H) (h : gm_X0_renew fu this p_0 X = some X2) : gx_M D gz_cl gz_at gz_tb gz_nb l yX0_renew cX0_renew 3 none 1 23 [gx_r (some this), gx_i p_0] X none X2 0 0 := by
  unfold gm_X0_renew at h
  refine gx_enter [some (gx_r (some this)), some (gx_i p_0), none] rfl (by decide) (Nat.le_of_ble_eq_true rfl) ?_
  intro p e s m below meth c C _
  refine gx_aload_n C dX0_renew_0 rfl rfl ?_
  refine gx_iload_n C dX0_renew_1 rfl rfl ?_
  obtain ⟨Xz5, eXz5, h⟩ := gx_bd h
  refine gx_put C kcX0 6 (by decide) rfl wl_204 ⟨rfl, rfl⟩ eXz5 dX0_renew_2 ?_
  refine gx_aload_n C dX0_renew_5 rfl rfl ?_
  refine gx_iconst (v := 0) C dX0_renew_6 (by decide) ?_
  obtain ⟨Xz6, eXz6, h⟩ := gx_bd h
  refine gx_put C kcX0 7 (by decide) rfl wl_209 ⟨rfl, rfl⟩ eXz6 dX0_renew_7 ?_
  refine gx_iconst (v := 0) C dX0_renew_10 (by decide) ?_
  refine gx_istore_n (lv2 := [some (gx_r (some this)), some (gx_i p_0), some (gx_i (0 : Int32))]) C dX0_renew_11 rfl (by decide) rfl ?_
  refine gx_sub (lv2 := [some (gx_r (some this)), none, some (gx_i (0 : Int32))]) [true, false, true] rfl ?_
  exact gt_X0_renew_12 C fu  fu this (0 : Int32) Xz6 h
theorem dX4_waysFrom_0 : decode cX4_waysFrom 0 = .ok (.aload_n 0, 1) := by decide +kernel
theorem dX4_waysFrom_1 : decode cX4_waysFrom 1 = .ok (.getfield 15, 3) := by decide +kernel
theorem dX4_waysFrom_4 : decode cX4_waysFrom 4 = .ok (.iload_n 1, 1) := by decide +kernel
theorem dX4_waysFrom_5 : decode cX4_waysFrom 5 = .ok (.bipush 60, 2) := by decide +kernel
theorem dX4_waysFrom_7 : decode cX4_waysFrom 7 = .ok (.imul, 1) := by decide +kernel
theorem dX4_waysFrom_8 : decode cX4_waysFrom 8 = .ok (.iload_n 2, 1) := by decide +kernel
theorem dX4_waysFrom_9 : decode cX4_waysFrom 9 = .ok (.iadd, 1) := by decide +kernel
theorem dX4_waysFrom_10 : decode cX4_waysFrom 10 = .ok (.laload, 1) := by decide +kernel
theorem dX4_waysFrom_11 : decode cX4_waysFrom 11 = .ok (.lreturn, 1) := by decide +kernel
def gm_X4_waysFrom (fu : Nat) (this : Nat) (p_0 : Int32) (p_1 : Int32) (X : gx_H) : Option (Int64 × gx_H) :=
  (gx_gd X this 4 1).bind fun az1 =>
  (gx_gal X az1 1 ((p_0 * (60 : Int32)) + p_1)).bind fun vz2 =>
  some (vz2, X)
set_option maxHeartbeats 1000000 in
set_option maxRecDepth 20000 in
theorem gc_X4_waysFrom {l : Launch} {D : gx_D} (fu : Nat) (this : Nat) (p_0 : Int32) (p_1 : Int32) (X : gx_H) (r : Int64) (X2 : gx_H) (h : gm_X4_waysFrom fu this p_0 p_1 X = some (r, X2)) : gx_M D gz_cl gz_at gz_tb gz_nb l yX4_waysFrom cX4_waysFrom 3 (some .long) 0 0 [gx_r (some this), gx_i p_0, gx_i p_1] X (some (gx_l r)) X2 0 0 := by
  unfold gm_X4_waysFrom at h
  refine gx_enter [some (gx_r (some this)), some (gx_i p_0), some (gx_i p_1)] rfl (by decide) (Nat.le_of_ble_eq_true rfl) ?_
  intro p e s m below meth c C _
  refine gx_aload_n C dX4_waysFrom_0 rfl rfl ?_
  obtain ⟨az1, eaz1, h⟩ := gx_bd h
  refine gx_get C kcX4 1 (by decide) wl_25 (gx_gd_s eaz1) dX4_waysFrom_1 ?_
  refine gx_iload_n C dX4_waysFrom_4 rfl rfl ?_
  refine gx_bipush (v := 60) C dX4_waysFrom_5 (by decide) ?_
  refine gx_imul C dX4_waysFrom_7 ?_
  refine gx_iload_n C dX4_waysFrom_8 rfl rfl ?_
  refine gx_iadd C dX4_waysFrom_9 ?_
  obtain ⟨vz2, evz2, h⟩ := gx_bd h
  refine gx_lald C (t := 1) rfl evz2 dX4_waysFrom_10 ?_
  cases h
  exact gx_lret C dX4_waysFrom_11
theorem dX4_goneTo_0 : decode cX4_goneTo 0 = .ok (.lconst 0, 1) := by decide +kernel
theorem dX4_goneTo_1 : decode cX4_goneTo 1 = .ok (.lstore 4, 2) := by decide +kernel
theorem dX4_goneTo_3 : decode cX4_goneTo 3 = .ok (.iconst 0, 1) := by decide +kernel
theorem dX4_goneTo_4 : decode cX4_goneTo 4 = .ok (.istore 6, 2) := by decide +kernel
theorem dX4_goneTo_6 : decode cX4_goneTo 6 = .ok (.iload 6, 2) := by decide +kernel
theorem dX4_goneTo_8 : decode cX4_goneTo 8 = .ok (.aload_n 0, 1) := by decide +kernel
theorem dX4_goneTo_9 : decode cX4_goneTo 9 = .ok (.getfield 19, 3) := by decide +kernel
theorem dX4_goneTo_12 : decode cX4_goneTo 12 = .ok (.if_icmp .ge 32, 3) := by decide +kernel
theorem dX4_goneTo_15 : decode cX4_goneTo 15 = .ok (.lload_n 2, 1) := by decide +kernel
theorem dX4_goneTo_16 : decode cX4_goneTo 16 = .ok (.iload 6, 2) := by decide +kernel
theorem dX4_goneTo_18 : decode cX4_goneTo 18 = .ok (.lshr, 1) := by decide +kernel
theorem dX4_goneTo_19 : decode cX4_goneTo 19 = .ok (.lconst 1, 1) := by decide +kernel
theorem dX4_goneTo_20 : decode cX4_goneTo 20 = .ok (.land, 1) := by decide +kernel
theorem dX4_goneTo_21 : decode cX4_goneTo 21 = .ok (.lconst 0, 1) := by decide +kernel
theorem dX4_goneTo_22 : decode cX4_goneTo 22 = .ok (.lcmp, 1) := by decide +kernel
theorem dX4_goneTo_23 : decode cX4_goneTo 23 = .ok (.ifCond .eq 15, 3) := by decide +kernel
theorem dX4_goneTo_26 : decode cX4_goneTo 26 = .ok (.lload 4, 2) := by decide +kernel
theorem dX4_goneTo_28 : decode cX4_goneTo 28 = .ok (.aload_n 0, 1) := by decide +kernel
theorem dX4_goneTo_29 : decode cX4_goneTo 29 = .ok (.iload_n 1, 1) := by decide +kernel
theorem dX4_goneTo_30 : decode cX4_goneTo 30 = .ok (.iload 6, 2) := by decide +kernel
theorem dX4_goneTo_32 : decode cX4_goneTo 32 = .ok (.invokevirtual 33, 3) := by decide +kernel
theorem dX4_goneTo_35 : decode cX4_goneTo 35 = .ok (.lor, 1) := by decide +kernel
theorem dX4_goneTo_36 : decode cX4_goneTo 36 = .ok (.lstore 4, 2) := by decide +kernel
theorem dX4_goneTo_38 : decode cX4_goneTo 38 = .ok (.iinc 6 1, 3) := by decide +kernel
theorem dX4_goneTo_41 : decode cX4_goneTo 41 = .ok (.goto (-35), 3) := by decide +kernel
theorem dX4_goneTo_44 : decode cX4_goneTo 44 = .ok (.lload 4, 2) := by decide +kernel
theorem dX4_goneTo_46 : decode cX4_goneTo 46 = .ok (.ldc2_w 41, 3) := by decide +kernel
theorem dX4_goneTo_49 : decode cX4_goneTo 49 = .ok (.land, 1) := by decide +kernel
theorem dX4_goneTo_50 : decode cX4_goneTo 50 = .ok (.lreturn, 1) := by decide +kernel
def gm_X4_goneTo_38 (fu : Nat) (K6 : Nat → Int32 → Int64 → Int64 → Int32 → gx_H → Option (Int64 × gx_H)) (a0 : Nat) (x1 : Int32) (y2 : Int64) (y4 : Int64) (x6 : Int32) (X : gx_H) : Option (Int64 × gx_H) :=
  K6 a0 x1 y2 y4 (x6 + 1) X
set_option maxHeartbeats 1000000 in
set_option maxRecDepth 20000 in
theorem gt_X4_goneTo_38 {p : Program} {l : Launch} {e : Env} {s : State} {m : MethodId} {args : Array Value} {below : List Frame} {meth : Method} {c : Code} {D : gx_D} {r : Int64} {X2 : gx_H}  (C : gx_C D gz_cl gz_at gz_tb gz_nb p s m meth c cX4_goneTo 7 RX4 (some .long)) (fu : Nat) (K6 : Nat → Int32 → Int64 → Int64 → Int32 → gx_H → Option (Int64 × gx_H)) (hK6 : ∀ (a0 : Nat) (x1 : Int32) (y2 : Int64) (y4 : Int64) (x6 : Int32) (X : gx_H), K6 a0 x1 y2 y4 x6 X = some (r, X2) → gx_W D gz_cl 7 p l e (gx_rm 1 22 0 0) s m args below meth c 0 0 (MQ below (gx_Q D gz_cl (some (gx_l r)) X2) args s 0 0 (gx_Z D)) X 6 [some (gx_r (some a0)), some (gx_i x1), some (gx_l y2), none, some (gx_l y4), none, some (gx_i x6)] []) (a0 : Nat) (x1 : Int32) (y2 : Int64) (y4 : Int64) (x6 : Int32) (X : gx_H) (h : gm_X4_goneTo_38 fu K6 a0 x1 y2 y4 x6 X = some (r, X2)) : gx_W D gz_cl 7 p l e (gx_rm 1 22 0 0) s m args below meth c 0 0 (MQ below (gx_Q D gz_cl (some (gx_l r)) X2) args s 0 0 (gx_Z D)) X 38 [some (gx_r (some a0)), some (gx_i x1), some (gx_l y2), none, some (gx_l y4), none, some (gx_i x6)] [] := by
  unfold gm_X4_goneTo_38 at h
  refine gx_iinc (v := (x6 + 1)) (lv2 := [some (gx_r (some a0)), some (gx_i x1), some (gx_l y2), none, some (gx_l y4), none, some (gx_i (x6 + 1))]) C dX4_goneTo_38 rfl rfl (by decide) rfl ?_
  refine gx_goto (tgt := 6) C dX4_goneTo_41 (by decide) ?_
  exact hK6 a0 x1 y2 y4 (x6 + 1) X h
def gm_X4_goneTo_6 (fu : Nat) : Nat → Nat → Int32 → Int64 → Int64 → Int32 → gx_H → Option (Int64 × gx_H)
  | 0, _, _, _, _, _, _ => none
  | n + 1, a0, x1, y2, y4, x6, X =>
    (gx_gi X a0 4 2).bind fun vz1 =>
    if vz1 ≤ x6 then (
    some ((y4 &&& (1152921504606846975 : Int64)), X)) else (
    if (lg_cmp ((y2 >>> (x6.toInt64 &&& 63)) &&& (1 : Int64)) (0 : Int64)) = 0 then (
    gm_X4_goneTo_38 fu (gm_X4_goneTo_6 fu  n) a0 x1 y2 y4 x6 X) else (
    gx_ob X a0 4 <|
    gx_b2 (gm_X4_waysFrom fu a0 x1 x6 X) fun vz6 Xz5 =>
    gm_X4_goneTo_38 fu (gm_X4_goneTo_6 fu  n) a0 x1 y2 (y4 ||| vz6) x6 Xz5))
set_option maxHeartbeats 1000000 in
set_option maxRecDepth 20000 in
theorem gt_X4_goneTo_6 {p : Program} {l : Launch} {e : Env} {s : State} {m : MethodId} {args : Array Value} {below : List Frame} {meth : Method} {c : Code} {D : gx_D} {r : Int64} {X2 : gx_H}  (C : gx_C D gz_cl gz_at gz_tb gz_nb p s m meth c cX4_goneTo 7 RX4 (some .long)) (fu : Nat) : ∀ (n : Nat) (a0 : Nat) (x1 : Int32) (y2 : Int64) (y4 : Int64) (x6 : Int32) (X : gx_H) , gm_X4_goneTo_6 fu  n a0 x1 y2 y4 x6 X = some (r, X2) → gx_W D gz_cl 7 p l e (gx_rm 1 22 0 0) s m args below meth c 0 0 (MQ below (gx_Q D gz_cl (some (gx_l r)) X2) args s 0 0 (gx_Z D)) X 6 [some (gx_r (some a0)), some (gx_i x1), some (gx_l y2), none, some (gx_l y4), none, some (gx_i x6)] [] := by
  intro n
  induction n with
  | zero =>
    intro a0 x1 y2 y4 x6 X h
    have h : none = some _ := h
    cases h
  | succ n ih =>
    intro a0 x1 y2 y4 x6 X h
    rw [gm_X4_goneTo_6] at h
    refine gx_iload C dX4_goneTo_6 rfl ?_
    refine gx_aload_n C dX4_goneTo_8 rfl rfl ?_
    obtain ⟨vz1, evz1, h⟩ := gx_bd h
    refine gx_get C kcX4 2 (by decide) wl_26 (gx_gi_s evz1) dX4_goneTo_9 ?_
    refine gx_icmp_ge (tgt := 44) C dX4_goneTo_12 (by decide) (fun qz2 => ?_) (fun qz2 => ?_)
    · rw [if_pos qz2] at h
      refine gx_lload C dX4_goneTo_44 rfl ?_
      refine gx_ldc2 (v := 1152921504606846975) C wl_347 dX4_goneTo_46 ?_
      refine gx_land C dX4_goneTo_49 ?_
      cases h
      exact gx_lret C dX4_goneTo_50
    · rw [if_neg qz2] at h
      refine gx_lload_n C dX4_goneTo_15 rfl rfl ?_
      refine gx_iload C dX4_goneTo_16 rfl ?_
      refine gx_lshr C dX4_goneTo_18 ?_
      refine gx_lconst (v := 1) C dX4_goneTo_19 (by decide) ?_
      refine gx_land C dX4_goneTo_20 ?_
      refine gx_lconst (v := 0) C dX4_goneTo_21 (by decide) ?_
      refine gx_lcmp C dX4_goneTo_22 ?_
      refine gx_if_eq (tgt := 38) C dX4_goneTo_23 (by decide) (fun qz3 => ?_) (fun qz3 => ?_)
      · rw [if_pos qz3] at h
        exact gt_X4_goneTo_38 C fu (gm_X4_goneTo_6 fu  n) ih a0 x1 y2 y4 x6 X h
      · rw [if_neg qz3] at h
        refine gx_lload C dX4_goneTo_26 rfl ?_
        refine gx_aload_n C dX4_goneTo_28 rfl rfl ?_
        refine gx_iload_n C dX4_goneTo_29 rfl rfl ?_
        refine gx_iload C dX4_goneTo_30 rfl ?_
        obtain ⟨hoz4, h⟩ := gx_obs h
        obtain ⟨vz6, Xz5, eXz5, h⟩ := gx_bd2 h
        refine gx_callV (As := [gx_i x1, gx_i x6]) (st := [gx_l y4]) (stk2 := [gx_l vz6, gx_l y4]) C cd_X4_waysFrom wl_148 ws_X4_waysFrom wl_146 rfl hoz4 (gc_X4_waysFrom fu a0 x1 x6 X vz6 Xz5 eXz5) rfl ⟨Nat.le_of_ble_eq_true rfl, Nat.le_of_ble_eq_true rfl⟩ ⟨Nat.le_of_ble_eq_true rfl, Nat.le_of_ble_eq_true rfl⟩ (Nat.le_of_ble_eq_true rfl) rfl rfl dX4_goneTo_32 ?_
        refine gx_lor C dX4_goneTo_35 ?_
        refine gx_lstore (lv2 := [some (gx_r (some a0)), some (gx_i x1), some (gx_l y2), none, some (gx_l (y4 ||| vz6)), none, some (gx_i x6)]) C dX4_goneTo_36 (by decide) rfl ?_
        exact gt_X4_goneTo_38 C fu (gm_X4_goneTo_6 fu  n) ih a0 x1 y2 (y4 ||| vz6) x6 Xz5 h
def gm_X4_goneTo (fu : Nat) (this : Nat) (p_0 : Int32) (l_1 : Int64) (X : gx_H) : Option (Int64 × gx_H) :=
  gm_X4_goneTo_6 fu  fu this p_0 l_1 (0 : Int64) (0 : Int32) X
set_option maxHeartbeats 1000000 in
set_option maxRecDepth 20000 in
theorem gc_X4_goneTo {l : Launch} {D : gx_D} (fu : Nat) (this : Nat) (p_0 : Int32) (l_1 : Int64) (X : gx_H) (r : Int64) (X2 : gx_H) (h : gm_X4_goneTo fu this p_0 l_1 X = some (r, X2)) : gx_M D gz_cl gz_at gz_tb gz_nb l yX4_goneTo cX4_goneTo 7 (some .long) 1 22 [gx_r (some this), gx_i p_0, gx_l l_1] X (some (gx_l r)) X2 0 0 := by
  unfold gm_X4_goneTo at h
  refine gx_enter [some (gx_r (some this)), some (gx_i p_0), some (gx_l l_1), none, none, none, none] rfl (by decide) (Nat.le_of_ble_eq_true rfl) ?_
  intro p e s m below meth c C _
  refine gx_lconst (v := 0) C dX4_goneTo_0 (by decide) ?_
  refine gx_lstore (lv2 := [some (gx_r (some this)), some (gx_i p_0), some (gx_l l_1), none, some (gx_l (0 : Int64)), none, none]) C dX4_goneTo_1 (by decide) rfl ?_
  refine gx_iconst (v := 0) C dX4_goneTo_3 (by decide) ?_
  refine gx_istore (lv2 := [some (gx_r (some this)), some (gx_i p_0), some (gx_l l_1), none, some (gx_l (0 : Int64)), none, some (gx_i (0 : Int32))]) C dX4_goneTo_4 (by decide) rfl ?_
  exact gt_X4_goneTo_6 C fu  fu this p_0 l_1 (0 : Int64) (0 : Int32) X h
theorem dX1_afterOf_0 : decode cX1_afterOf 0 = .ok (.aload_n 1, 1) := by decide +kernel
theorem dX1_afterOf_1 : decode cX1_afterOf 1 = .ok (.getfield 65, 3) := by decide +kernel
theorem dX1_afterOf_4 : decode cX1_afterOf 4 = .ok (.iload_n 2, 1) := by decide +kernel
theorem dX1_afterOf_5 : decode cX1_afterOf 5 = .ok (.iaload, 1) := by decide +kernel
theorem dX1_afterOf_6 : decode cX1_afterOf 6 = .ok (.tableswitch 96 3 5 #[26, 59, 39], 26) := by decide +kernel
theorem dX1_afterOf_32 : decode cX1_afterOf 32 = .ok (.aload_n 3, 1) := by decide +kernel
theorem dX1_afterOf_33 : decode cX1_afterOf 33 = .ok (.ifnonnull 7, 3) := by decide +kernel
theorem dX1_afterOf_36 : decode cX1_afterOf 36 = .ok (.lconst 0, 1) := by decide +kernel
theorem dX1_afterOf_37 : decode cX1_afterOf 37 = .ok (.goto 7, 3) := by decide +kernel
theorem dX1_afterOf_40 : decode cX1_afterOf 40 = .ok (.aload_n 3, 1) := by decide +kernel
theorem dX1_afterOf_41 : decode cX1_afterOf 41 = .ok (.getfield 94, 3) := by decide +kernel
theorem dX1_afterOf_44 : decode cX1_afterOf 44 = .ok (.lreturn, 1) := by decide +kernel
theorem dX1_afterOf_45 : decode cX1_afterOf 45 = .ok (.aload_n 0, 1) := by decide +kernel
theorem dX1_afterOf_46 : decode cX1_afterOf 46 = .ok (.getfield 15, 3) := by decide +kernel
theorem dX1_afterOf_49 : decode cX1_afterOf 49 = .ok (.aload_n 1, 1) := by decide +kernel
theorem dX1_afterOf_50 : decode cX1_afterOf 50 = .ok (.getfield 72, 3) := by decide +kernel
theorem dX1_afterOf_53 : decode cX1_afterOf 53 = .ok (.iload_n 2, 1) := by decide +kernel
theorem dX1_afterOf_54 : decode cX1_afterOf 54 = .ok (.iaload, 1) := by decide +kernel
theorem dX1_afterOf_55 : decode cX1_afterOf 55 = .ok (.aload_n 1, 1) := by decide +kernel
theorem dX1_afterOf_56 : decode cX1_afterOf 56 = .ok (.getfield 68, 3) := by decide +kernel
theorem dX1_afterOf_59 : decode cX1_afterOf 59 = .ok (.iload_n 2, 1) := by decide +kernel
theorem dX1_afterOf_60 : decode cX1_afterOf 60 = .ok (.laload, 1) := by decide +kernel
theorem dX1_afterOf_61 : decode cX1_afterOf 61 = .ok (.invokevirtual 97, 3) := by decide +kernel
theorem dX1_afterOf_64 : decode cX1_afterOf 64 = .ok (.lreturn, 1) := by decide +kernel
theorem dX1_afterOf_65 : decode cX1_afterOf 65 = .ok (.aload_n 1, 1) := by decide +kernel
theorem dX1_afterOf_66 : decode cX1_afterOf 66 = .ok (.iload_n 2, 1) := by decide +kernel
theorem dX1_afterOf_67 : decode cX1_afterOf 67 = .ok (.invokevirtual 103, 3) := by decide +kernel
theorem dX1_afterOf_70 : decode cX1_afterOf 70 = .ok (.ifCond .eq 12, 3) := by decide +kernel
theorem dX1_afterOf_73 : decode cX1_afterOf 73 = .ok (.aload_n 1, 1) := by decide +kernel
theorem dX1_afterOf_74 : decode cX1_afterOf 74 = .ok (.getfield 68, 3) := by decide +kernel
theorem dX1_afterOf_77 : decode cX1_afterOf 77 = .ok (.iload_n 2, 1) := by decide +kernel
theorem dX1_afterOf_78 : decode cX1_afterOf 78 = .ok (.laload, 1) := by decide +kernel
theorem dX1_afterOf_79 : decode cX1_afterOf 79 = .ok (.goto 22, 3) := by decide +kernel
theorem dX1_afterOf_82 : decode cX1_afterOf 82 = .ok (.aload_n 0, 1) := by decide +kernel
theorem dX1_afterOf_83 : decode cX1_afterOf 83 = .ok (.getfield 15, 3) := by decide +kernel
theorem dX1_afterOf_86 : decode cX1_afterOf 86 = .ok (.aload_n 1, 1) := by decide +kernel
theorem dX1_afterOf_87 : decode cX1_afterOf 87 = .ok (.getfield 72, 3) := by decide +kernel
theorem dX1_afterOf_90 : decode cX1_afterOf 90 = .ok (.iload_n 2, 1) := by decide +kernel
theorem dX1_afterOf_91 : decode cX1_afterOf 91 = .ok (.iaload, 1) := by decide +kernel
theorem dX1_afterOf_92 : decode cX1_afterOf 92 = .ok (.aload_n 1, 1) := by decide +kernel
theorem dX1_afterOf_93 : decode cX1_afterOf 93 = .ok (.getfield 68, 3) := by decide +kernel
theorem dX1_afterOf_96 : decode cX1_afterOf 96 = .ok (.iload_n 2, 1) := by decide +kernel
theorem dX1_afterOf_97 : decode cX1_afterOf 97 = .ok (.laload, 1) := by decide +kernel
theorem dX1_afterOf_98 : decode cX1_afterOf 98 = .ok (.invokevirtual 97, 3) := by decide +kernel
theorem dX1_afterOf_101 : decode cX1_afterOf 101 = .ok (.lreturn, 1) := by decide +kernel
theorem dX1_afterOf_102 : decode cX1_afterOf 102 = .ok (.aload_n 1, 1) := by decide +kernel
theorem dX1_afterOf_103 : decode cX1_afterOf 103 = .ok (.getfield 68, 3) := by decide +kernel
theorem dX1_afterOf_106 : decode cX1_afterOf 106 = .ok (.iload_n 2, 1) := by decide +kernel
theorem dX1_afterOf_107 : decode cX1_afterOf 107 = .ok (.laload, 1) := by decide +kernel
theorem dX1_afterOf_108 : decode cX1_afterOf 108 = .ok (.lreturn, 1) := by decide +kernel
def gm_X1_afterOf (fu : Nat) (this : Nat) (a_0 : Nat) (p_1 : Int32) (o_2 : Option Nat) (X : gx_H) : Option (Int64 × gx_H) :=
  (gx_gd X a_0 0 1).bind fun az1 =>
  (gx_gai X az1 0 p_1).bind fun vz2 =>
  if vz2 = (3 : Int32) then (
  gx_nl o_2 (
  some ((0 : Int64), X)) fun az5 =>
  (gx_gl X az5 0 12).bind fun vz6 =>
  some (vz6, X)) else (
  if vz2 = (4 : Int32) then (
  gx_ob X a_0 0 <|
  gx_b2 (gm_X0_isGuarded fu a_0 p_1 X) fun vz9 Xz8 =>
  if vz9 = 0 then (
  (gx_gd Xz8 this 1 0).bind fun az11 =>
  (gx_gd Xz8 a_0 0 2).bind fun az12 =>
  (gx_gai Xz8 az12 0 p_1).bind fun vz13 =>
  (gx_gd Xz8 a_0 0 8).bind fun az14 =>
  (gx_gal Xz8 az14 1 p_1).bind fun vz15 =>
  gx_ob Xz8 az11 4 <|
  gx_b2 (gm_X4_goneTo fu az11 vz13 vz15 Xz8) fun vz18 Xz17 =>
  some (vz18, Xz17)) else (
  (gx_gd Xz8 a_0 0 8).bind fun az19 =>
  (gx_gal Xz8 az19 1 p_1).bind fun vz20 =>
  some (vz20, Xz8))) else (
  if vz2 = (5 : Int32) then (
  (gx_gd X this 1 0).bind fun az21 =>
  (gx_gd X a_0 0 2).bind fun az22 =>
  (gx_gai X az22 0 p_1).bind fun vz23 =>
  (gx_gd X a_0 0 8).bind fun az24 =>
  (gx_gal X az24 1 p_1).bind fun vz25 =>
  gx_ob X az21 4 <|
  gx_b2 (gm_X4_goneTo fu az21 vz23 vz25 X) fun vz28 Xz27 =>
  some (vz28, Xz27)) else (
  (gx_gd X a_0 0 8).bind fun az29 =>
  (gx_gal X az29 1 p_1).bind fun vz30 =>
  some (vz30, X))))
set_option maxHeartbeats 1000000 in
set_option maxRecDepth 20000 in
theorem gc_X1_afterOf {l : Launch} {D : gx_D} (fu : Nat) (this : Nat) (a_0 : Nat) (p_1 : Int32) (o_2 : Option Nat) (X : gx_H) (r : Int64) (X2 : gx_H) (h : gm_X1_afterOf fu this a_0 p_1 o_2 X = some (r, X2)) : gx_M D gz_cl gz_at gz_tb gz_nb l yX1_afterOf cX1_afterOf 4 (some .long) 2 48 [gx_r (some this), gx_r (some a_0), gx_i p_1, gx_r o_2] X (some (gx_l r)) X2 0 0 := by
  unfold gm_X1_afterOf at h
  refine gx_enter [some (gx_r (some this)), some (gx_r (some a_0)), some (gx_i p_1), some (gx_r o_2)] rfl (by decide) (Nat.le_of_ble_eq_true rfl) ?_
  intro p e s m below meth c C _
  refine gx_aload_n C dX1_afterOf_0 rfl rfl ?_
  obtain ⟨az1, eaz1, h⟩ := gx_bd h
  refine gx_get C kcX0 1 (by decide) wl_183 (gx_gd_s eaz1) dX1_afterOf_1 ?_
  refine gx_iload_n C dX1_afterOf_4 rfl rfl ?_
  obtain ⟨vz2, evz2, h⟩ := gx_bd h
  refine gx_iald C (t := 0) rfl evz2 dX1_afterOf_5 ?_
  by_cases qz3_0 : vz2 = (3 : Int32)
  · rw [if_pos qz3_0] at h
    refine gx_swIn (tgt := 32) (off := 26) C dX1_afterOf_6 (by rw [qz3_0]; decide) (by rw [qz3_0]; decide) (by rw [qz3_0]; decide) (by decide) ?_
    refine gx_aload_n C dX1_afterOf_32 rfl rfl ?_
    refine gx_ifnonnull (tgt := 40) C dX1_afterOf_33 (by decide) (fun az5 qz4 => ?_) (fun qz4 => ?_)
    · subst qz4
      have h := gx_nl_s h
      refine gx_aload_n C dX1_afterOf_40 rfl rfl ?_
      obtain ⟨vz6, evz6, h⟩ := gx_bd h
      refine gx_get C kcX0 12 (by decide) wl_223 (gx_gl_s evz6) dX1_afterOf_41 ?_
      cases h
      exact gx_lret C dX1_afterOf_44
    · subst qz4
      have h := gx_nl_n h
      refine gx_lconst (v := 0) C dX1_afterOf_36 (by decide) ?_
      refine gx_goto (tgt := 44) C dX1_afterOf_37 (by decide) ?_
      cases h
      exact gx_lret C dX1_afterOf_44
  rw [if_neg qz3_0] at h
  by_cases qz3_1 : vz2 = (4 : Int32)
  · rw [if_pos qz3_1] at h
    refine gx_swIn (tgt := 65) (off := 59) C dX1_afterOf_6 (by rw [qz3_1]; decide) (by rw [qz3_1]; decide) (by rw [qz3_1]; decide) (by decide) ?_
    refine gx_aload_n C dX1_afterOf_65 rfl rfl ?_
    refine gx_iload_n C dX1_afterOf_66 rfl rfl ?_
    obtain ⟨hoz7, h⟩ := gx_obs h
    obtain ⟨vz9, Xz8, eXz8, h⟩ := gx_bd2 h
    refine gx_callV (As := [gx_i p_1]) (st := []) (stk2 := [gx_i vz9]) C cd_X0_isGuarded wl_349 ws_X0_isGuarded wl_348 rfl hoz7 (gc_X0_isGuarded fu a_0 p_1 X vz9 Xz8 eXz8) rfl ⟨Nat.le_of_ble_eq_true rfl, Nat.le_of_ble_eq_true rfl⟩ ⟨Nat.le_of_ble_eq_true rfl, Nat.le_of_ble_eq_true rfl⟩ (Nat.le_of_ble_eq_true rfl) rfl rfl dX1_afterOf_67 ?_
    refine gx_if_eq (tgt := 82) C dX1_afterOf_70 (by decide) (fun qz10 => ?_) (fun qz10 => ?_)
    · rw [if_pos qz10] at h
      refine gx_aload_n C dX1_afterOf_82 rfl rfl ?_
      obtain ⟨az11, eaz11, h⟩ := gx_bd h
      refine gx_get C kcX1 0 (by decide) wl_47 (gx_gd_s eaz11) dX1_afterOf_83 ?_
      refine gx_aload_n C dX1_afterOf_86 rfl rfl ?_
      obtain ⟨az12, eaz12, h⟩ := gx_bd h
      refine gx_get C kcX0 2 (by decide) wl_188 (gx_gd_s eaz12) dX1_afterOf_87 ?_
      refine gx_iload_n C dX1_afterOf_90 rfl rfl ?_
      obtain ⟨vz13, evz13, h⟩ := gx_bd h
      refine gx_iald C (t := 0) rfl evz13 dX1_afterOf_91 ?_
      refine gx_aload_n C dX1_afterOf_92 rfl rfl ?_
      obtain ⟨az14, eaz14, h⟩ := gx_bd h
      refine gx_get C kcX0 8 (by decide) wl_214 (gx_gd_s eaz14) dX1_afterOf_93 ?_
      refine gx_iload_n C dX1_afterOf_96 rfl rfl ?_
      obtain ⟨vz15, evz15, h⟩ := gx_bd h
      refine gx_lald C (t := 1) rfl evz15 dX1_afterOf_97 ?_
      obtain ⟨hoz16, h⟩ := gx_obs h
      obtain ⟨vz18, Xz17, eXz17, h⟩ := gx_bd2 h
      refine gx_callV (As := [gx_i vz13, gx_l vz15]) (st := []) (stk2 := [gx_l vz18]) C cd_X4_goneTo wl_344 ws_X4_goneTo wl_343 rfl hoz16 (gc_X4_goneTo fu az11 vz13 vz15 Xz8 vz18 Xz17 eXz17) rfl ⟨Nat.le_of_ble_eq_true rfl, Nat.le_of_ble_eq_true rfl⟩ ⟨Nat.le_of_ble_eq_true rfl, Nat.le_of_ble_eq_true rfl⟩ (Nat.le_of_ble_eq_true rfl) rfl rfl dX1_afterOf_98 ?_
      cases h
      exact gx_lret C dX1_afterOf_101
    · rw [if_neg qz10] at h
      refine gx_aload_n C dX1_afterOf_73 rfl rfl ?_
      obtain ⟨az19, eaz19, h⟩ := gx_bd h
      refine gx_get C kcX0 8 (by decide) wl_214 (gx_gd_s eaz19) dX1_afterOf_74 ?_
      refine gx_iload_n C dX1_afterOf_77 rfl rfl ?_
      obtain ⟨vz20, evz20, h⟩ := gx_bd h
      refine gx_lald C (t := 1) rfl evz20 dX1_afterOf_78 ?_
      refine gx_goto (tgt := 101) C dX1_afterOf_79 (by decide) ?_
      cases h
      exact gx_lret C dX1_afterOf_101
  rw [if_neg qz3_1] at h
  by_cases qz3_2 : vz2 = (5 : Int32)
  · rw [if_pos qz3_2] at h
    refine gx_swIn (tgt := 45) (off := 39) C dX1_afterOf_6 (by rw [qz3_2]; decide) (by rw [qz3_2]; decide) (by rw [qz3_2]; decide) (by decide) ?_
    refine gx_aload_n C dX1_afterOf_45 rfl rfl ?_
    obtain ⟨az21, eaz21, h⟩ := gx_bd h
    refine gx_get C kcX1 0 (by decide) wl_47 (gx_gd_s eaz21) dX1_afterOf_46 ?_
    refine gx_aload_n C dX1_afterOf_49 rfl rfl ?_
    obtain ⟨az22, eaz22, h⟩ := gx_bd h
    refine gx_get C kcX0 2 (by decide) wl_188 (gx_gd_s eaz22) dX1_afterOf_50 ?_
    refine gx_iload_n C dX1_afterOf_53 rfl rfl ?_
    obtain ⟨vz23, evz23, h⟩ := gx_bd h
    refine gx_iald C (t := 0) rfl evz23 dX1_afterOf_54 ?_
    refine gx_aload_n C dX1_afterOf_55 rfl rfl ?_
    obtain ⟨az24, eaz24, h⟩ := gx_bd h
    refine gx_get C kcX0 8 (by decide) wl_214 (gx_gd_s eaz24) dX1_afterOf_56 ?_
    refine gx_iload_n C dX1_afterOf_59 rfl rfl ?_
    obtain ⟨vz25, evz25, h⟩ := gx_bd h
    refine gx_lald C (t := 1) rfl evz25 dX1_afterOf_60 ?_
    obtain ⟨hoz26, h⟩ := gx_obs h
    obtain ⟨vz28, Xz27, eXz27, h⟩ := gx_bd2 h
    refine gx_callV (As := [gx_i vz23, gx_l vz25]) (st := []) (stk2 := [gx_l vz28]) C cd_X4_goneTo wl_344 ws_X4_goneTo wl_343 rfl hoz26 (gc_X4_goneTo fu az21 vz23 vz25 X vz28 Xz27 eXz27) rfl ⟨Nat.le_of_ble_eq_true rfl, Nat.le_of_ble_eq_true rfl⟩ ⟨Nat.le_of_ble_eq_true rfl, Nat.le_of_ble_eq_true rfl⟩ (Nat.le_of_ble_eq_true rfl) rfl rfl dX1_afterOf_61 ?_
    cases h
    exact gx_lret C dX1_afterOf_64
  rw [if_neg qz3_2] at h
  refine gx_swOut (tgt := 102) C dX1_afterOf_6 (by have n0 := lv_neT qz3_0 (a := 3) (by decide); have n1 := lv_neT qz3_1 (a := 4) (by decide); have n2 := lv_neT qz3_2 (a := 5) (by decide); omega) (by decide) ?_
  refine gx_aload_n C dX1_afterOf_102 rfl rfl ?_
  obtain ⟨az29, eaz29, h⟩ := gx_bd h
  refine gx_get C kcX0 8 (by decide) wl_214 (gx_gd_s eaz29) dX1_afterOf_103 ?_
  refine gx_iload_n C dX1_afterOf_106 rfl rfl ?_
  obtain ⟨vz30, evz30, h⟩ := gx_bd h
  refine gx_lald C (t := 1) rfl evz30 dX1_afterOf_107 ?_
  cases h
  exact gx_lret C dX1_afterOf_108
theorem dX3_body_0 : decode cX3_body 0 = .ok (.iload_n 1, 1) := by decide +kernel
theorem dX3_body_1 : decode cX3_body 1 = .ok (.ifCond .lt 20, 3) := by decide +kernel
theorem dX3_body_4 : decode cX3_body 4 = .ok (.iload_n 1, 1) := by decide +kernel
theorem dX3_body_5 : decode cX3_body 5 = .ok (.aload_n 0, 1) := by decide +kernel
theorem dX3_body_6 : decode cX3_body 6 = .ok (.getfield 17, 3) := by decide +kernel
theorem dX3_body_9 : decode cX3_body 9 = .ok (.if_icmp .ge 12, 3) := by decide +kernel
theorem dX3_body_12 : decode cX3_body 12 = .ok (.aload_n 0, 1) := by decide +kernel
theorem dX3_body_13 : decode cX3_body 13 = .ok (.getfield 11, 3) := by decide +kernel
theorem dX3_body_16 : decode cX3_body 16 = .ok (.iload_n 1, 1) := by decide +kernel
theorem dX3_body_17 : decode cX3_body 17 = .ok (.aaload, 1) := by decide +kernel
theorem dX3_body_18 : decode cX3_body 18 = .ok (.goto 4, 3) := by decide +kernel
theorem dX3_body_21 : decode cX3_body 21 = .ok (.aconst_null, 1) := by decide +kernel
theorem dX3_body_22 : decode cX3_body 22 = .ok (.areturn, 1) := by decide +kernel
def gm_X3_body_21 (fu : Nat)  (X : gx_H) : Option (Option Nat × gx_H) :=
  some (none, X)
set_option maxHeartbeats 1000000 in
set_option maxRecDepth 20000 in
theorem gt_X3_body_21 {p : Program} {l : Launch} {e : Env} {s : State} {m : MethodId} {args : Array Value} {below : List Frame} {meth : Method} {c : Code} {D : gx_D} {r : Option Nat} {X2 : gx_H}  (C : gx_C D gz_cl gz_at gz_tb gz_nb p s m meth c cX3_body 2 RX3 (some (.object "GuardFlow$Body"))) (fu : Nat)  (X : gx_H) (h : gm_X3_body_21 fu   X = some (r, X2)) : gx_W D gz_cl 2 p l e (gx_rm 0 0 0 0) s m args below meth c 0 0 (MQ below (gx_Q D gz_cl (some (gx_r r)) X2) args s 0 0 (gx_Z D)) X 21 [none, none] [] := by
  unfold gm_X3_body_21 at h
  refine gx_null C dX3_body_21 ?_
  cases h
  exact gx_aret C dX3_body_22
def gm_X3_body (fu : Nat) (this : Nat) (p_0 : Int32) (X : gx_H) : Option (Option Nat × gx_H) :=
  if p_0 < 0 then (
  gm_X3_body_21 fu   X) else (
  (gx_gi X this 3 1).bind fun vz2 =>
  if vz2 ≤ p_0 then (
  gm_X3_body_21 fu   X) else (
  (gx_gd X this 3 0).bind fun az4 =>
  (gx_gar X az4 3 p_0).bind fun oz5 =>
  some (oz5, X)))
set_option maxHeartbeats 1000000 in
set_option maxRecDepth 20000 in
theorem gc_X3_body {l : Launch} {D : gx_D} (fu : Nat) (this : Nat) (p_0 : Int32) (X : gx_H) (r : Option Nat) (X2 : gx_H) (h : gm_X3_body fu this p_0 X = some (r, X2)) : gx_M D gz_cl gz_at gz_tb gz_nb l yX3_body cX3_body 2 (some (.object "GuardFlow$Body")) 0 0 [gx_r (some this), gx_i p_0] X (some (gx_r r)) X2 0 0 := by
  unfold gm_X3_body at h
  refine gx_enter [some (gx_r (some this)), some (gx_i p_0)] rfl (by decide) (Nat.le_of_ble_eq_true rfl) ?_
  intro p e s m below meth c C _
  refine gx_iload_n C dX3_body_0 rfl rfl ?_
  refine gx_if_lt (tgt := 21) C dX3_body_1 (by decide) (fun qz1 => ?_) (fun qz1 => ?_)
  · rw [if_pos qz1] at h
    refine gx_sub (lv2 := [none, none]) [false, false] rfl ?_
    exact gt_X3_body_21 C fu   X h
  · rw [if_neg qz1] at h
    refine gx_iload_n C dX3_body_4 rfl rfl ?_
    refine gx_aload_n C dX3_body_5 rfl rfl ?_
    obtain ⟨vz2, evz2, h⟩ := gx_bd h
    refine gx_get C kcX3 1 (by decide) wl_83 (gx_gi_s evz2) dX3_body_6 ?_
    refine gx_icmp_ge (tgt := 21) C dX3_body_9 (by decide) (fun qz3 => ?_) (fun qz3 => ?_)
    · rw [if_pos qz3] at h
      refine gx_sub (lv2 := [none, none]) [false, false] rfl ?_
      exact gt_X3_body_21 C fu   X h
    · rw [if_neg qz3] at h
      refine gx_aload_n C dX3_body_12 rfl rfl ?_
      obtain ⟨az4, eaz4, h⟩ := gx_bd h
      refine gx_get C kcX3 0 (by decide) wl_82 (gx_gd_s eaz4) dX3_body_13 ?_
      refine gx_iload_n C dX3_body_16 rfl rfl ?_
      obtain ⟨oz5, eoz5, h⟩ := gx_bd h
      refine gx_aald C (t := 3) rfl eoz5 dX3_body_17 ?_
      refine gx_goto (tgt := 22) C dX3_body_18 (by decide) ?_
      cases h
      exact gx_aret C dX3_body_22
theorem dX1_forgetAll_0 : decode cX1_forgetAll 0 = .ok (.aload_n 0, 1) := by decide +kernel
theorem dX1_forgetAll_1 : decode cX1_forgetAll 1 = .ok (.iconst 0, 1) := by decide +kernel
theorem dX1_forgetAll_2 : decode cX1_forgetAll 2 = .ok (.putfield 38, 3) := by decide +kernel
theorem dX1_forgetAll_5 : decode cX1_forgetAll 5 = .ok (.aload_n 0, 1) := by decide +kernel
theorem dX1_forgetAll_6 : decode cX1_forgetAll 6 = .ok (.iconst 0, 1) := by decide +kernel
theorem dX1_forgetAll_7 : decode cX1_forgetAll 7 = .ok (.putfield 42, 3) := by decide +kernel
theorem dX1_forgetAll_10 : decode cX1_forgetAll 10 = .ok (.iconst 0, 1) := by decide +kernel
theorem dX1_forgetAll_11 : decode cX1_forgetAll 11 = .ok (.istore_n 2, 1) := by decide +kernel
theorem dX1_forgetAll_12 : decode cX1_forgetAll 12 = .ok (.iload_n 2, 1) := by decide +kernel
theorem dX1_forgetAll_13 : decode cX1_forgetAll 13 = .ok (.bipush 8, 2) := by decide +kernel
theorem dX1_forgetAll_15 : decode cX1_forgetAll 15 = .ok (.if_icmp .ge 23, 3) := by decide +kernel
theorem dX1_forgetAll_18 : decode cX1_forgetAll 18 = .ok (.aload_n 1, 1) := by decide +kernel
theorem dX1_forgetAll_19 : decode cX1_forgetAll 19 = .ok (.iload_n 2, 1) := by decide +kernel
theorem dX1_forgetAll_20 : decode cX1_forgetAll 20 = .ok (.invokevirtual 29, 3) := by decide +kernel
theorem dX1_forgetAll_23 : decode cX1_forgetAll 23 = .ok (.astore_n 3, 1) := by decide +kernel
theorem dX1_forgetAll_24 : decode cX1_forgetAll 24 = .ok (.aload_n 3, 1) := by decide +kernel
theorem dX1_forgetAll_25 : decode cX1_forgetAll 25 = .ok (.ifnull 7, 3) := by decide +kernel
theorem dX1_forgetAll_28 : decode cX1_forgetAll 28 = .ok (.aload_n 3, 1) := by decide +kernel
theorem dX1_forgetAll_29 : decode cX1_forgetAll 29 = .ok (.invokevirtual 52, 3) := by decide +kernel
theorem dX1_forgetAll_32 : decode cX1_forgetAll 32 = .ok (.iinc 2 1, 3) := by decide +kernel
theorem dX1_forgetAll_35 : decode cX1_forgetAll 35 = .ok (.goto (-23), 3) := by decide +kernel
theorem dX1_forgetAll_38 : decode cX1_forgetAll 38 = .ok (.return_, 1) := by decide +kernel
def gm_X1_forgetAll_32 (fu : Nat) (K12 : Nat → Int32 → gx_H → Option gx_H) (a1 : Nat) (x2 : Int32) (X : gx_H) : Option gx_H :=
  K12 a1 (x2 + 1) X
set_option maxHeartbeats 1000000 in
set_option maxRecDepth 20000 in
theorem gt_X1_forgetAll_32 {p : Program} {l : Launch} {e : Env} {s : State} {m : MethodId} {args : Array Value} {below : List Frame} {meth : Method} {c : Code} {D : gx_D} {X2 : gx_H}  (C : gx_C D gz_cl gz_at gz_tb gz_nb p s m meth c cX1_forgetAll 4 RX1 none) (fu : Nat) (K12 : Nat → Int32 → gx_H → Option gx_H) (hK12 : ∀ (a1 : Nat) (x2 : Int32) (X : gx_H), K12 a1 x2 X = some X2 → gx_W D gz_cl 4 p l e (gx_rm 2 42 0 0) s m args below meth c 0 0 (MQ below (gx_Q D gz_cl none X2) args s 0 0 (gx_Z D)) X 12 [none, some (gx_r (some a1)), some (gx_i x2), none] []) (a1 : Nat) (x2 : Int32) (X : gx_H) (h : gm_X1_forgetAll_32 fu K12 a1 x2 X = some X2) : gx_W D gz_cl 4 p l e (gx_rm 2 42 0 0) s m args below meth c 0 0 (MQ below (gx_Q D gz_cl none X2) args s 0 0 (gx_Z D)) X 32 [none, some (gx_r (some a1)), some (gx_i x2), none] [] := by
  unfold gm_X1_forgetAll_32 at h
  refine gx_iinc (v := (x2 + 1)) (lv2 := [none, some (gx_r (some a1)), some (gx_i (x2 + 1)), none]) C dX1_forgetAll_32 rfl rfl (by decide) rfl ?_
  refine gx_goto (tgt := 12) C dX1_forgetAll_35 (by decide) ?_
  exact hK12 a1 (x2 + 1) X h
def gm_X1_forgetAll_12 (fu : Nat) : Nat → Nat → Int32 → gx_H → Option gx_H
  | 0, _, _, _ => none
  | n + 1, a1, x2, X =>
    if (8 : Int32) ≤ x2 then (
    some X) else (
    gx_ob X a1 3 <|
    gx_b2 (gm_X3_body fu a1 x2 X) fun oz4 Xz3 =>
    gx_nl oz4 (
    gm_X1_forgetAll_32 fu (gm_X1_forgetAll_12 fu  n) a1 x2 Xz3) fun az6 =>
    gx_ob Xz3 az6 0 <|
    (gm_X0_forgetSets fu az6 Xz3).bind fun Xz8 =>
    gm_X1_forgetAll_32 fu (gm_X1_forgetAll_12 fu  n) a1 x2 Xz8)
set_option maxHeartbeats 1000000 in
set_option maxRecDepth 20000 in
theorem gt_X1_forgetAll_12 {p : Program} {l : Launch} {e : Env} {s : State} {m : MethodId} {args : Array Value} {below : List Frame} {meth : Method} {c : Code} {D : gx_D} {X2 : gx_H}  (C : gx_C D gz_cl gz_at gz_tb gz_nb p s m meth c cX1_forgetAll 4 RX1 none) (fu : Nat) : ∀ (n : Nat) (a1 : Nat) (x2 : Int32) (X : gx_H) , gm_X1_forgetAll_12 fu  n a1 x2 X = some X2 → gx_W D gz_cl 4 p l e (gx_rm 2 42 0 0) s m args below meth c 0 0 (MQ below (gx_Q D gz_cl none X2) args s 0 0 (gx_Z D)) X 12 [none, some (gx_r (some a1)), some (gx_i x2), none] [] := by
  intro n
  induction n with
  | zero =>
    intro a1 x2 X h
    have h : none = some _ := h
    cases h
  | succ n ih =>
    intro a1 x2 X h
    rw [gm_X1_forgetAll_12] at h
    refine gx_iload_n C dX1_forgetAll_12 rfl rfl ?_
    refine gx_bipush (v := 8) C dX1_forgetAll_13 (by decide) ?_
    refine gx_icmp_ge (tgt := 38) C dX1_forgetAll_15 (by decide) (fun qz1 => ?_) (fun qz1 => ?_)
    · rw [if_pos qz1] at h
      cases h
      exact gx_vret C dX1_forgetAll_38
    · rw [if_neg qz1] at h
      refine gx_aload_n C dX1_forgetAll_18 rfl rfl ?_
      refine gx_iload_n C dX1_forgetAll_19 rfl rfl ?_
      obtain ⟨hoz2, h⟩ := gx_obs h
      obtain ⟨oz4, Xz3, eXz3, h⟩ := gx_bd2 h
      refine gx_callV (As := [gx_i x2]) (st := []) (stk2 := [gx_r oz4]) C cd_X3_body wl_275 ws_X3_body wl_312 rfl hoz2 (gc_X3_body fu a1 x2 X oz4 Xz3 eXz3) rfl ⟨Nat.le_of_ble_eq_true rfl, Nat.le_of_ble_eq_true rfl⟩ ⟨Nat.le_of_ble_eq_true rfl, Nat.le_of_ble_eq_true rfl⟩ (Nat.le_of_ble_eq_true rfl) rfl rfl dX1_forgetAll_20 ?_
      refine gx_astore_n (lv2 := [none, some (gx_r (some a1)), some (gx_i x2), some (gx_r oz4)]) C dX1_forgetAll_23 rfl (by decide) rfl ?_
      refine gx_aload_n C dX1_forgetAll_24 rfl rfl ?_
      refine gx_ifnull (tgt := 32) C dX1_forgetAll_25 (by decide) (fun qz5 => ?_) (fun az6 qz5 => ?_)
      · subst qz5
        have h := gx_nl_n h
        refine gx_sub (lv2 := [none, some (gx_r (some a1)), some (gx_i x2), none]) [false, true, true, false] rfl ?_
        exact gt_X1_forgetAll_32 C fu (gm_X1_forgetAll_12 fu  n) ih a1 x2 Xz3 h
      · subst qz5
        have h := gx_nl_s h
        refine gx_aload_n C dX1_forgetAll_28 rfl rfl ?_
        obtain ⟨hoz7, h⟩ := gx_obs h
        obtain ⟨Xz8, eXz8, h⟩ := gx_bd h
        refine gx_callV (As := []) (st := []) (stk2 := []) C cd_X0_forgetSets wl_314 ws_X0_forgetSets wl_313 rfl hoz7 (gc_X0_forgetSets fu az6 Xz3 Xz8 eXz8) rfl ⟨Nat.le_of_ble_eq_true rfl, Nat.le_of_ble_eq_true rfl⟩ ⟨Nat.le_of_ble_eq_true rfl, Nat.le_of_ble_eq_true rfl⟩ (Nat.le_of_ble_eq_true rfl) rfl rfl dX1_forgetAll_29 ?_
        refine gx_sub (lv2 := [none, some (gx_r (some a1)), some (gx_i x2), none]) [false, true, true, false] rfl ?_
        exact gt_X1_forgetAll_32 C fu (gm_X1_forgetAll_12 fu  n) ih a1 x2 Xz8 h
def gm_X1_forgetAll (fu : Nat) (this : Nat) (a_0 : Nat) (X : gx_H) : Option gx_H :=
  (gx_pf X this 1 2 (.int (0 : Int32))).bind fun Xz9 =>
  (gx_pf Xz9 this 1 3 (.int (0 : Int32))).bind fun Xz10 =>
  gm_X1_forgetAll_12 fu  fu a_0 (0 : Int32) Xz10
set_option maxHeartbeats 1000000 in
set_option maxRecDepth 20000 in
theorem gc_X1_forgetAll {l : Launch} {D : gx_D} (fu : Nat) (this : Nat) (a_0 : Nat) (X : gx_H) (X2 : gx_H) (h : gm_X1_forgetAll fu this a_0 X = some X2) : gx_M D gz_cl gz_at gz_tb gz_nb l yX1_forgetAll cX1_forgetAll 4 none 2 42 [gx_r (some this), gx_r (some a_0)] X none X2 0 0 := by
  unfold gm_X1_forgetAll at h
  refine gx_enter [some (gx_r (some this)), some (gx_r (some a_0)), none, none] rfl (by decide) (Nat.le_of_ble_eq_true rfl) ?_
  intro p e s m below meth c C _
  refine gx_aload_n C dX1_forgetAll_0 rfl rfl ?_
  refine gx_iconst (v := 0) C dX1_forgetAll_1 (by decide) ?_
  obtain ⟨Xz9, eXz9, h⟩ := gx_bd h
  refine gx_put C kcX1 2 (by decide) rfl wl_49 ⟨rfl, rfl⟩ eXz9 dX1_forgetAll_2 ?_
  refine gx_aload_n C dX1_forgetAll_5 rfl rfl ?_
  refine gx_iconst (v := 0) C dX1_forgetAll_6 (by decide) ?_
  obtain ⟨Xz10, eXz10, h⟩ := gx_bd h
  refine gx_put C kcX1 3 (by decide) rfl wl_50 (gx_nz (Or.inl rfl)) eXz10 dX1_forgetAll_7 ?_
  refine gx_iconst (v := 0) C dX1_forgetAll_10 (by decide) ?_
  refine gx_istore_n (lv2 := [some (gx_r (some this)), some (gx_r (some a_0)), some (gx_i (0 : Int32)), none]) C dX1_forgetAll_11 rfl (by decide) rfl ?_
  refine gx_sub (lv2 := [none, some (gx_r (some a_0)), some (gx_i (0 : Int32)), none]) [false, true, true, false] rfl ?_
  exact gt_X1_forgetAll_12 C fu  fu a_0 (0 : Int32) Xz10 h
theorem dX1_waitAt_0 : decode cX1_waitAt 0 = .ok (.aload_n 1, 1) := by decide +kernel
theorem dX1_waitAt_1 : decode cX1_waitAt 1 = .ok (.getfield 61, 3) := by decide +kernel
theorem dX1_waitAt_4 : decode cX1_waitAt 4 = .ok (.iload_n 2, 1) := by decide +kernel
theorem dX1_waitAt_5 : decode cX1_waitAt 5 = .ok (.baload, 1) := by decide +kernel
theorem dX1_waitAt_6 : decode cX1_waitAt 6 = .ok (.ifCond .ne 51, 3) := by decide +kernel
theorem dX1_waitAt_9 : decode cX1_waitAt 9 = .ok (.aload_n 0, 1) := by decide +kernel
theorem dX1_waitAt_10 : decode cX1_waitAt 10 = .ok (.getfield 38, 3) := by decide +kernel
theorem dX1_waitAt_13 : decode cX1_waitAt 13 = .ok (.aload_n 0, 1) := by decide +kernel
theorem dX1_waitAt_14 : decode cX1_waitAt 14 = .ok (.getfield 9, 3) := by decide +kernel
theorem dX1_waitAt_17 : decode cX1_waitAt 17 = .ok (.arraylength, 1) := by decide +kernel
theorem dX1_waitAt_18 : decode cX1_waitAt 18 = .ok (.if_icmp .ge 39, 3) := by decide +kernel
theorem dX1_waitAt_21 : decode cX1_waitAt 21 = .ok (.aload_n 1, 1) := by decide +kernel
theorem dX1_waitAt_22 : decode cX1_waitAt 22 = .ok (.getfield 61, 3) := by decide +kernel
theorem dX1_waitAt_25 : decode cX1_waitAt 25 = .ok (.iload_n 2, 1) := by decide +kernel
theorem dX1_waitAt_26 : decode cX1_waitAt 26 = .ok (.iconst 1, 1) := by decide +kernel
theorem dX1_waitAt_27 : decode cX1_waitAt 27 = .ok (.bastore, 1) := by decide +kernel
theorem dX1_waitAt_28 : decode cX1_waitAt 28 = .ok (.aload_n 0, 1) := by decide +kernel
theorem dX1_waitAt_29 : decode cX1_waitAt 29 = .ok (.getfield 9, 3) := by decide +kernel
theorem dX1_waitAt_32 : decode cX1_waitAt 32 = .ok (.aload_n 0, 1) := by decide +kernel
theorem dX1_waitAt_33 : decode cX1_waitAt 33 = .ok (.getfield 38, 3) := by decide +kernel
theorem dX1_waitAt_36 : decode cX1_waitAt 36 = .ok (.aload_n 1, 1) := by decide +kernel
theorem dX1_waitAt_37 : decode cX1_waitAt 37 = .ok (.getfield 134, 3) := by decide +kernel
theorem dX1_waitAt_40 : decode cX1_waitAt 40 = .ok (.sipush 200, 3) := by decide +kernel
theorem dX1_waitAt_43 : decode cX1_waitAt 43 = .ok (.imul, 1) := by decide +kernel
theorem dX1_waitAt_44 : decode cX1_waitAt 44 = .ok (.iload_n 2, 1) := by decide +kernel
theorem dX1_waitAt_45 : decode cX1_waitAt 45 = .ok (.iadd, 1) := by decide +kernel
theorem dX1_waitAt_46 : decode cX1_waitAt 46 = .ok (.iastore, 1) := by decide +kernel
theorem dX1_waitAt_47 : decode cX1_waitAt 47 = .ok (.aload_n 0, 1) := by decide +kernel
theorem dX1_waitAt_48 : decode cX1_waitAt 48 = .ok (.dup, 1) := by decide +kernel
theorem dX1_waitAt_49 : decode cX1_waitAt 49 = .ok (.getfield 38, 3) := by decide +kernel
theorem dX1_waitAt_52 : decode cX1_waitAt 52 = .ok (.iconst 1, 1) := by decide +kernel
theorem dX1_waitAt_53 : decode cX1_waitAt 53 = .ok (.iadd, 1) := by decide +kernel
theorem dX1_waitAt_54 : decode cX1_waitAt 54 = .ok (.putfield 38, 3) := by decide +kernel
theorem dX1_waitAt_57 : decode cX1_waitAt 57 = .ok (.return_, 1) := by decide +kernel
def gm_X1_waitAt (fu : Nat) (this : Nat) (a_0 : Nat) (p_1 : Int32) (X : gx_H) : Option gx_H :=
  (gx_gd X a_0 0 9).bind fun az1 =>
  (gx_gai X az1 2 p_1).bind fun vz2 =>
  if vz2 = 0 then (
  (gx_gi X this 1 2).bind fun vz4 =>
  (gx_gd X this 1 1).bind fun az5 =>
  (gx_len X az5 0).bind fun vz6 =>
  if vz6 ≤ vz4 then (
  some X) else (
  (gx_gd X a_0 0 9).bind fun az8 =>
  (gx_pai X az8 2 p_1 (vp_nar .boolean (1 : Int32))).bind fun Xz9 =>
  (gx_gd Xz9 this 1 1).bind fun az10 =>
  (gx_gi Xz9 this 1 2).bind fun vz11 =>
  (gx_gi Xz9 a_0 0 0).bind fun vz12 =>
  (gx_pai Xz9 az10 0 vz11 ((vz12 * (200 : Int32)) + p_1)).bind fun Xz13 =>
  (gx_gi Xz13 this 1 2).bind fun vz14 =>
  (gx_pf Xz13 this 1 2 (.int (vz14 + (1 : Int32)))).bind fun Xz15 =>
  some Xz15)) else (
  some X)
set_option maxHeartbeats 1000000 in
set_option maxRecDepth 20000 in
theorem gc_X1_waitAt {l : Launch} {D : gx_D} (fu : Nat) (this : Nat) (a_0 : Nat) (p_1 : Int32) (X : gx_H) (X2 : gx_H) (h : gm_X1_waitAt fu this a_0 p_1 X = some X2) : gx_M D gz_cl gz_at gz_tb gz_nb l yX1_waitAt cX1_waitAt 3 none 0 0 [gx_r (some this), gx_r (some a_0), gx_i p_1] X none X2 0 0 := by
  unfold gm_X1_waitAt at h
  refine gx_enter [some (gx_r (some this)), some (gx_r (some a_0)), some (gx_i p_1)] rfl (by decide) (Nat.le_of_ble_eq_true rfl) ?_
  intro p e s m below meth c C _
  refine gx_aload_n C dX1_waitAt_0 rfl rfl ?_
  obtain ⟨az1, eaz1, h⟩ := gx_bd h
  refine gx_get C kcX0 9 (by decide) wl_218 (gx_gd_s eaz1) dX1_waitAt_1 ?_
  refine gx_iload_n C dX1_waitAt_4 rfl rfl ?_
  obtain ⟨vz2, evz2, h⟩ := gx_bd h
  refine gx_zald C (t := 2) rfl evz2 dX1_waitAt_5 ?_
  refine gx_if_ne (tgt := 57) C dX1_waitAt_6 (by decide) (fun qz3 => ?_) (fun qz3 => ?_)
  · rw [if_neg qz3] at h
    cases h
    exact gx_vret C dX1_waitAt_57
  · rw [if_pos qz3] at h
    refine gx_aload_n C dX1_waitAt_9 rfl rfl ?_
    obtain ⟨vz4, evz4, h⟩ := gx_bd h
    refine gx_get C kcX1 2 (by decide) wl_49 (gx_gi_s evz4) dX1_waitAt_10 ?_
    refine gx_aload_n C dX1_waitAt_13 rfl rfl ?_
    obtain ⟨az5, eaz5, h⟩ := gx_bd h
    refine gx_get C kcX1 1 (by decide) wl_48 (gx_gd_s eaz5) dX1_waitAt_14 ?_
    obtain ⟨vz6, evz6, h⟩ := gx_bd h
    refine gx_alen C (t := 0) rfl evz6 dX1_waitAt_17 ?_
    refine gx_icmp_ge (tgt := 57) C dX1_waitAt_18 (by decide) (fun qz7 => ?_) (fun qz7 => ?_)
    · rw [if_pos qz7] at h
      cases h
      exact gx_vret C dX1_waitAt_57
    · rw [if_neg qz7] at h
      refine gx_aload_n C dX1_waitAt_21 rfl rfl ?_
      obtain ⟨az8, eaz8, h⟩ := gx_bd h
      refine gx_get C kcX0 9 (by decide) wl_218 (gx_gd_s eaz8) dX1_waitAt_22 ?_
      refine gx_iload_n C dX1_waitAt_25 rfl rfl ?_
      refine gx_iconst (v := 1) C dX1_waitAt_26 (by decide) ?_
      obtain ⟨Xz9, eXz9, h⟩ := gx_bd h
      refine gx_zast C (t := 2) rfl eXz9 dX1_waitAt_27 ?_
      refine gx_aload_n C dX1_waitAt_28 rfl rfl ?_
      obtain ⟨az10, eaz10, h⟩ := gx_bd h
      refine gx_get C kcX1 1 (by decide) wl_48 (gx_gd_s eaz10) dX1_waitAt_29 ?_
      refine gx_aload_n C dX1_waitAt_32 rfl rfl ?_
      obtain ⟨vz11, evz11, h⟩ := gx_bd h
      refine gx_get C kcX1 2 (by decide) wl_49 (gx_gi_s evz11) dX1_waitAt_33 ?_
      refine gx_aload_n C dX1_waitAt_36 rfl rfl ?_
      obtain ⟨vz12, evz12, h⟩ := gx_bd h
      refine gx_get C kcX0 0 (by decide) wl_181 (gx_gi_s evz12) dX1_waitAt_37 ?_
      refine gx_sipush (v := 200) C dX1_waitAt_40 (by decide) ?_
      refine gx_imul C dX1_waitAt_43 ?_
      refine gx_iload_n C dX1_waitAt_44 rfl rfl ?_
      refine gx_iadd C dX1_waitAt_45 ?_
      obtain ⟨Xz13, eXz13, h⟩ := gx_bd h
      refine gx_iast C (t := 0) rfl eXz13 dX1_waitAt_46 ?_
      refine gx_aload_n C dX1_waitAt_47 rfl rfl ?_
      refine gx_dup C dX1_waitAt_48 rfl ?_
      obtain ⟨vz14, evz14, h⟩ := gx_bd h
      refine gx_get C kcX1 2 (by decide) wl_49 (gx_gi_s evz14) dX1_waitAt_49 ?_
      refine gx_iconst (v := 1) C dX1_waitAt_52 (by decide) ?_
      refine gx_iadd C dX1_waitAt_53 ?_
      obtain ⟨Xz15, eXz15, h⟩ := gx_bd h
      refine gx_put C kcX1 2 (by decide) rfl wl_49 ⟨rfl, rfl⟩ eXz15 dX1_waitAt_54 ?_
      cases h
      exact gx_vret C dX1_waitAt_57
theorem dX1_growMay_0 : decode cX1_growMay 0 = .ok (.aload_n 1, 1) := by decide +kernel
theorem dX1_growMay_1 : decode cX1_growMay 1 = .ok (.iload_n 2, 1) := by decide +kernel
theorem dX1_growMay_2 : decode cX1_growMay 2 = .ok (.invokevirtual 57, 3) := by decide +kernel
theorem dX1_growMay_5 : decode cX1_growMay 5 = .ok (.ifCond .eq 37, 3) := by decide +kernel
theorem dX1_growMay_8 : decode cX1_growMay 8 = .ok (.aload_n 1, 1) := by decide +kernel
theorem dX1_growMay_9 : decode cX1_growMay 9 = .ok (.getfield 68, 3) := by decide +kernel
theorem dX1_growMay_12 : decode cX1_growMay 12 = .ok (.iload_n 2, 1) := by decide +kernel
theorem dX1_growMay_13 : decode cX1_growMay 13 = .ok (.laload, 1) := by decide +kernel
theorem dX1_growMay_14 : decode cX1_growMay 14 = .ok (.lload_n 3, 1) := by decide +kernel
theorem dX1_growMay_15 : decode cX1_growMay 15 = .ok (.lor, 1) := by decide +kernel
theorem dX1_growMay_16 : decode cX1_growMay 16 = .ok (.aload_n 1, 1) := by decide +kernel
theorem dX1_growMay_17 : decode cX1_growMay 17 = .ok (.getfield 68, 3) := by decide +kernel
theorem dX1_growMay_20 : decode cX1_growMay 20 = .ok (.iload_n 2, 1) := by decide +kernel
theorem dX1_growMay_21 : decode cX1_growMay 21 = .ok (.laload, 1) := by decide +kernel
theorem dX1_growMay_22 : decode cX1_growMay 22 = .ok (.lcmp, 1) := by decide +kernel
theorem dX1_growMay_23 : decode cX1_growMay 23 = .ok (.ifCond .eq 19, 3) := by decide +kernel
theorem dX1_growMay_26 : decode cX1_growMay 26 = .ok (.aload_n 1, 1) := by decide +kernel
theorem dX1_growMay_27 : decode cX1_growMay 27 = .ok (.getfield 68, 3) := by decide +kernel
theorem dX1_growMay_30 : decode cX1_growMay 30 = .ok (.iload_n 2, 1) := by decide +kernel
theorem dX1_growMay_31 : decode cX1_growMay 31 = .ok (.dup2, 1) := by decide +kernel
theorem dX1_growMay_32 : decode cX1_growMay 32 = .ok (.laload, 1) := by decide +kernel
theorem dX1_growMay_33 : decode cX1_growMay 33 = .ok (.lload_n 3, 1) := by decide +kernel
theorem dX1_growMay_34 : decode cX1_growMay 34 = .ok (.lor, 1) := by decide +kernel
theorem dX1_growMay_35 : decode cX1_growMay 35 = .ok (.lastore, 1) := by decide +kernel
theorem dX1_growMay_36 : decode cX1_growMay 36 = .ok (.aload_n 0, 1) := by decide +kernel
theorem dX1_growMay_37 : decode cX1_growMay 37 = .ok (.aload_n 1, 1) := by decide +kernel
theorem dX1_growMay_38 : decode cX1_growMay 38 = .ok (.iload_n 2, 1) := by decide +kernel
theorem dX1_growMay_39 : decode cX1_growMay 39 = .ok (.invokevirtual 127, 3) := by decide +kernel
theorem dX1_growMay_42 : decode cX1_growMay 42 = .ok (.return_, 1) := by decide +kernel
def gm_X1_growMay (fu : Nat) (this : Nat) (a_0 : Nat) (p_1 : Int32) (l_2 : Int64) (X : gx_H) : Option gx_H :=
  gx_ob X a_0 0 <|
  gx_b2 (gm_X0_hasInstruction fu a_0 p_1 X) fun vz3 Xz2 =>
  if vz3 = 0 then (
  some Xz2) else (
  (gx_gd Xz2 a_0 0 8).bind fun az5 =>
  (gx_gal Xz2 az5 1 p_1).bind fun vz6 =>
  (gx_gd Xz2 a_0 0 8).bind fun az7 =>
  (gx_gal Xz2 az7 1 p_1).bind fun vz8 =>
  if (lg_cmp (vz6 ||| l_2) vz8) = 0 then (
  some Xz2) else (
  (gx_gd Xz2 a_0 0 8).bind fun az10 =>
  (gx_gal Xz2 az10 1 p_1).bind fun vz11 =>
  (gx_pal Xz2 az10 1 p_1 (vz11 ||| l_2)).bind fun Xz12 =>
  gx_ob Xz12 this 1 <|
  (gm_X1_waitAt fu this a_0 p_1 Xz12).bind fun Xz14 =>
  some Xz14))
set_option maxHeartbeats 1000000 in
set_option maxRecDepth 20000 in
theorem gc_X1_growMay {l : Launch} {D : gx_D} (fu : Nat) (this : Nat) (a_0 : Nat) (p_1 : Int32) (l_2 : Int64) (X : gx_H) (X2 : gx_H) (h : gm_X1_growMay fu this a_0 p_1 l_2 X = some X2) : gx_M D gz_cl gz_at gz_tb gz_nb l yX1_growMay cX1_growMay 5 none 1 22 [gx_r (some this), gx_r (some a_0), gx_i p_1, gx_l l_2] X none X2 0 0 := by
  unfold gm_X1_growMay at h
  refine gx_enter [some (gx_r (some this)), some (gx_r (some a_0)), some (gx_i p_1), some (gx_l l_2), none] rfl (by decide) (Nat.le_of_ble_eq_true rfl) ?_
  intro p e s m below meth c C _
  refine gx_aload_n C dX1_growMay_0 rfl rfl ?_
  refine gx_iload_n C dX1_growMay_1 rfl rfl ?_
  obtain ⟨hoz1, h⟩ := gx_obs h
  obtain ⟨vz3, Xz2, eXz2, h⟩ := gx_bd2 h
  refine gx_callV (As := [gx_i p_1]) (st := []) (stk2 := [gx_i vz3]) C cd_X0_hasInstruction wl_279 ws_X0_hasInstruction wl_329 rfl hoz1 (gc_X0_hasInstruction fu a_0 p_1 X vz3 Xz2 eXz2) rfl ⟨Nat.le_of_ble_eq_true rfl, Nat.le_of_ble_eq_true rfl⟩ ⟨Nat.le_of_ble_eq_true rfl, Nat.le_of_ble_eq_true rfl⟩ (Nat.le_of_ble_eq_true rfl) rfl rfl dX1_growMay_2 ?_
  refine gx_if_eq (tgt := 42) C dX1_growMay_5 (by decide) (fun qz4 => ?_) (fun qz4 => ?_)
  · rw [if_pos qz4] at h
    cases h
    exact gx_vret C dX1_growMay_42
  · rw [if_neg qz4] at h
    refine gx_aload_n C dX1_growMay_8 rfl rfl ?_
    obtain ⟨az5, eaz5, h⟩ := gx_bd h
    refine gx_get C kcX0 8 (by decide) wl_214 (gx_gd_s eaz5) dX1_growMay_9 ?_
    refine gx_iload_n C dX1_growMay_12 rfl rfl ?_
    obtain ⟨vz6, evz6, h⟩ := gx_bd h
    refine gx_lald C (t := 1) rfl evz6 dX1_growMay_13 ?_
    refine gx_lload_n C dX1_growMay_14 rfl rfl ?_
    refine gx_lor C dX1_growMay_15 ?_
    refine gx_aload_n C dX1_growMay_16 rfl rfl ?_
    obtain ⟨az7, eaz7, h⟩ := gx_bd h
    refine gx_get C kcX0 8 (by decide) wl_214 (gx_gd_s eaz7) dX1_growMay_17 ?_
    refine gx_iload_n C dX1_growMay_20 rfl rfl ?_
    obtain ⟨vz8, evz8, h⟩ := gx_bd h
    refine gx_lald C (t := 1) rfl evz8 dX1_growMay_21 ?_
    refine gx_lcmp C dX1_growMay_22 ?_
    refine gx_if_eq (tgt := 42) C dX1_growMay_23 (by decide) (fun qz9 => ?_) (fun qz9 => ?_)
    · rw [if_pos qz9] at h
      cases h
      exact gx_vret C dX1_growMay_42
    · rw [if_neg qz9] at h
      refine gx_aload_n C dX1_growMay_26 rfl rfl ?_
      obtain ⟨az10, eaz10, h⟩ := gx_bd h
      refine gx_get C kcX0 8 (by decide) wl_214 (gx_gd_s eaz10) dX1_growMay_27 ?_
      refine gx_iload_n C dX1_growMay_30 rfl rfl ?_
      refine gx_dup2 C dX1_growMay_31 rfl rfl ?_
      obtain ⟨vz11, evz11, h⟩ := gx_bd h
      refine gx_lald C (t := 1) rfl evz11 dX1_growMay_32 ?_
      refine gx_lload_n C dX1_growMay_33 rfl rfl ?_
      refine gx_lor C dX1_growMay_34 ?_
      obtain ⟨Xz12, eXz12, h⟩ := gx_bd h
      refine gx_last C (t := 1) rfl eXz12 dX1_growMay_35 ?_
      refine gx_aload_n C dX1_growMay_36 rfl rfl ?_
      refine gx_aload_n C dX1_growMay_37 rfl rfl ?_
      refine gx_iload_n C dX1_growMay_38 rfl rfl ?_
      obtain ⟨hoz13, h⟩ := gx_obs h
      obtain ⟨Xz14, eXz14, h⟩ := gx_bd h
      refine gx_callV (As := [gx_r (some a_0), gx_i p_1]) (st := []) (stk2 := []) C cd_X1_waitAt wl_332 ws_X1_waitAt wl_330 rfl hoz13 (gc_X1_waitAt fu this a_0 p_1 Xz12 Xz14 eXz14) rfl ⟨Nat.le_of_ble_eq_true rfl, Nat.le_of_ble_eq_true rfl⟩ ⟨Nat.le_of_ble_eq_true rfl, Nat.le_of_ble_eq_true rfl⟩ (Nat.le_of_ble_eq_true rfl) rfl rfl dX1_growMay_39 ?_
      cases h
      exact gx_vret C dX1_growMay_42
theorem dX1_growEntry_0 : decode cX1_growEntry 0 = .ok (.aload_n 1, 1) := by decide +kernel
theorem dX1_growEntry_1 : decode cX1_growEntry 1 = .ok (.dup, 1) := by decide +kernel
theorem dX1_growEntry_2 : decode cX1_growEntry 2 = .ok (.getfield 124, 3) := by decide +kernel
theorem dX1_growEntry_5 : decode cX1_growEntry 5 = .ok (.lload_n 2, 1) := by decide +kernel
theorem dX1_growEntry_6 : decode cX1_growEntry 6 = .ok (.lor, 1) := by decide +kernel
theorem dX1_growEntry_7 : decode cX1_growEntry 7 = .ok (.putfield 124, 3) := by decide +kernel
theorem dX1_growEntry_10 : decode cX1_growEntry 10 = .ok (.aload_n 0, 1) := by decide +kernel
theorem dX1_growEntry_11 : decode cX1_growEntry 11 = .ok (.aload_n 1, 1) := by decide +kernel
theorem dX1_growEntry_12 : decode cX1_growEntry 12 = .ok (.iconst 0, 1) := by decide +kernel
theorem dX1_growEntry_13 : decode cX1_growEntry 13 = .ok (.aload_n 1, 1) := by decide +kernel
theorem dX1_growEntry_14 : decode cX1_growEntry 14 = .ok (.getfield 124, 3) := by decide +kernel
theorem dX1_growEntry_17 : decode cX1_growEntry 17 = .ok (.invokevirtual 109, 3) := by decide +kernel
theorem dX1_growEntry_20 : decode cX1_growEntry 20 = .ok (.return_, 1) := by decide +kernel
def gm_X1_growEntry (fu : Nat) (this : Nat) (a_0 : Nat) (l_1 : Int64) (X : gx_H) : Option gx_H :=
  (gx_gl X a_0 0 11).bind fun vz1 =>
  (gx_pf X a_0 0 11 (.long (vz1 ||| l_1))).bind fun Xz2 =>
  (gx_gl Xz2 a_0 0 11).bind fun vz3 =>
  gx_ob Xz2 this 1 <|
  (gm_X1_growMay fu this a_0 (0 : Int32) vz3 Xz2).bind fun Xz5 =>
  some Xz5
set_option maxHeartbeats 1000000 in
set_option maxRecDepth 20000 in
theorem gc_X1_growEntry {l : Launch} {D : gx_D} (fu : Nat) (this : Nat) (a_0 : Nat) (l_1 : Int64) (X : gx_H) (X2 : gx_H) (h : gm_X1_growEntry fu this a_0 l_1 X = some X2) : gx_M D gz_cl gz_at gz_tb gz_nb l yX1_growEntry cX1_growEntry 4 none 2 46 [gx_r (some this), gx_r (some a_0), gx_l l_1] X none X2 0 0 := by
  unfold gm_X1_growEntry at h
  refine gx_enter [some (gx_r (some this)), some (gx_r (some a_0)), some (gx_l l_1), none] rfl (by decide) (Nat.le_of_ble_eq_true rfl) ?_
  intro p e s m below meth c C _
  refine gx_aload_n C dX1_growEntry_0 rfl rfl ?_
  refine gx_dup C dX1_growEntry_1 rfl ?_
  obtain ⟨vz1, evz1, h⟩ := gx_bd h
  refine gx_get C kcX0 11 (by decide) wl_220 (gx_gl_s evz1) dX1_growEntry_2 ?_
  refine gx_lload_n C dX1_growEntry_5 rfl rfl ?_
  refine gx_lor C dX1_growEntry_6 ?_
  obtain ⟨Xz2, eXz2, h⟩ := gx_bd h
  refine gx_put C kcX0 11 (by decide) rfl wl_220 ⟨rfl, rfl⟩ eXz2 dX1_growEntry_7 ?_
  refine gx_aload_n C dX1_growEntry_10 rfl rfl ?_
  refine gx_aload_n C dX1_growEntry_11 rfl rfl ?_
  refine gx_iconst (v := 0) C dX1_growEntry_12 (by decide) ?_
  refine gx_aload_n C dX1_growEntry_13 rfl rfl ?_
  obtain ⟨vz3, evz3, h⟩ := gx_bd h
  refine gx_get C kcX0 11 (by decide) wl_220 (gx_gl_s evz3) dX1_growEntry_14 ?_
  obtain ⟨hoz4, h⟩ := gx_obs h
  obtain ⟨Xz5, eXz5, h⟩ := gx_bd h
  refine gx_callV (As := [gx_r (some a_0), gx_i (0 : Int32), gx_l vz3]) (st := []) (stk2 := []) C cd_X1_growMay wl_327 ws_X1_growMay wl_325 rfl hoz4 (gc_X1_growMay fu this a_0 (0 : Int32) vz3 Xz2 Xz5 eXz5) rfl ⟨Nat.le_of_ble_eq_true rfl, Nat.le_of_ble_eq_true rfl⟩ ⟨Nat.le_of_ble_eq_true rfl, Nat.le_of_ble_eq_true rfl⟩ (Nat.le_of_ble_eq_true rfl) rfl rfl dX1_growEntry_17 ?_
  cases h
  exact gx_vret C dX1_growEntry_20
theorem dX1_growSummary_0 : decode cX1_growSummary 0 = .ok (.aload_n 1, 1) := by decide +kernel
theorem dX1_growSummary_1 : decode cX1_growSummary 1 = .ok (.getfield 94, 3) := by decide +kernel
theorem dX1_growSummary_4 : decode cX1_growSummary 4 = .ok (.lload_n 2, 1) := by decide +kernel
theorem dX1_growSummary_5 : decode cX1_growSummary 5 = .ok (.lor, 1) := by decide +kernel
theorem dX1_growSummary_6 : decode cX1_growSummary 6 = .ok (.aload_n 1, 1) := by decide +kernel
theorem dX1_growSummary_7 : decode cX1_growSummary 7 = .ok (.getfield 94, 3) := by decide +kernel
theorem dX1_growSummary_10 : decode cX1_growSummary 10 = .ok (.lcmp, 1) := by decide +kernel
theorem dX1_growSummary_11 : decode cX1_growSummary 11 = .ok (.ifCond .ne 18, 3) := by decide +kernel
theorem dX1_growSummary_14 : decode cX1_growSummary 14 = .ok (.aload_n 1, 1) := by decide +kernel
theorem dX1_growSummary_15 : decode cX1_growSummary 15 = .ok (.getfield 75, 3) := by decide +kernel
theorem dX1_growSummary_18 : decode cX1_growSummary 18 = .ok (.lload 4, 2) := by decide +kernel
theorem dX1_growSummary_20 : decode cX1_growSummary 20 = .ok (.lor, 1) := by decide +kernel
theorem dX1_growSummary_21 : decode cX1_growSummary 21 = .ok (.aload_n 1, 1) := by decide +kernel
theorem dX1_growSummary_22 : decode cX1_growSummary 22 = .ok (.getfield 75, 3) := by decide +kernel
theorem dX1_growSummary_25 : decode cX1_growSummary 25 = .ok (.lcmp, 1) := by decide +kernel
theorem dX1_growSummary_26 : decode cX1_growSummary 26 = .ok (.ifCond .eq 34, 3) := by decide +kernel
theorem dX1_growSummary_29 : decode cX1_growSummary 29 = .ok (.aload_n 1, 1) := by decide +kernel
theorem dX1_growSummary_30 : decode cX1_growSummary 30 = .ok (.dup, 1) := by decide +kernel
theorem dX1_growSummary_31 : decode cX1_growSummary 31 = .ok (.getfield 94, 3) := by decide +kernel
theorem dX1_growSummary_34 : decode cX1_growSummary 34 = .ok (.lload_n 2, 1) := by decide +kernel
theorem dX1_growSummary_35 : decode cX1_growSummary 35 = .ok (.lor, 1) := by decide +kernel
theorem dX1_growSummary_36 : decode cX1_growSummary 36 = .ok (.putfield 94, 3) := by decide +kernel
theorem dX1_growSummary_39 : decode cX1_growSummary 39 = .ok (.aload_n 1, 1) := by decide +kernel
theorem dX1_growSummary_40 : decode cX1_growSummary 40 = .ok (.dup, 1) := by decide +kernel
theorem dX1_growSummary_41 : decode cX1_growSummary 41 = .ok (.getfield 75, 3) := by decide +kernel
theorem dX1_growSummary_44 : decode cX1_growSummary 44 = .ok (.lload 4, 2) := by decide +kernel
theorem dX1_growSummary_46 : decode cX1_growSummary 46 = .ok (.lor, 1) := by decide +kernel
theorem dX1_growSummary_47 : decode cX1_growSummary 47 = .ok (.putfield 75, 3) := by decide +kernel
theorem dX1_growSummary_50 : decode cX1_growSummary 50 = .ok (.aload_n 1, 1) := by decide +kernel
theorem dX1_growSummary_51 : decode cX1_growSummary 51 = .ok (.iconst 1, 1) := by decide +kernel
theorem dX1_growSummary_52 : decode cX1_growSummary 52 = .ok (.putfield 131, 3) := by decide +kernel
theorem dX1_growSummary_55 : decode cX1_growSummary 55 = .ok (.aload_n 0, 1) := by decide +kernel
theorem dX1_growSummary_56 : decode cX1_growSummary 56 = .ok (.iconst 1, 1) := by decide +kernel
theorem dX1_growSummary_57 : decode cX1_growSummary 57 = .ok (.putfield 42, 3) := by decide +kernel
theorem dX1_growSummary_60 : decode cX1_growSummary 60 = .ok (.return_, 1) := by decide +kernel
def gm_X1_growSummary_29 (fu : Nat) (a0 : Nat) (a1 : Nat) (y2 : Int64) (y4 : Int64) (X : gx_H) : Option gx_H :=
  (gx_gl X a1 0 12).bind fun vz1 =>
  (gx_pf X a1 0 12 (.long (vz1 ||| y2))).bind fun Xz2 =>
  (gx_gl Xz2 a1 0 13).bind fun vz3 =>
  (gx_pf Xz2 a1 0 13 (.long (vz3 ||| y4))).bind fun Xz4 =>
  (gx_pf Xz4 a1 0 14 (.int (1 : Int32))).bind fun Xz5 =>
  (gx_pf Xz5 a0 1 3 (.int (1 : Int32))).bind fun Xz6 =>
  some Xz6
set_option maxHeartbeats 1000000 in
set_option maxRecDepth 20000 in
theorem gt_X1_growSummary_29 {p : Program} {l : Launch} {e : Env} {s : State} {m : MethodId} {args : Array Value} {below : List Frame} {meth : Method} {c : Code} {D : gx_D} {X2 : gx_H}  (C : gx_C D gz_cl gz_at gz_tb gz_nb p s m meth c cX1_growSummary 6 RX1 none) (fu : Nat) (a0 : Nat) (a1 : Nat) (y2 : Int64) (y4 : Int64) (X : gx_H) (h : gm_X1_growSummary_29 fu  a0 a1 y2 y4 X = some X2) : gx_W D gz_cl 6 p l e (gx_rm 0 0 0 0) s m args below meth c 0 0 (MQ below (gx_Q D gz_cl none X2) args s 0 0 (gx_Z D)) X 29 [some (gx_r (some a0)), some (gx_r (some a1)), some (gx_l y2), none, some (gx_l y4), none] [] := by
  unfold gm_X1_growSummary_29 at h
  refine gx_aload_n C dX1_growSummary_29 rfl rfl ?_
  refine gx_dup C dX1_growSummary_30 rfl ?_
  obtain ⟨vz1, evz1, h⟩ := gx_bd h
  refine gx_get C kcX0 12 (by decide) wl_223 (gx_gl_s evz1) dX1_growSummary_31 ?_
  refine gx_lload_n C dX1_growSummary_34 rfl rfl ?_
  refine gx_lor C dX1_growSummary_35 ?_
  obtain ⟨Xz2, eXz2, h⟩ := gx_bd h
  refine gx_put C kcX0 12 (by decide) rfl wl_223 ⟨rfl, rfl⟩ eXz2 dX1_growSummary_36 ?_
  refine gx_aload_n C dX1_growSummary_39 rfl rfl ?_
  refine gx_dup C dX1_growSummary_40 rfl ?_
  obtain ⟨vz3, evz3, h⟩ := gx_bd h
  refine gx_get C kcX0 13 (by decide) wl_226 (gx_gl_s evz3) dX1_growSummary_41 ?_
  refine gx_lload C dX1_growSummary_44 rfl ?_
  refine gx_lor C dX1_growSummary_46 ?_
  obtain ⟨Xz4, eXz4, h⟩ := gx_bd h
  refine gx_put C kcX0 13 (by decide) rfl wl_226 ⟨rfl, rfl⟩ eXz4 dX1_growSummary_47 ?_
  refine gx_aload_n C dX1_growSummary_50 rfl rfl ?_
  refine gx_iconst (v := 1) C dX1_growSummary_51 (by decide) ?_
  obtain ⟨Xz5, eXz5, h⟩ := gx_bd h
  refine gx_put C kcX0 14 (by decide) rfl wl_229 (gx_nz (Or.inr rfl)) eXz5 dX1_growSummary_52 ?_
  refine gx_aload_n C dX1_growSummary_55 rfl rfl ?_
  refine gx_iconst (v := 1) C dX1_growSummary_56 (by decide) ?_
  obtain ⟨Xz6, eXz6, h⟩ := gx_bd h
  refine gx_put C kcX1 3 (by decide) rfl wl_50 (gx_nz (Or.inr rfl)) eXz6 dX1_growSummary_57 ?_
  cases h
  exact gx_vret C dX1_growSummary_60
def gm_X1_growSummary (fu : Nat) (this : Nat) (a_0 : Nat) (l_1 : Int64) (l_2 : Int64) (X : gx_H) : Option gx_H :=
  (gx_gl X a_0 0 12).bind fun vz7 =>
  (gx_gl X a_0 0 12).bind fun vz8 =>
  if (lg_cmp (vz7 ||| l_1) vz8) = 0 then (
  (gx_gl X a_0 0 13).bind fun vz10 =>
  (gx_gl X a_0 0 13).bind fun vz11 =>
  if (lg_cmp (vz10 ||| l_2) vz11) = 0 then (
  some X) else (
  gm_X1_growSummary_29 fu  this a_0 l_1 l_2 X)) else (
  gm_X1_growSummary_29 fu  this a_0 l_1 l_2 X)
set_option maxHeartbeats 1000000 in
set_option maxRecDepth 20000 in
theorem gc_X1_growSummary {l : Launch} {D : gx_D} (fu : Nat) (this : Nat) (a_0 : Nat) (l_1 : Int64) (l_2 : Int64) (X : gx_H) (X2 : gx_H) (h : gm_X1_growSummary fu this a_0 l_1 l_2 X = some X2) : gx_M D gz_cl gz_at gz_tb gz_nb l yX1_growSummary cX1_growSummary 6 none 0 0 [gx_r (some this), gx_r (some a_0), gx_l l_1, gx_l l_2] X none X2 0 0 := by
  unfold gm_X1_growSummary at h
  refine gx_enter [some (gx_r (some this)), some (gx_r (some a_0)), some (gx_l l_1), none, some (gx_l l_2), none] rfl (by decide) (Nat.le_of_ble_eq_true rfl) ?_
  intro p e s m below meth c C _
  refine gx_aload_n C dX1_growSummary_0 rfl rfl ?_
  obtain ⟨vz7, evz7, h⟩ := gx_bd h
  refine gx_get C kcX0 12 (by decide) wl_223 (gx_gl_s evz7) dX1_growSummary_1 ?_
  refine gx_lload_n C dX1_growSummary_4 rfl rfl ?_
  refine gx_lor C dX1_growSummary_5 ?_
  refine gx_aload_n C dX1_growSummary_6 rfl rfl ?_
  obtain ⟨vz8, evz8, h⟩ := gx_bd h
  refine gx_get C kcX0 12 (by decide) wl_223 (gx_gl_s evz8) dX1_growSummary_7 ?_
  refine gx_lcmp C dX1_growSummary_10 ?_
  refine gx_if_ne (tgt := 29) C dX1_growSummary_11 (by decide) (fun qz9 => ?_) (fun qz9 => ?_)
  · rw [if_neg qz9] at h
    exact gt_X1_growSummary_29 C fu  this a_0 l_1 l_2 X h
  · rw [if_pos qz9] at h
    refine gx_aload_n C dX1_growSummary_14 rfl rfl ?_
    obtain ⟨vz10, evz10, h⟩ := gx_bd h
    refine gx_get C kcX0 13 (by decide) wl_226 (gx_gl_s evz10) dX1_growSummary_15 ?_
    refine gx_lload C dX1_growSummary_18 rfl ?_
    refine gx_lor C dX1_growSummary_20 ?_
    refine gx_aload_n C dX1_growSummary_21 rfl rfl ?_
    obtain ⟨vz11, evz11, h⟩ := gx_bd h
    refine gx_get C kcX0 13 (by decide) wl_226 (gx_gl_s evz11) dX1_growSummary_22 ?_
    refine gx_lcmp C dX1_growSummary_25 ?_
    refine gx_if_eq (tgt := 60) C dX1_growSummary_26 (by decide) (fun qz12 => ?_) (fun qz12 => ?_)
    · rw [if_pos qz12] at h
      cases h
      exact gx_vret C dX1_growSummary_60
    · rw [if_neg qz12] at h
      exact gt_X1_growSummary_29 C fu  this a_0 l_1 l_2 X h
theorem dX1_init_0 : decode cX1_init 0 = .ok (.aload_n 0, 1) := by decide +kernel
theorem dX1_init_1 : decode cX1_init 1 = .ok (.invokespecial 3, 3) := by decide +kernel
theorem dX1_init_4 : decode cX1_init 4 = .ok (.aload_n 0, 1) := by decide +kernel
theorem dX1_init_5 : decode cX1_init 5 = .ok (.sipush 1600, 3) := by decide +kernel
theorem dX1_init_8 : decode cX1_init 8 = .ok (.newarray .int, 2) := by decide +kernel
theorem dX1_init_10 : decode cX1_init 10 = .ok (.putfield 9, 3) := by decide +kernel
theorem dX1_init_13 : decode cX1_init 13 = .ok (.aload_n 0, 1) := by decide +kernel
theorem dX1_init_14 : decode cX1_init 14 = .ok (.aload_n 1, 1) := by decide +kernel
theorem dX1_init_15 : decode cX1_init 15 = .ok (.putfield 15, 3) := by decide +kernel
theorem dX1_init_18 : decode cX1_init 18 = .ok (.return_, 1) := by decide +kernel
def gm_X1_init (fu : Nat) (this : Nat) (a_0 : Nat) (X : gx_H) : Option (Unit × gx_H × Nat × Nat) :=
  gx_ad 1 1600 <|
  (gx_pf (gx_nw X (.inl (0, 1600, .inl fun _ => 0))) this 1 1 (.ref X.2)).bind fun Xz2 =>
  (gx_pf Xz2 this 1 0 (.ref a_0)).bind fun Xz3 =>
  some ((), Xz3, 0, 0)
set_option maxHeartbeats 1000000 in
set_option maxRecDepth 20000 in
theorem gc_X1_init {l : Launch} {D : gx_D} (fu : Nat) (this : Nat) (a_0 : Nat) (X : gx_H) (X2 : gx_H) (tc ts : Nat) (h : gm_X1_init fu this a_0 X = some ((), X2, tc, ts)) : gx_M D gz_cl gz_at gz_tb gz_nb l yX1_init cX1_init 2 none 1 20 [gx_r (some this), gx_r (some a_0)] X none X2 tc ts := by
  unfold gm_X1_init at h
  refine gx_enter [some (gx_r (some this)), some (gx_r (some a_0))] rfl (by decide) (Nat.le_of_ble_eq_true rfl) ?_
  intro p e s m below meth c C hin
  have h1 : 0 + tc = tc := Nat.zero_add tc
  have h2 : 0 + ts = ts := Nat.zero_add ts
  refine gx_aload_n C dX1_init_0 rfl rfl ?_
  refine gx_objInit C wl_46 wl_15 wl_16 dX1_init_1 (Nat.le_of_ble_eq_true rfl) (Nat.le_of_ble_eq_true rfl) ?_
  refine gx_aload_n C dX1_init_4 rfl rfl ?_
  refine gx_sipush (v := 1600) C dX1_init_5 (by decide) ?_
  obtain ⟨cz1, sz1, h, ecz1, esz1⟩ := gx_add h
  refine gx_newa (t := 0) (N' := 1600) (a0 := (1600, .inl fun _ => 0)) C rfl rfl (fun _ _ q => q) wl_60 (fun _ => rfl) (by decide) (by decide) (by decide) (show 0 + 1 ≤ tc by omega) (show 0 + 1600 ≤ ts by omega) dX1_init_8 ?_
  obtain ⟨Xz2, eXz2, h⟩ := gx_bd h
  refine gx_putF C kcX1 1 (by decide) rfl hin rfl wl_48 ⟨rfl, rfl⟩ eXz2 dX1_init_10 ?_
  refine gx_aload_n C dX1_init_13 rfl rfl ?_
  refine gx_aload_n C dX1_init_14 rfl rfl ?_
  obtain ⟨Xz3, eXz3, h⟩ := gx_bd h
  refine gx_putF C kcX1 0 (by decide) rfl hin rfl wl_47 ⟨rfl, rfl⟩ eXz3 dX1_init_15 ?_
  cases h
  exact gx_widen (by omega) (by omega) (gx_vret C dX1_init_18)
theorem dX1_passOn_0 : decode cX1_passOn 0 = .ok (.aload_n 1, 1) := by decide +kernel
theorem dX1_passOn_1 : decode cX1_passOn 1 = .ok (.getfield 65, 3) := by decide +kernel
theorem dX1_passOn_4 : decode cX1_passOn 4 = .ok (.iload_n 2, 1) := by decide +kernel
theorem dX1_passOn_5 : decode cX1_passOn 5 = .ok (.iaload, 1) := by decide +kernel
theorem dX1_passOn_6 : decode cX1_passOn 6 = .ok (.istore 5, 2) := by decide +kernel
theorem dX1_passOn_8 : decode cX1_passOn 8 = .ok (.aload_n 1, 1) := by decide +kernel
theorem dX1_passOn_9 : decode cX1_passOn 9 = .ok (.iload_n 2, 1) := by decide +kernel
theorem dX1_passOn_10 : decode cX1_passOn 10 = .ok (.invokevirtual 106, 3) := by decide +kernel
theorem dX1_passOn_13 : decode cX1_passOn 13 = .ok (.ifCond .eq 15, 3) := by decide +kernel
theorem dX1_passOn_16 : decode cX1_passOn 16 = .ok (.aload_n 0, 1) := by decide +kernel
theorem dX1_passOn_17 : decode cX1_passOn 17 = .ok (.aload_n 1, 1) := by decide +kernel
theorem dX1_passOn_18 : decode cX1_passOn 18 = .ok (.aload_n 1, 1) := by decide +kernel
theorem dX1_passOn_19 : decode cX1_passOn 19 = .ok (.getfield 72, 3) := by decide +kernel
theorem dX1_passOn_22 : decode cX1_passOn 22 = .ok (.iload_n 2, 1) := by decide +kernel
theorem dX1_passOn_23 : decode cX1_passOn 23 = .ok (.iaload, 1) := by decide +kernel
theorem dX1_passOn_24 : decode cX1_passOn 24 = .ok (.lload_n 3, 1) := by decide +kernel
theorem dX1_passOn_25 : decode cX1_passOn 25 = .ok (.invokevirtual 109, 3) := by decide +kernel
theorem dX1_passOn_28 : decode cX1_passOn 28 = .ok (.iload 5, 2) := by decide +kernel
theorem dX1_passOn_30 : decode cX1_passOn 30 = .ok (.iconst 1, 1) := by decide +kernel
theorem dX1_passOn_31 : decode cX1_passOn 31 = .ok (.if_icmp .eq 26, 3) := by decide +kernel
theorem dX1_passOn_34 : decode cX1_passOn 34 = .ok (.iload 5, 2) := by decide +kernel
theorem dX1_passOn_36 : decode cX1_passOn 36 = .ok (.bipush 6, 2) := by decide +kernel
theorem dX1_passOn_38 : decode cX1_passOn 38 = .ok (.if_icmp .eq 19, 3) := by decide +kernel
theorem dX1_passOn_41 : decode cX1_passOn 41 = .ok (.iload 5, 2) := by decide +kernel
theorem dX1_passOn_43 : decode cX1_passOn 43 = .ok (.bipush 7, 2) := by decide +kernel
theorem dX1_passOn_45 : decode cX1_passOn 45 = .ok (.if_icmp .eq 12, 3) := by decide +kernel
theorem dX1_passOn_48 : decode cX1_passOn 48 = .ok (.aload_n 0, 1) := by decide +kernel
theorem dX1_passOn_49 : decode cX1_passOn 49 = .ok (.aload_n 1, 1) := by decide +kernel
theorem dX1_passOn_50 : decode cX1_passOn 50 = .ok (.iload_n 2, 1) := by decide +kernel
theorem dX1_passOn_51 : decode cX1_passOn 51 = .ok (.iconst 1, 1) := by decide +kernel
theorem dX1_passOn_52 : decode cX1_passOn 52 = .ok (.iadd, 1) := by decide +kernel
theorem dX1_passOn_53 : decode cX1_passOn 53 = .ok (.lload_n 3, 1) := by decide +kernel
theorem dX1_passOn_54 : decode cX1_passOn 54 = .ok (.invokevirtual 109, 3) := by decide +kernel
theorem dX1_passOn_57 : decode cX1_passOn 57 = .ok (.return_, 1) := by decide +kernel
def gm_X1_passOn_28 (fu : Nat) (a0 : Nat) (a1 : Nat) (x2 : Int32) (y3 : Int64) (x5 : Int32) (X : gx_H) : Option gx_H :=
  if x5 = (1 : Int32) then (
  some X) else (
  if x5 = (6 : Int32) then (
  some X) else (
  if x5 = (7 : Int32) then (
  some X) else (
  gx_ob X a0 1 <|
  (gm_X1_growMay fu a0 a1 (x2 + (1 : Int32)) y3 X).bind fun Xz5 =>
  some Xz5)))
set_option maxHeartbeats 1000000 in
set_option maxRecDepth 20000 in
theorem gt_X1_passOn_28 {p : Program} {l : Launch} {e : Env} {s : State} {m : MethodId} {args : Array Value} {below : List Frame} {meth : Method} {c : Code} {D : gx_D} {X2 : gx_H}  (C : gx_C D gz_cl gz_at gz_tb gz_nb p s m meth c cX1_passOn 6 RX1 none) (fu : Nat) (a0 : Nat) (a1 : Nat) (x2 : Int32) (y3 : Int64) (x5 : Int32) (X : gx_H) (h : gm_X1_passOn_28 fu  a0 a1 x2 y3 x5 X = some X2) : gx_W D gz_cl 6 p l e (gx_rm 2 46 0 0) s m args below meth c 0 0 (MQ below (gx_Q D gz_cl none X2) args s 0 0 (gx_Z D)) X 28 [some (gx_r (some a0)), some (gx_r (some a1)), some (gx_i x2), some (gx_l y3), none, some (gx_i x5)] [] := by
  unfold gm_X1_passOn_28 at h
  refine gx_iload C dX1_passOn_28 rfl ?_
  refine gx_iconst (v := 1) C dX1_passOn_30 (by decide) ?_
  refine gx_icmp_eq (tgt := 57) C dX1_passOn_31 (by decide) (fun qz1 => ?_) (fun qz1 => ?_)
  · rw [if_pos qz1] at h
    cases h
    exact gx_vret C dX1_passOn_57
  · rw [if_neg qz1] at h
    refine gx_iload C dX1_passOn_34 rfl ?_
    refine gx_bipush (v := 6) C dX1_passOn_36 (by decide) ?_
    refine gx_icmp_eq (tgt := 57) C dX1_passOn_38 (by decide) (fun qz2 => ?_) (fun qz2 => ?_)
    · rw [if_pos qz2] at h
      cases h
      exact gx_vret C dX1_passOn_57
    · rw [if_neg qz2] at h
      refine gx_iload C dX1_passOn_41 rfl ?_
      refine gx_bipush (v := 7) C dX1_passOn_43 (by decide) ?_
      refine gx_icmp_eq (tgt := 57) C dX1_passOn_45 (by decide) (fun qz3 => ?_) (fun qz3 => ?_)
      · rw [if_pos qz3] at h
        cases h
        exact gx_vret C dX1_passOn_57
      · rw [if_neg qz3] at h
        refine gx_aload_n C dX1_passOn_48 rfl rfl ?_
        refine gx_aload_n C dX1_passOn_49 rfl rfl ?_
        refine gx_iload_n C dX1_passOn_50 rfl rfl ?_
        refine gx_iconst (v := 1) C dX1_passOn_51 (by decide) ?_
        refine gx_iadd C dX1_passOn_52 ?_
        refine gx_lload_n C dX1_passOn_53 rfl rfl ?_
        obtain ⟨hoz4, h⟩ := gx_obs h
        obtain ⟨Xz5, eXz5, h⟩ := gx_bd h
        refine gx_callV (As := [gx_r (some a1), gx_i (x2 + (1 : Int32)), gx_l y3]) (st := []) (stk2 := []) C cd_X1_growMay wl_327 ws_X1_growMay wl_325 rfl hoz4 (gc_X1_growMay fu a0 a1 (x2 + (1 : Int32)) y3 X Xz5 eXz5) rfl ⟨Nat.le_of_ble_eq_true rfl, Nat.le_of_ble_eq_true rfl⟩ ⟨Nat.le_of_ble_eq_true rfl, Nat.le_of_ble_eq_true rfl⟩ (Nat.le_of_ble_eq_true rfl) rfl rfl dX1_passOn_54 ?_
        cases h
        exact gx_vret C dX1_passOn_57
def gm_X1_passOn (fu : Nat) (this : Nat) (a_0 : Nat) (p_1 : Int32) (l_2 : Int64) (X : gx_H) : Option gx_H :=
  (gx_gd X a_0 0 1).bind fun az6 =>
  (gx_gai X az6 0 p_1).bind fun vz7 =>
  gx_ob X a_0 0 <|
  gx_b2 (gm_X0_goesToNumber fu a_0 p_1 X) fun vz10 Xz9 =>
  if vz10 = 0 then (
  gm_X1_passOn_28 fu  this a_0 p_1 l_2 vz7 Xz9) else (
  (gx_gd Xz9 a_0 0 2).bind fun az12 =>
  (gx_gai Xz9 az12 0 p_1).bind fun vz13 =>
  gx_ob Xz9 this 1 <|
  (gm_X1_growMay fu this a_0 vz13 l_2 Xz9).bind fun Xz15 =>
  gm_X1_passOn_28 fu  this a_0 p_1 l_2 vz7 Xz15)
set_option maxHeartbeats 1000000 in
set_option maxRecDepth 20000 in
theorem gc_X1_passOn {l : Launch} {D : gx_D} (fu : Nat) (this : Nat) (a_0 : Nat) (p_1 : Int32) (l_2 : Int64) (X : gx_H) (X2 : gx_H) (h : gm_X1_passOn fu this a_0 p_1 l_2 X = some X2) : gx_M D gz_cl gz_at gz_tb gz_nb l yX1_passOn cX1_passOn 6 none 2 46 [gx_r (some this), gx_r (some a_0), gx_i p_1, gx_l l_2] X none X2 0 0 := by
  unfold gm_X1_passOn at h
  refine gx_enter [some (gx_r (some this)), some (gx_r (some a_0)), some (gx_i p_1), some (gx_l l_2), none, none] rfl (by decide) (Nat.le_of_ble_eq_true rfl) ?_
  intro p e s m below meth c C _
  refine gx_aload_n C dX1_passOn_0 rfl rfl ?_
  obtain ⟨az6, eaz6, h⟩ := gx_bd h
  refine gx_get C kcX0 1 (by decide) wl_183 (gx_gd_s eaz6) dX1_passOn_1 ?_
  refine gx_iload_n C dX1_passOn_4 rfl rfl ?_
  obtain ⟨vz7, evz7, h⟩ := gx_bd h
  refine gx_iald C (t := 0) rfl evz7 dX1_passOn_5 ?_
  refine gx_istore (lv2 := [some (gx_r (some this)), some (gx_r (some a_0)), some (gx_i p_1), some (gx_l l_2), none, some (gx_i vz7)]) C dX1_passOn_6 (by decide) rfl ?_
  refine gx_aload_n C dX1_passOn_8 rfl rfl ?_
  refine gx_iload_n C dX1_passOn_9 rfl rfl ?_
  obtain ⟨hoz8, h⟩ := gx_obs h
  obtain ⟨vz10, Xz9, eXz9, h⟩ := gx_bd2 h
  refine gx_callV (As := [gx_i p_1]) (st := []) (stk2 := [gx_i vz10]) C cd_X0_goesToNumber wl_318 ws_X0_goesToNumber wl_360 rfl hoz8 (gc_X0_goesToNumber fu a_0 p_1 X vz10 Xz9 eXz9) rfl ⟨Nat.le_of_ble_eq_true rfl, Nat.le_of_ble_eq_true rfl⟩ ⟨Nat.le_of_ble_eq_true rfl, Nat.le_of_ble_eq_true rfl⟩ (Nat.le_of_ble_eq_true rfl) rfl rfl dX1_passOn_10 ?_
  refine gx_if_eq (tgt := 28) C dX1_passOn_13 (by decide) (fun qz11 => ?_) (fun qz11 => ?_)
  · rw [if_pos qz11] at h
    exact gt_X1_passOn_28 C fu  this a_0 p_1 l_2 vz7 Xz9 h
  · rw [if_neg qz11] at h
    refine gx_aload_n C dX1_passOn_16 rfl rfl ?_
    refine gx_aload_n C dX1_passOn_17 rfl rfl ?_
    refine gx_aload_n C dX1_passOn_18 rfl rfl ?_
    obtain ⟨az12, eaz12, h⟩ := gx_bd h
    refine gx_get C kcX0 2 (by decide) wl_188 (gx_gd_s eaz12) dX1_passOn_19 ?_
    refine gx_iload_n C dX1_passOn_22 rfl rfl ?_
    obtain ⟨vz13, evz13, h⟩ := gx_bd h
    refine gx_iald C (t := 0) rfl evz13 dX1_passOn_23 ?_
    refine gx_lload_n C dX1_passOn_24 rfl rfl ?_
    obtain ⟨hoz14, h⟩ := gx_obs h
    obtain ⟨Xz15, eXz15, h⟩ := gx_bd h
    refine gx_callV (As := [gx_r (some a_0), gx_i vz13, gx_l l_2]) (st := []) (stk2 := []) C cd_X1_growMay wl_327 ws_X1_growMay wl_325 rfl hoz14 (gc_X1_growMay fu this a_0 vz13 l_2 Xz9 Xz15 eXz15) rfl ⟨Nat.le_of_ble_eq_true rfl, Nat.le_of_ble_eq_true rfl⟩ ⟨Nat.le_of_ble_eq_true rfl, Nat.le_of_ble_eq_true rfl⟩ (Nat.le_of_ble_eq_true rfl) rfl rfl dX1_passOn_25 ?_
    exact gt_X1_passOn_28 C fu  this a_0 p_1 l_2 vz7 Xz15 h
