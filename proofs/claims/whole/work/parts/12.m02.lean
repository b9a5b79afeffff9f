/-! methods: X1_passToHandlers, X1_step, X1_wakeCallersIn, X1_wakeCallers, X1_settle, X2_copyHandlers, X4_bitOf, X4_changesSome -/
theorem dX1_passToHandlers_0 : decode cX1_passToHandlers 0 = .ok (.iconst 0, 1) := by decide +kernel
theorem dX1_passToHandlers_1 : decode cX1_passToHandlers 1 = .ok (.istore 5, 2) := by decide +kernel
theorem dX1_passToHandlers_3 : decode cX1_passToHandlers 3 = .ok (.iload 5, 2) := by decide +kernel
theorem dX1_passToHandlers_5 : decode cX1_passToHandlers 5 = .ok (.aload_n 1, 1) := by decide +kernel
theorem dX1_passToHandlers_6 : decode cX1_passToHandlers 6 = .ok (.getfield 112, 3) := by decide +kernel
theorem dX1_passToHandlers_9 : decode cX1_passToHandlers 9 = .ok (.if_icmp .ge 44, 3) := by decide +kernel
theorem dX1_passToHandlers_12 : decode cX1_passToHandlers 12 = .ok (.aload_n 1, 1) := by decide +kernel
theorem dX1_passToHandlers_13 : decode cX1_passToHandlers 13 = .ok (.getfield 115, 3) := by decide +kernel
theorem dX1_passToHandlers_16 : decode cX1_passToHandlers 16 = .ok (.iload 5, 2) := by decide +kernel
theorem dX1_passToHandlers_18 : decode cX1_passToHandlers 18 = .ok (.iaload, 1) := by decide +kernel
theorem dX1_passToHandlers_19 : decode cX1_passToHandlers 19 = .ok (.iload_n 2, 1) := by decide +kernel
theorem dX1_passToHandlers_20 : decode cX1_passToHandlers 20 = .ok (.if_icmp .gt 27, 3) := by decide +kernel
theorem dX1_passToHandlers_23 : decode cX1_passToHandlers 23 = .ok (.iload_n 2, 1) := by decide +kernel
theorem dX1_passToHandlers_24 : decode cX1_passToHandlers 24 = .ok (.aload_n 1, 1) := by decide +kernel
theorem dX1_passToHandlers_25 : decode cX1_passToHandlers 25 = .ok (.getfield 118, 3) := by decide +kernel
theorem dX1_passToHandlers_28 : decode cX1_passToHandlers 28 = .ok (.iload 5, 2) := by decide +kernel
theorem dX1_passToHandlers_30 : decode cX1_passToHandlers 30 = .ok (.iaload, 1) := by decide +kernel
theorem dX1_passToHandlers_31 : decode cX1_passToHandlers 31 = .ok (.if_icmp .ge 16, 3) := by decide +kernel
theorem dX1_passToHandlers_34 : decode cX1_passToHandlers 34 = .ok (.aload_n 0, 1) := by decide +kernel
theorem dX1_passToHandlers_35 : decode cX1_passToHandlers 35 = .ok (.aload_n 1, 1) := by decide +kernel
theorem dX1_passToHandlers_36 : decode cX1_passToHandlers 36 = .ok (.aload_n 1, 1) := by decide +kernel
theorem dX1_passToHandlers_37 : decode cX1_passToHandlers 37 = .ok (.getfield 121, 3) := by decide +kernel
theorem dX1_passToHandlers_40 : decode cX1_passToHandlers 40 = .ok (.iload 5, 2) := by decide +kernel
theorem dX1_passToHandlers_42 : decode cX1_passToHandlers 42 = .ok (.iaload, 1) := by decide +kernel
theorem dX1_passToHandlers_43 : decode cX1_passToHandlers 43 = .ok (.lload_n 3, 1) := by decide +kernel
theorem dX1_passToHandlers_44 : decode cX1_passToHandlers 44 = .ok (.invokevirtual 109, 3) := by decide +kernel
theorem dX1_passToHandlers_47 : decode cX1_passToHandlers 47 = .ok (.iinc 5 1, 3) := by decide +kernel
theorem dX1_passToHandlers_50 : decode cX1_passToHandlers 50 = .ok (.goto (-47), 3) := by decide +kernel
theorem dX1_passToHandlers_53 : decode cX1_passToHandlers 53 = .ok (.return_, 1) := by decide +kernel
def gm_X1_passToHandlers_47 (fu : Nat) (K3 : Nat → Nat → Int32 → Int64 → Int32 → gx_H → Option gx_H) (a0 : Nat) (a1 : Nat) (x2 : Int32) (y3 : Int64) (x5 : Int32) (X : gx_H) : Option gx_H :=
  K3 a0 a1 x2 y3 (x5 + 1) X
set_option maxHeartbeats 1000000 in
set_option maxRecDepth 20000 in
theorem gt_X1_passToHandlers_47 {p : Program} {l : Launch} {e : Env} {s : State} {m : MethodId} {args : Array Value} {below : List Frame} {meth : Method} {c : Code} {D : gx_D} {X2 : gx_H}  (C : gx_C D gz_cl gz_at gz_tb gz_nb p s m meth c cX1_passToHandlers 6 RX1 none) (fu : Nat) (K3 : Nat → Nat → Int32 → Int64 → Int32 → gx_H → Option gx_H) (hK3 : ∀ (a0 : Nat) (a1 : Nat) (x2 : Int32) (y3 : Int64) (x5 : Int32) (X : gx_H), K3 a0 a1 x2 y3 x5 X = some X2 → gx_W D gz_cl 6 p l e (gx_rm 2 46 0 0) s m args below meth c 0 0 (MQ below (gx_Q D gz_cl none X2) args s 0 0 (gx_Z D)) X 3 [some (gx_r (some a0)), some (gx_r (some a1)), some (gx_i x2), some (gx_l y3), none, some (gx_i x5)] []) (a0 : Nat) (a1 : Nat) (x2 : Int32) (y3 : Int64) (x5 : Int32) (X : gx_H) (h : gm_X1_passToHandlers_47 fu K3 a0 a1 x2 y3 x5 X = some X2) : gx_W D gz_cl 6 p l e (gx_rm 2 46 0 0) s m args below meth c 0 0 (MQ below (gx_Q D gz_cl none X2) args s 0 0 (gx_Z D)) X 47 [some (gx_r (some a0)), some (gx_r (some a1)), some (gx_i x2), some (gx_l y3), none, some (gx_i x5)] [] := by
  unfold gm_X1_passToHandlers_47 at h
  refine gx_iinc (v := (x5 + 1)) (lv2 := [some (gx_r (some a0)), some (gx_r (some a1)), some (gx_i x2), some (gx_l y3), none, some (gx_i (x5 + 1))]) C dX1_passToHandlers_47 rfl rfl (by decide) rfl ?_
  refine gx_goto (tgt := 3) C dX1_passToHandlers_50 (by decide) ?_
  exact hK3 a0 a1 x2 y3 (x5 + 1) X h
def gm_X1_passToHandlers_3 (fu : Nat) : Nat → Nat → Nat → Int32 → Int64 → Int32 → gx_H → Option gx_H
  | 0, _, _, _, _, _, _ => none
  | n + 1, a0, a1, x2, y3, x5, X =>
    (gx_gi X a1 0 7).bind fun vz1 =>
    if vz1 ≤ x5 then (
    some X) else (
    (gx_gd X a1 0 3).bind fun az3 =>
    (gx_gai X az3 0 x5).bind fun vz4 =>
    if x2 < vz4 then (
    gm_X1_passToHandlers_47 fu (gm_X1_passToHandlers_3 fu  n) a0 a1 x2 y3 x5 X) else (
    (gx_gd X a1 0 4).bind fun az6 =>
    (gx_gai X az6 0 x5).bind fun vz7 =>
    if vz7 ≤ x2 then (
    gm_X1_passToHandlers_47 fu (gm_X1_passToHandlers_3 fu  n) a0 a1 x2 y3 x5 X) else (
    (gx_gd X a1 0 5).bind fun az9 =>
    (gx_gai X az9 0 x5).bind fun vz10 =>
    gx_ob X a0 1 <|
    (gm_X1_growMay fu a0 a1 vz10 y3 X).bind fun Xz12 =>
    gm_X1_passToHandlers_47 fu (gm_X1_passToHandlers_3 fu  n) a0 a1 x2 y3 x5 Xz12)))
set_option maxHeartbeats 1000000 in
set_option maxRecDepth 20000 in
theorem gt_X1_passToHandlers_3 {p : Program} {l : Launch} {e : Env} {s : State} {m : MethodId} {args : Array Value} {below : List Frame} {meth : Method} {c : Code} {D : gx_D} {X2 : gx_H}  (C : gx_C D gz_cl gz_at gz_tb gz_nb p s m meth c cX1_passToHandlers 6 RX1 none) (fu : Nat) : ∀ (n : Nat) (a0 : Nat) (a1 : Nat) (x2 : Int32) (y3 : Int64) (x5 : Int32) (X : gx_H) , gm_X1_passToHandlers_3 fu  n a0 a1 x2 y3 x5 X = some X2 → gx_W D gz_cl 6 p l e (gx_rm 2 46 0 0) s m args below meth c 0 0 (MQ below (gx_Q D gz_cl none X2) args s 0 0 (gx_Z D)) X 3 [some (gx_r (some a0)), some (gx_r (some a1)), some (gx_i x2), some (gx_l y3), none, some (gx_i x5)] [] := by
  intro n
  induction n with
  | zero =>
    intro a0 a1 x2 y3 x5 X h
    have h : none = some _ := h
    cases h
  | succ n ih =>
    intro a0 a1 x2 y3 x5 X h
    rw [gm_X1_passToHandlers_3] at h
    refine gx_iload C dX1_passToHandlers_3 rfl ?_
    refine gx_aload_n C dX1_passToHandlers_5 rfl rfl ?_
    obtain ⟨vz1, evz1, h⟩ := gx_bd h
    refine gx_get C kcX0 7 (by decide) wl_211 (gx_gi_s evz1) dX1_passToHandlers_6 ?_
    refine gx_icmp_ge (tgt := 53) C dX1_passToHandlers_9 (by decide) (fun qz2 => ?_) (fun qz2 => ?_)
    · rw [if_pos qz2] at h
      cases h
      exact gx_vret C dX1_passToHandlers_53
    · rw [if_neg qz2] at h
      refine gx_aload_n C dX1_passToHandlers_12 rfl rfl ?_
      obtain ⟨az3, eaz3, h⟩ := gx_bd h
      refine gx_get C kcX0 3 (by decide) wl_193 (gx_gd_s eaz3) dX1_passToHandlers_13 ?_
      refine gx_iload C dX1_passToHandlers_16 rfl ?_
      obtain ⟨vz4, evz4, h⟩ := gx_bd h
      refine gx_iald C (t := 0) rfl evz4 dX1_passToHandlers_18 ?_
      refine gx_iload_n C dX1_passToHandlers_19 rfl rfl ?_
      refine gx_icmp_gt (tgt := 47) C dX1_passToHandlers_20 (by decide) (fun qz5 => ?_) (fun qz5 => ?_)
      · rw [if_pos qz5] at h
        exact gt_X1_passToHandlers_47 C fu (gm_X1_passToHandlers_3 fu  n) ih a0 a1 x2 y3 x5 X h
      · rw [if_neg qz5] at h
        refine gx_iload_n C dX1_passToHandlers_23 rfl rfl ?_
        refine gx_aload_n C dX1_passToHandlers_24 rfl rfl ?_
        obtain ⟨az6, eaz6, h⟩ := gx_bd h
        refine gx_get C kcX0 4 (by decide) wl_197 (gx_gd_s eaz6) dX1_passToHandlers_25 ?_
        refine gx_iload C dX1_passToHandlers_28 rfl ?_
        obtain ⟨vz7, evz7, h⟩ := gx_bd h
        refine gx_iald C (t := 0) rfl evz7 dX1_passToHandlers_30 ?_
        refine gx_icmp_ge (tgt := 47) C dX1_passToHandlers_31 (by decide) (fun qz8 => ?_) (fun qz8 => ?_)
        · rw [if_pos qz8] at h
          exact gt_X1_passToHandlers_47 C fu (gm_X1_passToHandlers_3 fu  n) ih a0 a1 x2 y3 x5 X h
        · rw [if_neg qz8] at h
          refine gx_aload_n C dX1_passToHandlers_34 rfl rfl ?_
          refine gx_aload_n C dX1_passToHandlers_35 rfl rfl ?_
          refine gx_aload_n C dX1_passToHandlers_36 rfl rfl ?_
          obtain ⟨az9, eaz9, h⟩ := gx_bd h
          refine gx_get C kcX0 5 (by decide) wl_201 (gx_gd_s eaz9) dX1_passToHandlers_37 ?_
          refine gx_iload C dX1_passToHandlers_40 rfl ?_
          obtain ⟨vz10, evz10, h⟩ := gx_bd h
          refine gx_iald C (t := 0) rfl evz10 dX1_passToHandlers_42 ?_
          refine gx_lload_n C dX1_passToHandlers_43 rfl rfl ?_
          obtain ⟨hoz11, h⟩ := gx_obs h
          obtain ⟨Xz12, eXz12, h⟩ := gx_bd h
          refine gx_callV (As := [gx_r (some a1), gx_i vz10, gx_l y3]) (st := []) (stk2 := []) C cd_X1_growMay wl_327 ws_X1_growMay wl_325 rfl hoz11 (gc_X1_growMay fu a0 a1 vz10 y3 X Xz12 eXz12) rfl ⟨Nat.le_of_ble_eq_true rfl, Nat.le_of_ble_eq_true rfl⟩ ⟨Nat.le_of_ble_eq_true rfl, Nat.le_of_ble_eq_true rfl⟩ (Nat.le_of_ble_eq_true rfl) rfl rfl dX1_passToHandlers_44 ?_
          exact gt_X1_passToHandlers_47 C fu (gm_X1_passToHandlers_3 fu  n) ih a0 a1 x2 y3 x5 Xz12 h
def gm_X1_passToHandlers (fu : Nat) (this : Nat) (a_0 : Nat) (p_1 : Int32) (l_2 : Int64) (X : gx_H) : Option gx_H :=
  gm_X1_passToHandlers_3 fu  fu this a_0 p_1 l_2 (0 : Int32) X
set_option maxHeartbeats 1000000 in
set_option maxRecDepth 20000 in
theorem gc_X1_passToHandlers {l : Launch} {D : gx_D} (fu : Nat) (this : Nat) (a_0 : Nat) (p_1 : Int32) (l_2 : Int64) (X : gx_H) (X2 : gx_H) (h : gm_X1_passToHandlers fu this a_0 p_1 l_2 X = some X2) : gx_M D gz_cl gz_at gz_tb gz_nb l yX1_passToHandlers cX1_passToHandlers 6 none 2 46 [gx_r (some this), gx_r (some a_0), gx_i p_1, gx_l l_2] X none X2 0 0 := by
  unfold gm_X1_passToHandlers at h
  refine gx_enter [some (gx_r (some this)), some (gx_r (some a_0)), some (gx_i p_1), some (gx_l l_2), none, none] rfl (by decide) (Nat.le_of_ble_eq_true rfl) ?_
  intro p e s m below meth c C _
  refine gx_iconst (v := 0) C dX1_passToHandlers_0 (by decide) ?_
  refine gx_istore (lv2 := [some (gx_r (some this)), some (gx_r (some a_0)), some (gx_i p_1), some (gx_l l_2), none, some (gx_i (0 : Int32))]) C dX1_passToHandlers_1 (by decide) rfl ?_
  exact gt_X1_passToHandlers_3 C fu  fu this a_0 p_1 l_2 (0 : Int32) X h
theorem dX1_step_0 : decode cX1_step 0 = .ok (.aload_n 1, 1) := by decide +kernel
theorem dX1_step_1 : decode cX1_step 1 = .ok (.iload_n 2, 1) := by decide +kernel
theorem dX1_step_2 : decode cX1_step 2 = .ok (.sipush 200, 3) := by decide +kernel
theorem dX1_step_5 : decode cX1_step 5 = .ok (.idiv, 1) := by decide +kernel
theorem dX1_step_6 : decode cX1_step 6 = .ok (.invokevirtual 29, 3) := by decide +kernel
theorem dX1_step_9 : decode cX1_step 9 = .ok (.astore_n 3, 1) := by decide +kernel
theorem dX1_step_10 : decode cX1_step 10 = .ok (.iload_n 2, 1) := by decide +kernel
theorem dX1_step_11 : decode cX1_step 11 = .ok (.sipush 200, 3) := by decide +kernel
theorem dX1_step_14 : decode cX1_step 14 = .ok (.irem, 1) := by decide +kernel
theorem dX1_step_15 : decode cX1_step 15 = .ok (.istore 4, 2) := by decide +kernel
theorem dX1_step_17 : decode cX1_step 17 = .ok (.aload_n 3, 1) := by decide +kernel
theorem dX1_step_18 : decode cX1_step 18 = .ok (.ifnull 12, 3) := by decide +kernel
theorem dX1_step_21 : decode cX1_step 21 = .ok (.aload_n 3, 1) := by decide +kernel
theorem dX1_step_22 : decode cX1_step 22 = .ok (.iload 4, 2) := by decide +kernel
theorem dX1_step_24 : decode cX1_step 24 = .ok (.invokevirtual 57, 3) := by decide +kernel
theorem dX1_step_27 : decode cX1_step 27 = .ok (.ifCond .ne 4, 3) := by decide +kernel
theorem dX1_step_30 : decode cX1_step 30 = .ok (.return_, 1) := by decide +kernel
theorem dX1_step_31 : decode cX1_step 31 = .ok (.aload_n 3, 1) := by decide +kernel
theorem dX1_step_32 : decode cX1_step 32 = .ok (.getfield 61, 3) := by decide +kernel
theorem dX1_step_35 : decode cX1_step 35 = .ok (.iload 4, 2) := by decide +kernel
theorem dX1_step_37 : decode cX1_step 37 = .ok (.iconst 0, 1) := by decide +kernel
theorem dX1_step_38 : decode cX1_step 38 = .ok (.bastore, 1) := by decide +kernel
theorem dX1_step_39 : decode cX1_step 39 = .ok (.aload_n 3, 1) := by decide +kernel
theorem dX1_step_40 : decode cX1_step 40 = .ok (.getfield 65, 3) := by decide +kernel
theorem dX1_step_43 : decode cX1_step 43 = .ok (.iload 4, 2) := by decide +kernel
theorem dX1_step_45 : decode cX1_step 45 = .ok (.iaload, 1) := by decide +kernel
theorem dX1_step_46 : decode cX1_step 46 = .ok (.istore 5, 2) := by decide +kernel
theorem dX1_step_48 : decode cX1_step 48 = .ok (.aload_n 3, 1) := by decide +kernel
theorem dX1_step_49 : decode cX1_step 49 = .ok (.getfield 68, 3) := by decide +kernel
theorem dX1_step_52 : decode cX1_step 52 = .ok (.iload 4, 2) := by decide +kernel
theorem dX1_step_54 : decode cX1_step 54 = .ok (.laload, 1) := by decide +kernel
theorem dX1_step_55 : decode cX1_step 55 = .ok (.lstore 6, 2) := by decide +kernel
theorem dX1_step_57 : decode cX1_step 57 = .ok (.iload 5, 2) := by decide +kernel
theorem dX1_step_59 : decode cX1_step 59 = .ok (.iconst 3, 1) := by decide +kernel
theorem dX1_step_60 : decode cX1_step 60 = .ok (.if_icmp .ne 17, 3) := by decide +kernel
theorem dX1_step_63 : decode cX1_step 63 = .ok (.aload_n 1, 1) := by decide +kernel
theorem dX1_step_64 : decode cX1_step 64 = .ok (.aload_n 3, 1) := by decide +kernel
theorem dX1_step_65 : decode cX1_step 65 = .ok (.getfield 72, 3) := by decide +kernel
theorem dX1_step_68 : decode cX1_step 68 = .ok (.iload 4, 2) := by decide +kernel
theorem dX1_step_70 : decode cX1_step 70 = .ok (.iaload, 1) := by decide +kernel
theorem dX1_step_71 : decode cX1_step 71 = .ok (.invokevirtual 29, 3) := by decide +kernel
theorem dX1_step_74 : decode cX1_step 74 = .ok (.goto 4, 3) := by decide +kernel
theorem dX1_step_77 : decode cX1_step 77 = .ok (.aconst_null, 1) := by decide +kernel
theorem dX1_step_78 : decode cX1_step 78 = .ok (.astore 8, 2) := by decide +kernel
theorem dX1_step_80 : decode cX1_step 80 = .ok (.aload 8, 2) := by decide +kernel
theorem dX1_step_82 : decode cX1_step 82 = .ok (.ifnonnull 7, 3) := by decide +kernel
theorem dX1_step_85 : decode cX1_step 85 = .ok (.lconst 0, 1) := by decide +kernel
theorem dX1_step_86 : decode cX1_step 86 = .ok (.goto 8, 3) := by decide +kernel
theorem dX1_step_89 : decode cX1_step 89 = .ok (.aload 8, 2) := by decide +kernel
theorem dX1_step_91 : decode cX1_step 91 = .ok (.getfield 75, 3) := by decide +kernel
theorem dX1_step_94 : decode cX1_step 94 = .ok (.lstore 9, 2) := by decide +kernel
theorem dX1_step_96 : decode cX1_step 96 = .ok (.aload 8, 2) := by decide +kernel
theorem dX1_step_98 : decode cX1_step 98 = .ok (.ifnull 11, 3) := by decide +kernel
theorem dX1_step_101 : decode cX1_step 101 = .ok (.aload_n 0, 1) := by decide +kernel
theorem dX1_step_102 : decode cX1_step 102 = .ok (.aload 8, 2) := by decide +kernel
theorem dX1_step_104 : decode cX1_step 104 = .ok (.lload 6, 2) := by decide +kernel
theorem dX1_step_106 : decode cX1_step 106 = .ok (.invokevirtual 33, 3) := by decide +kernel
theorem dX1_step_109 : decode cX1_step 109 = .ok (.aload_n 0, 1) := by decide +kernel
theorem dX1_step_110 : decode cX1_step 110 = .ok (.aload_n 3, 1) := by decide +kernel
theorem dX1_step_111 : decode cX1_step 111 = .ok (.iload 4, 2) := by decide +kernel
theorem dX1_step_113 : decode cX1_step 113 = .ok (.aload 8, 2) := by decide +kernel
theorem dX1_step_115 : decode cX1_step 115 = .ok (.invokevirtual 79, 3) := by decide +kernel
theorem dX1_step_118 : decode cX1_step 118 = .ok (.lstore 11, 2) := by decide +kernel
theorem dX1_step_120 : decode cX1_step 120 = .ok (.aload_n 0, 1) := by decide +kernel
theorem dX1_step_121 : decode cX1_step 121 = .ok (.aload_n 3, 1) := by decide +kernel
theorem dX1_step_122 : decode cX1_step 122 = .ok (.iload 5, 2) := by decide +kernel
theorem dX1_step_124 : decode cX1_step 124 = .ok (.bipush 6, 2) := by decide +kernel
theorem dX1_step_126 : decode cX1_step 126 = .ok (.if_icmp .ne 8, 3) := by decide +kernel
theorem dX1_step_129 : decode cX1_step 129 = .ok (.lload 6, 2) := by decide +kernel
theorem dX1_step_131 : decode cX1_step 131 = .ok (.goto 4, 3) := by decide +kernel
theorem dX1_step_134 : decode cX1_step 134 = .ok (.lconst 0, 1) := by decide +kernel
theorem dX1_step_135 : decode cX1_step 135 = .ok (.lload 6, 2) := by decide +kernel
theorem dX1_step_137 : decode cX1_step 137 = .ok (.lload 11, 2) := by decide +kernel
theorem dX1_step_139 : decode cX1_step 139 = .ok (.lor, 1) := by decide +kernel
theorem dX1_step_140 : decode cX1_step 140 = .ok (.lload 9, 2) := by decide +kernel
theorem dX1_step_142 : decode cX1_step 142 = .ok (.lor, 1) := by decide +kernel
theorem dX1_step_143 : decode cX1_step 143 = .ok (.invokevirtual 83, 3) := by decide +kernel
theorem dX1_step_146 : decode cX1_step 146 = .ok (.aload_n 0, 1) := by decide +kernel
theorem dX1_step_147 : decode cX1_step 147 = .ok (.aload_n 3, 1) := by decide +kernel
theorem dX1_step_148 : decode cX1_step 148 = .ok (.iload 4, 2) := by decide +kernel
theorem dX1_step_150 : decode cX1_step 150 = .ok (.lload 11, 2) := by decide +kernel
theorem dX1_step_152 : decode cX1_step 152 = .ok (.invokevirtual 87, 3) := by decide +kernel
theorem dX1_step_155 : decode cX1_step 155 = .ok (.iload 5, 2) := by decide +kernel
theorem dX1_step_157 : decode cX1_step 157 = .ok (.iconst 3, 1) := by decide +kernel
theorem dX1_step_158 : decode cX1_step 158 = .ok (.if_icmp .eq 17, 3) := by decide +kernel
theorem dX1_step_161 : decode cX1_step 161 = .ok (.iload 5, 2) := by decide +kernel
theorem dX1_step_163 : decode cX1_step 163 = .ok (.bipush 7, 2) := by decide +kernel
theorem dX1_step_165 : decode cX1_step 165 = .ok (.if_icmp .eq 10, 3) := by decide +kernel
theorem dX1_step_168 : decode cX1_step 168 = .ok (.iload 5, 2) := by decide +kernel
theorem dX1_step_170 : decode cX1_step 170 = .ok (.bipush 8, 2) := by decide +kernel
theorem dX1_step_172 : decode cX1_step 172 = .ok (.if_icmp .ne 15, 3) := by decide +kernel
theorem dX1_step_175 : decode cX1_step 175 = .ok (.aload_n 0, 1) := by decide +kernel
theorem dX1_step_176 : decode cX1_step 176 = .ok (.aload_n 3, 1) := by decide +kernel
theorem dX1_step_177 : decode cX1_step 177 = .ok (.iload 4, 2) := by decide +kernel
theorem dX1_step_179 : decode cX1_step 179 = .ok (.lload 6, 2) := by decide +kernel
theorem dX1_step_181 : decode cX1_step 181 = .ok (.lload 9, 2) := by decide +kernel
theorem dX1_step_183 : decode cX1_step 183 = .ok (.lor, 1) := by decide +kernel
theorem dX1_step_184 : decode cX1_step 184 = .ok (.invokevirtual 91, 3) := by decide +kernel
theorem dX1_step_187 : decode cX1_step 187 = .ok (.return_, 1) := by decide +kernel
def gm_X1_step_175 (fu : Nat) (a0 : Nat) (o3 : Option Nat) (x4 : Int32) (y6 : Int64) (y9 : Int64) (X : gx_H) : Option gx_H :=
  (o3).bind fun az1 =>
  gx_ob X a0 1 <|
  (gm_X1_passToHandlers fu a0 az1 x4 (y6 ||| y9) X).bind fun Xz3 =>
  some Xz3
set_option maxHeartbeats 1000000 in
set_option maxRecDepth 20000 in
theorem gt_X1_step_175 {p : Program} {l : Launch} {e : Env} {s : State} {m : MethodId} {args : Array Value} {below : List Frame} {meth : Method} {c : Code} {D : gx_D} {X2 : gx_H}  (C : gx_C D gz_cl gz_at gz_tb gz_nb p s m meth c cX1_step 13 RX1 none) (fu : Nat) (a0 : Nat) (o3 : Option Nat) (x4 : Int32) (y6 : Int64) (y9 : Int64) (X : gx_H) (h : gm_X1_step_175 fu  a0 o3 x4 y6 y9 X = some X2) : gx_W D gz_cl 13 p l e (gx_rm 3 71 0 0) s m args below meth c 0 0 (MQ below (gx_Q D gz_cl none X2) args s 0 0 (gx_Z D)) X 175 [some (gx_r (some a0)), none, none, some (gx_r o3), some (gx_i x4), none, some (gx_l y6), none, none, some (gx_l y9), none, none, none] [] := by
  unfold gm_X1_step_175 at h
  refine gx_aload_n C dX1_step_175 rfl rfl ?_
  refine gx_aload_n C dX1_step_176 rfl rfl ?_
  refine gx_iload C dX1_step_177 rfl ?_
  refine gx_lload C dX1_step_179 rfl ?_
  refine gx_lload C dX1_step_181 rfl ?_
  refine gx_lor C dX1_step_183 ?_
  obtain ⟨az1, eaz1, h⟩ := gx_bd h
  subst eaz1
  obtain ⟨hoz2, h⟩ := gx_obs h
  obtain ⟨Xz3, eXz3, h⟩ := gx_bd h
  refine gx_callV (As := [gx_r (some az1), gx_i x4, gx_l (y6 ||| y9)]) (st := []) (stk2 := []) C cd_X1_passToHandlers wl_363 ws_X1_passToHandlers wl_361 rfl hoz2 (gc_X1_passToHandlers fu a0 az1 x4 (y6 ||| y9) X Xz3 eXz3) rfl ⟨Nat.le_of_ble_eq_true rfl, Nat.le_of_ble_eq_true rfl⟩ ⟨Nat.le_of_ble_eq_true rfl, Nat.le_of_ble_eq_true rfl⟩ (Nat.le_of_ble_eq_true rfl) rfl rfl dX1_step_184 ?_
  cases h
  exact gx_vret C dX1_step_187
def gm_X1_step_135 (fu : Nat) (a0 : Nat) (o3 : Option Nat) (x4 : Int32) (x5 : Int32) (y6 : Int64) (y9 : Int64) (y11 : Int64) (sa0 : Nat) (so1 : Option Nat) (sy2 : Int64) (X : gx_H) : Option gx_H :=
  (so1).bind fun az4 =>
  gx_ob X sa0 1 <|
  (gm_X1_growSummary fu sa0 az4 sy2 ((y6 ||| y11) ||| y9) X).bind fun Xz6 =>
  (o3).bind fun az7 =>
  gx_ob Xz6 a0 1 <|
  (gm_X1_passOn fu a0 az7 x4 y11 Xz6).bind fun Xz9 =>
  if x5 = (3 : Int32) then (
  gm_X1_step_175 fu  a0 (some az7) x4 y6 y9 Xz9) else (
  if x5 = (7 : Int32) then (
  gm_X1_step_175 fu  a0 (some az7) x4 y6 y9 Xz9) else (
  if x5 = (8 : Int32) then (
  gm_X1_step_175 fu  a0 (some az7) x4 y6 y9 Xz9) else (
  some Xz9)))
set_option maxHeartbeats 1000000 in
set_option maxRecDepth 20000 in
theorem gt_X1_step_135 {p : Program} {l : Launch} {e : Env} {s : State} {m : MethodId} {args : Array Value} {below : List Frame} {meth : Method} {c : Code} {D : gx_D} {X2 : gx_H}  (C : gx_C D gz_cl gz_at gz_tb gz_nb p s m meth c cX1_step 13 RX1 none) (fu : Nat) (a0 : Nat) (o3 : Option Nat) (x4 : Int32) (x5 : Int32) (y6 : Int64) (y9 : Int64) (y11 : Int64) (sa0 : Nat) (so1 : Option Nat) (sy2 : Int64) (X : gx_H) (h : gm_X1_step_135 fu  a0 o3 x4 x5 y6 y9 y11 sa0 so1 sy2 X = some X2) : gx_W D gz_cl 13 p l e (gx_rm 3 71 0 0) s m args below meth c 0 0 (MQ below (gx_Q D gz_cl none X2) args s 0 0 (gx_Z D)) X 135 [some (gx_r (some a0)), none, none, some (gx_r o3), some (gx_i x4), some (gx_i x5), some (gx_l y6), none, none, some (gx_l y9), none, some (gx_l y11), none] [gx_l sy2, gx_r so1, gx_r (some sa0)] := by
  unfold gm_X1_step_135 at h
  refine gx_lload C dX1_step_135 rfl ?_
  refine gx_lload C dX1_step_137 rfl ?_
  refine gx_lor C dX1_step_139 ?_
  refine gx_lload C dX1_step_140 rfl ?_
  refine gx_lor C dX1_step_142 ?_
  obtain ⟨az4, eaz4, h⟩ := gx_bd h
  subst eaz4
  obtain ⟨hoz5, h⟩ := gx_obs h
  obtain ⟨Xz6, eXz6, h⟩ := gx_bd h
  refine gx_callV (As := [gx_r (some az4), gx_l sy2, gx_l ((y6 ||| y11) ||| y9)]) (st := []) (stk2 := []) C cd_X1_growSummary wl_354 ws_X1_growSummary wl_352 rfl hoz5 (gc_X1_growSummary fu sa0 az4 sy2 ((y6 ||| y11) ||| y9) X Xz6 eXz6) rfl ⟨Nat.le_of_ble_eq_true rfl, Nat.le_of_ble_eq_true rfl⟩ ⟨Nat.le_of_ble_eq_true rfl, Nat.le_of_ble_eq_true rfl⟩ (Nat.le_of_ble_eq_true rfl) rfl rfl dX1_step_143 ?_
  refine gx_aload_n C dX1_step_146 rfl rfl ?_
  refine gx_aload_n C dX1_step_147 rfl rfl ?_
  refine gx_iload C dX1_step_148 rfl ?_
  refine gx_lload C dX1_step_150 rfl ?_
  obtain ⟨az7, eaz7, h⟩ := gx_bd h
  subst eaz7
  obtain ⟨hoz8, h⟩ := gx_obs h
  obtain ⟨Xz9, eXz9, h⟩ := gx_bd h
  refine gx_callV (As := [gx_r (some az7), gx_i x4, gx_l y11]) (st := []) (stk2 := []) C cd_X1_passOn wl_358 ws_X1_passOn wl_356 rfl hoz8 (gc_X1_passOn fu a0 az7 x4 y11 Xz6 Xz9 eXz9) rfl ⟨Nat.le_of_ble_eq_true rfl, Nat.le_of_ble_eq_true rfl⟩ ⟨Nat.le_of_ble_eq_true rfl, Nat.le_of_ble_eq_true rfl⟩ (Nat.le_of_ble_eq_true rfl) rfl rfl dX1_step_152 ?_
  refine gx_iload C dX1_step_155 rfl ?_
  refine gx_iconst (v := 3) C dX1_step_157 (by decide) ?_
  refine gx_icmp_eq (tgt := 175) C dX1_step_158 (by decide) (fun qz10 => ?_) (fun qz10 => ?_)
  · rw [if_pos qz10] at h
    refine gx_sub (lv2 := [some (gx_r (some a0)), none, none, some (gx_r (some az7)), some (gx_i x4), none, some (gx_l y6), none, none, some (gx_l y9), none, none, none]) [true, false, false, true, true, false, true, false, false, true, false, false, false] rfl ?_
    exact gt_X1_step_175 C fu  a0 (some az7) x4 y6 y9 Xz9 h
  · rw [if_neg qz10] at h
    refine gx_iload C dX1_step_161 rfl ?_
    refine gx_bipush (v := 7) C dX1_step_163 (by decide) ?_
    refine gx_icmp_eq (tgt := 175) C dX1_step_165 (by decide) (fun qz11 => ?_) (fun qz11 => ?_)
    · rw [if_pos qz11] at h
      refine gx_sub (lv2 := [some (gx_r (some a0)), none, none, some (gx_r (some az7)), some (gx_i x4), none, some (gx_l y6), none, none, some (gx_l y9), none, none, none]) [true, false, false, true, true, false, true, false, false, true, false, false, false] rfl ?_
      exact gt_X1_step_175 C fu  a0 (some az7) x4 y6 y9 Xz9 h
    · rw [if_neg qz11] at h
      refine gx_iload C dX1_step_168 rfl ?_
      refine gx_bipush (v := 8) C dX1_step_170 (by decide) ?_
      refine gx_icmp_ne (tgt := 187) C dX1_step_172 (by decide) (fun qz12 => ?_) (fun qz12 => ?_)
      · rw [if_neg qz12] at h
        cases h
        exact gx_vret C dX1_step_187
      · rw [if_pos qz12] at h
        refine gx_sub (lv2 := [some (gx_r (some a0)), none, none, some (gx_r (some az7)), some (gx_i x4), none, some (gx_l y6), none, none, some (gx_l y9), none, none, none]) [true, false, false, true, true, false, true, false, false, true, false, false, false] rfl ?_
        exact gt_X1_step_175 C fu  a0 (some az7) x4 y6 y9 Xz9 h
def gm_X1_step_109 (fu : Nat) (a0 : Nat) (o3 : Option Nat) (x4 : Int32) (x5 : Int32) (y6 : Int64) (o8 : Option Nat) (y9 : Int64) (X : gx_H) : Option gx_H :=
  (o3).bind fun az13 =>
  gx_ob X a0 1 <|
  gx_b2 (gm_X1_afterOf fu a0 az13 x4 o8 X) fun vz16 Xz15 =>
  if x5 = (6 : Int32) then (
  gm_X1_step_135 fu  a0 (some az13) x4 x5 y6 y9 vz16 a0 (some az13) y6 Xz15) else (
  gm_X1_step_135 fu  a0 (some az13) x4 x5 y6 y9 vz16 a0 (some az13) (0 : Int64) Xz15)
set_option maxHeartbeats 1000000 in
set_option maxRecDepth 20000 in
theorem gt_X1_step_109 {p : Program} {l : Launch} {e : Env} {s : State} {m : MethodId} {args : Array Value} {below : List Frame} {meth : Method} {c : Code} {D : gx_D} {X2 : gx_H}  (C : gx_C D gz_cl gz_at gz_tb gz_nb p s m meth c cX1_step 13 RX1 none) (fu : Nat) (a0 : Nat) (o3 : Option Nat) (x4 : Int32) (x5 : Int32) (y6 : Int64) (o8 : Option Nat) (y9 : Int64) (X : gx_H) (h : gm_X1_step_109 fu  a0 o3 x4 x5 y6 o8 y9 X = some X2) : gx_W D gz_cl 13 p l e (gx_rm 3 71 0 0) s m args below meth c 0 0 (MQ below (gx_Q D gz_cl none X2) args s 0 0 (gx_Z D)) X 109 [some (gx_r (some a0)), none, none, some (gx_r o3), some (gx_i x4), some (gx_i x5), some (gx_l y6), none, some (gx_r o8), some (gx_l y9), none, none, none] [] := by
  unfold gm_X1_step_109 at h
  refine gx_aload_n C dX1_step_109 rfl rfl ?_
  refine gx_aload_n C dX1_step_110 rfl rfl ?_
  refine gx_iload C dX1_step_111 rfl ?_
  refine gx_aload C dX1_step_113 rfl ?_
  obtain ⟨az13, eaz13, h⟩ := gx_bd h
  subst eaz13
  obtain ⟨hoz14, h⟩ := gx_obs h
  obtain ⟨vz16, Xz15, eXz15, h⟩ := gx_bd2 h
  refine gx_callV (As := [gx_r (some az13), gx_i x4, gx_r o8]) (st := []) (stk2 := [gx_l vz16]) C cd_X1_afterOf wl_341 ws_X1_afterOf wl_339 rfl hoz14 (gc_X1_afterOf fu a0 az13 x4 o8 X vz16 Xz15 eXz15) rfl ⟨Nat.le_of_ble_eq_true rfl, Nat.le_of_ble_eq_true rfl⟩ ⟨Nat.le_of_ble_eq_true rfl, Nat.le_of_ble_eq_true rfl⟩ (Nat.le_of_ble_eq_true rfl) rfl rfl dX1_step_115 ?_
  refine gx_lstore (lv2 := [some (gx_r (some a0)), none, none, some (gx_r (some az13)), some (gx_i x4), some (gx_i x5), some (gx_l y6), none, some (gx_r o8), some (gx_l y9), none, some (gx_l vz16), none]) C dX1_step_118 (by decide) rfl ?_
  refine gx_aload_n C dX1_step_120 rfl rfl ?_
  refine gx_aload_n C dX1_step_121 rfl rfl ?_
  refine gx_iload C dX1_step_122 rfl ?_
  refine gx_bipush (v := 6) C dX1_step_124 (by decide) ?_
  refine gx_icmp_ne (tgt := 134) C dX1_step_126 (by decide) (fun qz17 => ?_) (fun qz17 => ?_)
  · rw [if_neg qz17] at h
    refine gx_lconst (v := 0) C dX1_step_134 (by decide) ?_
    refine gx_sub (lv2 := [some (gx_r (some a0)), none, none, some (gx_r (some az13)), some (gx_i x4), some (gx_i x5), some (gx_l y6), none, none, some (gx_l y9), none, some (gx_l vz16), none]) [true, false, false, true, true, true, true, false, false, true, false, true, false] rfl ?_
    exact gt_X1_step_135 C fu  a0 (some az13) x4 x5 y6 y9 vz16 a0 (some az13) (0 : Int64) Xz15 h
  · rw [if_pos qz17] at h
    refine gx_lload C dX1_step_129 rfl ?_
    refine gx_goto (tgt := 135) C dX1_step_131 (by decide) ?_
    refine gx_sub (lv2 := [some (gx_r (some a0)), none, none, some (gx_r (some az13)), some (gx_i x4), some (gx_i x5), some (gx_l y6), none, none, some (gx_l y9), none, some (gx_l vz16), none]) [true, false, false, true, true, true, true, false, false, true, false, true, false] rfl ?_
    exact gt_X1_step_135 C fu  a0 (some az13) x4 x5 y6 y9 vz16 a0 (some az13) y6 Xz15 h
def gm_X1_step_94 (fu : Nat) (a0 : Nat) (o3 : Option Nat) (x4 : Int32) (x5 : Int32) (y6 : Int64) (o8 : Option Nat) (sy0 : Int64) (X : gx_H) : Option gx_H :=
  gx_nl o8 (
  gm_X1_step_109 fu  a0 o3 x4 x5 y6 none sy0 X) fun az19 =>
  gx_ob X a0 1 <|
  (gm_X1_growEntry fu a0 az19 y6 X).bind fun Xz21 =>
  gm_X1_step_109 fu  a0 o3 x4 x5 y6 (some az19) sy0 Xz21
set_option maxHeartbeats 1000000 in
set_option maxRecDepth 20000 in
theorem gt_X1_step_94 {p : Program} {l : Launch} {e : Env} {s : State} {m : MethodId} {args : Array Value} {below : List Frame} {meth : Method} {c : Code} {D : gx_D} {X2 : gx_H}  (C : gx_C D gz_cl gz_at gz_tb gz_nb p s m meth c cX1_step 13 RX1 none) (fu : Nat) (a0 : Nat) (o3 : Option Nat) (x4 : Int32) (x5 : Int32) (y6 : Int64) (o8 : Option Nat) (sy0 : Int64) (X : gx_H) (h : gm_X1_step_94 fu  a0 o3 x4 x5 y6 o8 sy0 X = some X2) : gx_W D gz_cl 13 p l e (gx_rm 3 71 0 0) s m args below meth c 0 0 (MQ below (gx_Q D gz_cl none X2) args s 0 0 (gx_Z D)) X 94 [some (gx_r (some a0)), none, none, some (gx_r o3), some (gx_i x4), some (gx_i x5), some (gx_l y6), none, some (gx_r o8), none, none, none, none] [gx_l sy0] := by
  unfold gm_X1_step_94 at h
  refine gx_lstore (lv2 := [some (gx_r (some a0)), none, none, some (gx_r o3), some (gx_i x4), some (gx_i x5), some (gx_l y6), none, some (gx_r o8), some (gx_l sy0), none, none, none]) C dX1_step_94 (by decide) rfl ?_
  refine gx_aload C dX1_step_96 rfl ?_
  refine gx_ifnull (tgt := 109) C dX1_step_98 (by decide) (fun qz18 => ?_) (fun az19 qz18 => ?_)
  · subst qz18
    have h := gx_nl_n h
    exact gt_X1_step_109 C fu  a0 o3 x4 x5 y6 none sy0 X h
  · subst qz18
    have h := gx_nl_s h
    refine gx_aload_n C dX1_step_101 rfl rfl ?_
    refine gx_aload C dX1_step_102 rfl ?_
    refine gx_lload C dX1_step_104 rfl ?_
    obtain ⟨hoz20, h⟩ := gx_obs h
    obtain ⟨Xz21, eXz21, h⟩ := gx_bd h
    refine gx_callV (As := [gx_r (some az19), gx_l y6]) (st := []) (stk2 := []) C cd_X1_growEntry wl_323 ws_X1_growEntry wl_321 rfl hoz20 (gc_X1_growEntry fu a0 az19 y6 X Xz21 eXz21) rfl ⟨Nat.le_of_ble_eq_true rfl, Nat.le_of_ble_eq_true rfl⟩ ⟨Nat.le_of_ble_eq_true rfl, Nat.le_of_ble_eq_true rfl⟩ (Nat.le_of_ble_eq_true rfl) rfl rfl dX1_step_106 ?_
    exact gt_X1_step_109 C fu  a0 o3 x4 x5 y6 (some az19) sy0 Xz21 h
def gm_X1_step_78 (fu : Nat) (a0 : Nat) (o3 : Option Nat) (x4 : Int32) (x5 : Int32) (y6 : Int64) (so0 : Option Nat) (X : gx_H) : Option gx_H :=
  gx_nl so0 (
  gm_X1_step_94 fu  a0 o3 x4 x5 y6 none (0 : Int64) X) fun az23 =>
  (gx_gl X az23 0 13).bind fun vz24 =>
  gm_X1_step_94 fu  a0 o3 x4 x5 y6 (some az23) vz24 X
set_option maxHeartbeats 1000000 in
set_option maxRecDepth 20000 in
theorem gt_X1_step_78 {p : Program} {l : Launch} {e : Env} {s : State} {m : MethodId} {args : Array Value} {below : List Frame} {meth : Method} {c : Code} {D : gx_D} {X2 : gx_H}  (C : gx_C D gz_cl gz_at gz_tb gz_nb p s m meth c cX1_step 13 RX1 none) (fu : Nat) (a0 : Nat) (o3 : Option Nat) (x4 : Int32) (x5 : Int32) (y6 : Int64) (so0 : Option Nat) (X : gx_H) (h : gm_X1_step_78 fu  a0 o3 x4 x5 y6 so0 X = some X2) : gx_W D gz_cl 13 p l e (gx_rm 3 71 0 0) s m args below meth c 0 0 (MQ below (gx_Q D gz_cl none X2) args s 0 0 (gx_Z D)) X 78 [some (gx_r (some a0)), none, none, some (gx_r o3), some (gx_i x4), some (gx_i x5), some (gx_l y6), none, none, none, none, none, none] [gx_r so0] := by
  unfold gm_X1_step_78 at h
  refine gx_astore (lv2 := [some (gx_r (some a0)), none, none, some (gx_r o3), some (gx_i x4), some (gx_i x5), some (gx_l y6), none, some (gx_r so0), none, none, none, none]) C dX1_step_78 (by decide) rfl ?_
  refine gx_aload C dX1_step_80 rfl ?_
  refine gx_ifnonnull (tgt := 89) C dX1_step_82 (by decide) (fun az23 qz22 => ?_) (fun qz22 => ?_)
  · subst qz22
    have h := gx_nl_s h
    refine gx_aload C dX1_step_89 rfl ?_
    obtain ⟨vz24, evz24, h⟩ := gx_bd h
    refine gx_get C kcX0 13 (by decide) wl_226 (gx_gl_s evz24) dX1_step_91 ?_
    exact gt_X1_step_94 C fu  a0 o3 x4 x5 y6 (some az23) vz24 X h
  · subst qz22
    have h := gx_nl_n h
    refine gx_lconst (v := 0) C dX1_step_85 (by decide) ?_
    refine gx_goto (tgt := 94) C dX1_step_86 (by decide) ?_
    exact gt_X1_step_94 C fu  a0 o3 x4 x5 y6 none (0 : Int64) X h
def gm_X1_step (fu : Nat) (this : Nat) (a_0 : Nat) (p_1 : Int32) (X : gx_H) : Option gx_H :=
  gx_ob X a_0 3 <|
  gx_b2 (gm_X3_body fu a_0 (p_1 / (200 : Int32)) X) fun oz27 Xz26 =>
  gx_nl oz27 (
  some Xz26) fun az29 =>
  gx_ob Xz26 az29 0 <|
  gx_b2 (gm_X0_hasInstruction fu az29 (p_1 - p_1 / (200 : Int32) * (200 : Int32)) Xz26) fun vz32 Xz31 =>
  if vz32 = 0 then (
  some Xz31) else (
  (gx_gd Xz31 az29 0 9).bind fun az34 =>
  (gx_pai Xz31 az34 2 (p_1 - p_1 / (200 : Int32) * (200 : Int32)) (vp_nar .boolean (0 : Int32))).bind fun Xz35 =>
  (gx_gd Xz35 az29 0 1).bind fun az36 =>
  (gx_gai Xz35 az36 0 (p_1 - p_1 / (200 : Int32) * (200 : Int32))).bind fun vz37 =>
  (gx_gd Xz35 az29 0 8).bind fun az38 =>
  (gx_gal Xz35 az38 1 (p_1 - p_1 / (200 : Int32) * (200 : Int32))).bind fun vz39 =>
  if vz37 = (3 : Int32) then (
  (gx_gd Xz35 az29 0 2).bind fun az41 =>
  (gx_gai Xz35 az41 0 (p_1 - p_1 / (200 : Int32) * (200 : Int32))).bind fun vz42 =>
  gx_ob Xz35 a_0 3 <|
  gx_b2 (gm_X3_body fu a_0 vz42 Xz35) fun oz45 Xz44 =>
  gm_X1_step_78 fu  this (some az29) (p_1 - p_1 / (200 : Int32) * (200 : Int32)) vz37 vz39 oz45 Xz44) else (
  gm_X1_step_78 fu  this (some az29) (p_1 - p_1 / (200 : Int32) * (200 : Int32)) vz37 vz39 none Xz35))
set_option maxHeartbeats 1000000 in
set_option maxRecDepth 20000 in
theorem gc_X1_step {l : Launch} {D : gx_D} (fu : Nat) (this : Nat) (a_0 : Nat) (p_1 : Int32) (X : gx_H) (X2 : gx_H) (h : gm_X1_step fu this a_0 p_1 X = some X2) : gx_M D gz_cl gz_at gz_tb gz_nb l yX1_step cX1_step 13 none 3 71 [gx_r (some this), gx_r (some a_0), gx_i p_1] X none X2 0 0 := by
  unfold gm_X1_step at h
  refine gx_enter [some (gx_r (some this)), some (gx_r (some a_0)), some (gx_i p_1), none, none, none, none, none, none, none, none, none, none] rfl (by decide) (Nat.le_of_ble_eq_true rfl) ?_
  intro p e s m below meth c C _
  refine gx_aload_n C dX1_step_0 rfl rfl ?_
  refine gx_iload_n C dX1_step_1 rfl rfl ?_
  refine gx_sipush (v := 200) C dX1_step_2 (by decide) ?_
  refine gx_idiv C dX1_step_5 (by decide) ?_
  obtain ⟨hoz25, h⟩ := gx_obs h
  obtain ⟨oz27, Xz26, eXz26, h⟩ := gx_bd2 h
  refine gx_callV (As := [gx_i (p_1 / (200 : Int32))]) (st := []) (stk2 := [gx_r oz27]) C cd_X3_body wl_275 ws_X3_body wl_312 rfl hoz25 (gc_X3_body fu a_0 (p_1 / (200 : Int32)) X oz27 Xz26 eXz26) rfl ⟨Nat.le_of_ble_eq_true rfl, Nat.le_of_ble_eq_true rfl⟩ ⟨Nat.le_of_ble_eq_true rfl, Nat.le_of_ble_eq_true rfl⟩ (Nat.le_of_ble_eq_true rfl) rfl rfl dX1_step_6 ?_
  refine gx_astore_n (lv2 := [some (gx_r (some this)), some (gx_r (some a_0)), some (gx_i p_1), some (gx_r oz27), none, none, none, none, none, none, none, none, none]) C dX1_step_9 rfl (by decide) rfl ?_
  refine gx_iload_n C dX1_step_10 rfl rfl ?_
  refine gx_sipush (v := 200) C dX1_step_11 (by decide) ?_
  refine gx_irem C dX1_step_14 (by decide) ?_
  refine gx_istore (lv2 := [some (gx_r (some this)), some (gx_r (some a_0)), some (gx_i p_1), some (gx_r oz27), some (gx_i (p_1 - p_1 / (200 : Int32) * (200 : Int32))), none, none, none, none, none, none, none, none]) C dX1_step_15 (by decide) rfl ?_
  refine gx_aload_n C dX1_step_17 rfl rfl ?_
  refine gx_ifnull (tgt := 30) C dX1_step_18 (by decide) (fun qz28 => ?_) (fun az29 qz28 => ?_)
  · subst qz28
    have h := gx_nl_n h
    cases h
    exact gx_vret C dX1_step_30
  · subst qz28
    have h := gx_nl_s h
    refine gx_aload_n C dX1_step_21 rfl rfl ?_
    refine gx_iload C dX1_step_22 rfl ?_
    obtain ⟨hoz30, h⟩ := gx_obs h
    obtain ⟨vz32, Xz31, eXz31, h⟩ := gx_bd2 h
    refine gx_callV (As := [gx_i (p_1 - p_1 / (200 : Int32) * (200 : Int32))]) (st := []) (stk2 := [gx_i vz32]) C cd_X0_hasInstruction wl_279 ws_X0_hasInstruction wl_329 rfl hoz30 (gc_X0_hasInstruction fu az29 (p_1 - p_1 / (200 : Int32) * (200 : Int32)) Xz26 vz32 Xz31 eXz31) rfl ⟨Nat.le_of_ble_eq_true rfl, Nat.le_of_ble_eq_true rfl⟩ ⟨Nat.le_of_ble_eq_true rfl, Nat.le_of_ble_eq_true rfl⟩ (Nat.le_of_ble_eq_true rfl) rfl rfl dX1_step_24 ?_
    refine gx_if_ne (tgt := 31) C dX1_step_27 (by decide) (fun qz33 => ?_) (fun qz33 => ?_)
    · rw [if_neg qz33] at h
      refine gx_aload_n C dX1_step_31 rfl rfl ?_
      obtain ⟨az34, eaz34, h⟩ := gx_bd h
      refine gx_get C kcX0 9 (by decide) wl_218 (gx_gd_s eaz34) dX1_step_32 ?_
      refine gx_iload C dX1_step_35 rfl ?_
      refine gx_iconst (v := 0) C dX1_step_37 (by decide) ?_
      obtain ⟨Xz35, eXz35, h⟩ := gx_bd h
      refine gx_zast C (t := 2) rfl eXz35 dX1_step_38 ?_
      refine gx_aload_n C dX1_step_39 rfl rfl ?_
      obtain ⟨az36, eaz36, h⟩ := gx_bd h
      refine gx_get C kcX0 1 (by decide) wl_183 (gx_gd_s eaz36) dX1_step_40 ?_
      refine gx_iload C dX1_step_43 rfl ?_
      obtain ⟨vz37, evz37, h⟩ := gx_bd h
      refine gx_iald C (t := 0) rfl evz37 dX1_step_45 ?_
      refine gx_istore (lv2 := [some (gx_r (some this)), some (gx_r (some a_0)), some (gx_i p_1), some (gx_r (some az29)), some (gx_i (p_1 - p_1 / (200 : Int32) * (200 : Int32))), some (gx_i vz37), none, none, none, none, none, none, none]) C dX1_step_46 (by decide) rfl ?_
      refine gx_aload_n C dX1_step_48 rfl rfl ?_
      obtain ⟨az38, eaz38, h⟩ := gx_bd h
      refine gx_get C kcX0 8 (by decide) wl_214 (gx_gd_s eaz38) dX1_step_49 ?_
      refine gx_iload C dX1_step_52 rfl ?_
      obtain ⟨vz39, evz39, h⟩ := gx_bd h
      refine gx_lald C (t := 1) rfl evz39 dX1_step_54 ?_
      refine gx_lstore (lv2 := [some (gx_r (some this)), some (gx_r (some a_0)), some (gx_i p_1), some (gx_r (some az29)), some (gx_i (p_1 - p_1 / (200 : Int32) * (200 : Int32))), some (gx_i vz37), some (gx_l vz39), none, none, none, none, none, none]) C dX1_step_55 (by decide) rfl ?_
      refine gx_iload C dX1_step_57 rfl ?_
      refine gx_iconst (v := 3) C dX1_step_59 (by decide) ?_
      refine gx_icmp_ne (tgt := 77) C dX1_step_60 (by decide) (fun qz40 => ?_) (fun qz40 => ?_)
      · rw [if_neg qz40] at h
        refine gx_null C dX1_step_77 ?_
        refine gx_sub (lv2 := [some (gx_r (some this)), none, none, some (gx_r (some az29)), some (gx_i (p_1 - p_1 / (200 : Int32) * (200 : Int32))), some (gx_i vz37), some (gx_l vz39), none, none, none, none, none, none]) [true, false, false, true, true, true, true, false, false, false, false, false, false] rfl ?_
        exact gt_X1_step_78 C fu  this (some az29) (p_1 - p_1 / (200 : Int32) * (200 : Int32)) vz37 vz39 none Xz35 h
      · rw [if_pos qz40] at h
        refine gx_aload_n C dX1_step_63 rfl rfl ?_
        refine gx_aload_n C dX1_step_64 rfl rfl ?_
        obtain ⟨az41, eaz41, h⟩ := gx_bd h
        refine gx_get C kcX0 2 (by decide) wl_188 (gx_gd_s eaz41) dX1_step_65 ?_
        refine gx_iload C dX1_step_68 rfl ?_
        obtain ⟨vz42, evz42, h⟩ := gx_bd h
        refine gx_iald C (t := 0) rfl evz42 dX1_step_70 ?_
        obtain ⟨hoz43, h⟩ := gx_obs h
        obtain ⟨oz45, Xz44, eXz44, h⟩ := gx_bd2 h
        refine gx_callV (As := [gx_i vz42]) (st := []) (stk2 := [gx_r oz45]) C cd_X3_body wl_275 ws_X3_body wl_312 rfl hoz43 (gc_X3_body fu a_0 vz42 Xz35 oz45 Xz44 eXz44) rfl ⟨Nat.le_of_ble_eq_true rfl, Nat.le_of_ble_eq_true rfl⟩ ⟨Nat.le_of_ble_eq_true rfl, Nat.le_of_ble_eq_true rfl⟩ (Nat.le_of_ble_eq_true rfl) rfl rfl dX1_step_71 ?_
        refine gx_goto (tgt := 78) C dX1_step_74 (by decide) ?_
        refine gx_sub (lv2 := [some (gx_r (some this)), none, none, some (gx_r (some az29)), some (gx_i (p_1 - p_1 / (200 : Int32) * (200 : Int32))), some (gx_i vz37), some (gx_l vz39), none, none, none, none, none, none]) [true, false, false, true, true, true, true, false, false, false, false, false, false] rfl ?_
        exact gt_X1_step_78 C fu  this (some az29) (p_1 - p_1 / (200 : Int32) * (200 : Int32)) vz37 vz39 oz45 Xz44 h
    · rw [if_pos qz33] at h
      cases h
      exact gx_vret C dX1_step_30
theorem dX1_wakeCallersIn_0 : decode cX1_wakeCallersIn 0 = .ok (.iconst 0, 1) := by decide +kernel
theorem dX1_wakeCallersIn_1 : decode cX1_wakeCallersIn 1 = .ok (.istore_n 3, 1) := by decide +kernel
theorem dX1_wakeCallersIn_2 : decode cX1_wakeCallersIn 2 = .ok (.iload_n 3, 1) := by decide +kernel
theorem dX1_wakeCallersIn_3 : decode cX1_wakeCallersIn 3 = .ok (.aload_n 2, 1) := by decide +kernel
theorem dX1_wakeCallersIn_4 : decode cX1_wakeCallersIn 4 = .ok (.getfield 141, 3) := by decide +kernel
theorem dX1_wakeCallersIn_7 : decode cX1_wakeCallersIn 7 = .ok (.if_icmp .ge 61, 3) := by decide +kernel
theorem dX1_wakeCallersIn_10 : decode cX1_wakeCallersIn 10 = .ok (.aload_n 2, 1) := by decide +kernel
theorem dX1_wakeCallersIn_11 : decode cX1_wakeCallersIn 11 = .ok (.getfield 65, 3) := by decide +kernel
theorem dX1_wakeCallersIn_14 : decode cX1_wakeCallersIn 14 = .ok (.iload_n 3, 1) := by decide +kernel
theorem dX1_wakeCallersIn_15 : decode cX1_wakeCallersIn 15 = .ok (.iaload, 1) := by decide +kernel
theorem dX1_wakeCallersIn_16 : decode cX1_wakeCallersIn 16 = .ok (.iconst 3, 1) := by decide +kernel
theorem dX1_wakeCallersIn_17 : decode cX1_wakeCallersIn 17 = .ok (.if_icmp .ne 45, 3) := by decide +kernel
theorem dX1_wakeCallersIn_20 : decode cX1_wakeCallersIn 20 = .ok (.aload_n 2, 1) := by decide +kernel
theorem dX1_wakeCallersIn_21 : decode cX1_wakeCallersIn 21 = .ok (.getfield 68, 3) := by decide +kernel
theorem dX1_wakeCallersIn_24 : decode cX1_wakeCallersIn 24 = .ok (.iload_n 3, 1) := by decide +kernel
theorem dX1_wakeCallersIn_25 : decode cX1_wakeCallersIn 25 = .ok (.laload, 1) := by decide +kernel
theorem dX1_wakeCallersIn_26 : decode cX1_wakeCallersIn 26 = .ok (.lconst 0, 1) := by decide +kernel
theorem dX1_wakeCallersIn_27 : decode cX1_wakeCallersIn 27 = .ok (.lcmp, 1) := by decide +kernel
theorem dX1_wakeCallersIn_28 : decode cX1_wakeCallersIn 28 = .ok (.ifCond .eq 34, 3) := by decide +kernel
theorem dX1_wakeCallersIn_31 : decode cX1_wakeCallersIn 31 = .ok (.aload_n 1, 1) := by decide +kernel
theorem dX1_wakeCallersIn_32 : decode cX1_wakeCallersIn 32 = .ok (.aload_n 2, 1) := by decide +kernel
theorem dX1_wakeCallersIn_33 : decode cX1_wakeCallersIn 33 = .ok (.getfield 72, 3) := by decide +kernel
theorem dX1_wakeCallersIn_36 : decode cX1_wakeCallersIn 36 = .ok (.iload_n 3, 1) := by decide +kernel
theorem dX1_wakeCallersIn_37 : decode cX1_wakeCallersIn 37 = .ok (.iaload, 1) := by decide +kernel
theorem dX1_wakeCallersIn_38 : decode cX1_wakeCallersIn 38 = .ok (.invokevirtual 29, 3) := by decide +kernel
theorem dX1_wakeCallersIn_41 : decode cX1_wakeCallersIn 41 = .ok (.astore 4, 2) := by decide +kernel
theorem dX1_wakeCallersIn_43 : decode cX1_wakeCallersIn 43 = .ok (.aload 4, 2) := by decide +kernel
theorem dX1_wakeCallersIn_45 : decode cX1_wakeCallersIn 45 = .ok (.ifnull 17, 3) := by decide +kernel
theorem dX1_wakeCallersIn_48 : decode cX1_wakeCallersIn 48 = .ok (.aload 4, 2) := by decide +kernel
theorem dX1_wakeCallersIn_50 : decode cX1_wakeCallersIn 50 = .ok (.getfield 131, 3) := by decide +kernel
theorem dX1_wakeCallersIn_53 : decode cX1_wakeCallersIn 53 = .ok (.ifCond .eq 9, 3) := by decide +kernel
theorem dX1_wakeCallersIn_56 : decode cX1_wakeCallersIn 56 = .ok (.aload_n 0, 1) := by decide +kernel
theorem dX1_wakeCallersIn_57 : decode cX1_wakeCallersIn 57 = .ok (.aload_n 2, 1) := by decide +kernel
theorem dX1_wakeCallersIn_58 : decode cX1_wakeCallersIn 58 = .ok (.iload_n 3, 1) := by decide +kernel
theorem dX1_wakeCallersIn_59 : decode cX1_wakeCallersIn 59 = .ok (.invokevirtual 127, 3) := by decide +kernel
theorem dX1_wakeCallersIn_62 : decode cX1_wakeCallersIn 62 = .ok (.iinc 3 1, 3) := by decide +kernel
theorem dX1_wakeCallersIn_65 : decode cX1_wakeCallersIn 65 = .ok (.goto (-63), 3) := by decide +kernel
theorem dX1_wakeCallersIn_68 : decode cX1_wakeCallersIn 68 = .ok (.return_, 1) := by decide +kernel
def gm_X1_wakeCallersIn_62 (fu : Nat) (K2 : Nat → Nat → Nat → Int32 → gx_H → Option gx_H) (a0 : Nat) (a1 : Nat) (a2 : Nat) (x3 : Int32) (X : gx_H) : Option gx_H :=
  K2 a0 a1 a2 (x3 + 1) X
set_option maxHeartbeats 1000000 in
set_option maxRecDepth 20000 in
theorem gt_X1_wakeCallersIn_62 {p : Program} {l : Launch} {e : Env} {s : State} {m : MethodId} {args : Array Value} {below : List Frame} {meth : Method} {c : Code} {D : gx_D} {X2 : gx_H}  (C : gx_C D gz_cl gz_at gz_tb gz_nb p s m meth c cX1_wakeCallersIn 5 RX1 none) (fu : Nat) (K2 : Nat → Nat → Nat → Int32 → gx_H → Option gx_H) (hK2 : ∀ (a0 : Nat) (a1 : Nat) (a2 : Nat) (x3 : Int32) (X : gx_H), K2 a0 a1 a2 x3 X = some X2 → gx_W D gz_cl 5 p l e (gx_rm 1 22 0 0) s m args below meth c 0 0 (MQ below (gx_Q D gz_cl none X2) args s 0 0 (gx_Z D)) X 2 [some (gx_r (some a0)), some (gx_r (some a1)), some (gx_r (some a2)), some (gx_i x3), none] []) (a0 : Nat) (a1 : Nat) (a2 : Nat) (x3 : Int32) (X : gx_H) (h : gm_X1_wakeCallersIn_62 fu K2 a0 a1 a2 x3 X = some X2) : gx_W D gz_cl 5 p l e (gx_rm 1 22 0 0) s m args below meth c 0 0 (MQ below (gx_Q D gz_cl none X2) args s 0 0 (gx_Z D)) X 62 [some (gx_r (some a0)), some (gx_r (some a1)), some (gx_r (some a2)), some (gx_i x3), none] [] := by
  unfold gm_X1_wakeCallersIn_62 at h
  refine gx_iinc (v := (x3 + 1)) (lv2 := [some (gx_r (some a0)), some (gx_r (some a1)), some (gx_r (some a2)), some (gx_i (x3 + 1)), none]) C dX1_wakeCallersIn_62 rfl rfl (by decide) rfl ?_
  refine gx_goto (tgt := 2) C dX1_wakeCallersIn_65 (by decide) ?_
  exact hK2 a0 a1 a2 (x3 + 1) X h
def gm_X1_wakeCallersIn_2 (fu : Nat) : Nat → Nat → Nat → Nat → Int32 → gx_H → Option gx_H
  | 0, _, _, _, _, _ => none
  | n + 1, a0, a1, a2, x3, X =>
    (gx_gi X a2 0 6).bind fun vz1 =>
    if vz1 ≤ x3 then (
    some X) else (
    (gx_gd X a2 0 1).bind fun az3 =>
    (gx_gai X az3 0 x3).bind fun vz4 =>
    if vz4 = (3 : Int32) then (
    (gx_gd X a2 0 8).bind fun az6 =>
    (gx_gal X az6 1 x3).bind fun vz7 =>
    if (lg_cmp vz7 (0 : Int64)) = 0 then (
    gm_X1_wakeCallersIn_62 fu (gm_X1_wakeCallersIn_2 fu  n) a0 a1 a2 x3 X) else (
    (gx_gd X a2 0 2).bind fun az9 =>
    (gx_gai X az9 0 x3).bind fun vz10 =>
    gx_ob X a1 3 <|
    gx_b2 (gm_X3_body fu a1 vz10 X) fun oz13 Xz12 =>
    gx_nl oz13 (
    gm_X1_wakeCallersIn_62 fu (gm_X1_wakeCallersIn_2 fu  n) a0 a1 a2 x3 Xz12) fun az15 =>
    (gx_gi Xz12 az15 0 14).bind fun vz16 =>
    if vz16 = 0 then (
    gm_X1_wakeCallersIn_62 fu (gm_X1_wakeCallersIn_2 fu  n) a0 a1 a2 x3 Xz12) else (
    gx_ob Xz12 a0 1 <|
    (gm_X1_waitAt fu a0 a2 x3 Xz12).bind fun Xz19 =>
    gm_X1_wakeCallersIn_62 fu (gm_X1_wakeCallersIn_2 fu  n) a0 a1 a2 x3 Xz19))) else (
    gm_X1_wakeCallersIn_62 fu (gm_X1_wakeCallersIn_2 fu  n) a0 a1 a2 x3 X))
set_option maxHeartbeats 1000000 in
set_option maxRecDepth 20000 in
theorem gt_X1_wakeCallersIn_2 {p : Program} {l : Launch} {e : Env} {s : State} {m : MethodId} {args : Array Value} {below : List Frame} {meth : Method} {c : Code} {D : gx_D} {X2 : gx_H}  (C : gx_C D gz_cl gz_at gz_tb gz_nb p s m meth c cX1_wakeCallersIn 5 RX1 none) (fu : Nat) : ∀ (n : Nat) (a0 : Nat) (a1 : Nat) (a2 : Nat) (x3 : Int32) (X : gx_H) , gm_X1_wakeCallersIn_2 fu  n a0 a1 a2 x3 X = some X2 → gx_W D gz_cl 5 p l e (gx_rm 1 22 0 0) s m args below meth c 0 0 (MQ below (gx_Q D gz_cl none X2) args s 0 0 (gx_Z D)) X 2 [some (gx_r (some a0)), some (gx_r (some a1)), some (gx_r (some a2)), some (gx_i x3), none] [] := by
  intro n
  induction n with
  | zero =>
    intro a0 a1 a2 x3 X h
    have h : none = some _ := h
    cases h
  | succ n ih =>
    intro a0 a1 a2 x3 X h
    rw [gm_X1_wakeCallersIn_2] at h
    refine gx_iload_n C dX1_wakeCallersIn_2 rfl rfl ?_
    refine gx_aload_n C dX1_wakeCallersIn_3 rfl rfl ?_
    obtain ⟨vz1, evz1, h⟩ := gx_bd h
    refine gx_get C kcX0 6 (by decide) wl_207 (gx_gi_s evz1) dX1_wakeCallersIn_4 ?_
    refine gx_icmp_ge (tgt := 68) C dX1_wakeCallersIn_7 (by decide) (fun qz2 => ?_) (fun qz2 => ?_)
    · rw [if_pos qz2] at h
      cases h
      exact gx_vret C dX1_wakeCallersIn_68
    · rw [if_neg qz2] at h
      refine gx_aload_n C dX1_wakeCallersIn_10 rfl rfl ?_
      obtain ⟨az3, eaz3, h⟩ := gx_bd h
      refine gx_get C kcX0 1 (by decide) wl_183 (gx_gd_s eaz3) dX1_wakeCallersIn_11 ?_
      refine gx_iload_n C dX1_wakeCallersIn_14 rfl rfl ?_
      obtain ⟨vz4, evz4, h⟩ := gx_bd h
      refine gx_iald C (t := 0) rfl evz4 dX1_wakeCallersIn_15 ?_
      refine gx_iconst (v := 3) C dX1_wakeCallersIn_16 (by decide) ?_
      refine gx_icmp_ne (tgt := 62) C dX1_wakeCallersIn_17 (by decide) (fun qz5 => ?_) (fun qz5 => ?_)
      · rw [if_neg qz5] at h
        exact gt_X1_wakeCallersIn_62 C fu (gm_X1_wakeCallersIn_2 fu  n) ih a0 a1 a2 x3 X h
      · rw [if_pos qz5] at h
        refine gx_aload_n C dX1_wakeCallersIn_20 rfl rfl ?_
        obtain ⟨az6, eaz6, h⟩ := gx_bd h
        refine gx_get C kcX0 8 (by decide) wl_214 (gx_gd_s eaz6) dX1_wakeCallersIn_21 ?_
        refine gx_iload_n C dX1_wakeCallersIn_24 rfl rfl ?_
        obtain ⟨vz7, evz7, h⟩ := gx_bd h
        refine gx_lald C (t := 1) rfl evz7 dX1_wakeCallersIn_25 ?_
        refine gx_lconst (v := 0) C dX1_wakeCallersIn_26 (by decide) ?_
        refine gx_lcmp C dX1_wakeCallersIn_27 ?_
        refine gx_if_eq (tgt := 62) C dX1_wakeCallersIn_28 (by decide) (fun qz8 => ?_) (fun qz8 => ?_)
        · rw [if_pos qz8] at h
          exact gt_X1_wakeCallersIn_62 C fu (gm_X1_wakeCallersIn_2 fu  n) ih a0 a1 a2 x3 X h
        · rw [if_neg qz8] at h
          refine gx_aload_n C dX1_wakeCallersIn_31 rfl rfl ?_
          refine gx_aload_n C dX1_wakeCallersIn_32 rfl rfl ?_
          obtain ⟨az9, eaz9, h⟩ := gx_bd h
          refine gx_get C kcX0 2 (by decide) wl_188 (gx_gd_s eaz9) dX1_wakeCallersIn_33 ?_
          refine gx_iload_n C dX1_wakeCallersIn_36 rfl rfl ?_
          obtain ⟨vz10, evz10, h⟩ := gx_bd h
          refine gx_iald C (t := 0) rfl evz10 dX1_wakeCallersIn_37 ?_
          obtain ⟨hoz11, h⟩ := gx_obs h
          obtain ⟨oz13, Xz12, eXz12, h⟩ := gx_bd2 h
          refine gx_callV (As := [gx_i vz10]) (st := []) (stk2 := [gx_r oz13]) C cd_X3_body wl_275 ws_X3_body wl_312 rfl hoz11 (gc_X3_body fu a1 vz10 X oz13 Xz12 eXz12) rfl ⟨Nat.le_of_ble_eq_true rfl, Nat.le_of_ble_eq_true rfl⟩ ⟨Nat.le_of_ble_eq_true rfl, Nat.le_of_ble_eq_true rfl⟩ (Nat.le_of_ble_eq_true rfl) rfl rfl dX1_wakeCallersIn_38 ?_
          refine gx_astore (lv2 := [some (gx_r (some a0)), some (gx_r (some a1)), some (gx_r (some a2)), some (gx_i x3), some (gx_r oz13)]) C dX1_wakeCallersIn_41 (by decide) rfl ?_
          refine gx_aload C dX1_wakeCallersIn_43 rfl ?_
          refine gx_ifnull (tgt := 62) C dX1_wakeCallersIn_45 (by decide) (fun qz14 => ?_) (fun az15 qz14 => ?_)
          · subst qz14
            have h := gx_nl_n h
            refine gx_sub (lv2 := [some (gx_r (some a0)), some (gx_r (some a1)), some (gx_r (some a2)), some (gx_i x3), none]) [true, true, true, true, false] rfl ?_
            exact gt_X1_wakeCallersIn_62 C fu (gm_X1_wakeCallersIn_2 fu  n) ih a0 a1 a2 x3 Xz12 h
          · subst qz14
            have h := gx_nl_s h
            refine gx_aload C dX1_wakeCallersIn_48 rfl ?_
            obtain ⟨vz16, evz16, h⟩ := gx_bd h
            refine gx_get C kcX0 14 (by decide) wl_229 (gx_gi_s evz16) dX1_wakeCallersIn_50 ?_
            refine gx_if_eq (tgt := 62) C dX1_wakeCallersIn_53 (by decide) (fun qz17 => ?_) (fun qz17 => ?_)
            · rw [if_pos qz17] at h
              refine gx_sub (lv2 := [some (gx_r (some a0)), some (gx_r (some a1)), some (gx_r (some a2)), some (gx_i x3), none]) [true, true, true, true, false] rfl ?_
              exact gt_X1_wakeCallersIn_62 C fu (gm_X1_wakeCallersIn_2 fu  n) ih a0 a1 a2 x3 Xz12 h
            · rw [if_neg qz17] at h
              refine gx_aload_n C dX1_wakeCallersIn_56 rfl rfl ?_
              refine gx_aload_n C dX1_wakeCallersIn_57 rfl rfl ?_
              refine gx_iload_n C dX1_wakeCallersIn_58 rfl rfl ?_
              obtain ⟨hoz18, h⟩ := gx_obs h
              obtain ⟨Xz19, eXz19, h⟩ := gx_bd h
              refine gx_callV (As := [gx_r (some a2), gx_i x3]) (st := []) (stk2 := []) C cd_X1_waitAt wl_332 ws_X1_waitAt wl_330 rfl hoz18 (gc_X1_waitAt fu a0 a2 x3 Xz12 Xz19 eXz19) rfl ⟨Nat.le_of_ble_eq_true rfl, Nat.le_of_ble_eq_true rfl⟩ ⟨Nat.le_of_ble_eq_true rfl, Nat.le_of_ble_eq_true rfl⟩ (Nat.le_of_ble_eq_true rfl) rfl rfl dX1_wakeCallersIn_59 ?_
              refine gx_sub (lv2 := [some (gx_r (some a0)), some (gx_r (some a1)), some (gx_r (some a2)), some (gx_i x3), none]) [true, true, true, true, false] rfl ?_
              exact gt_X1_wakeCallersIn_62 C fu (gm_X1_wakeCallersIn_2 fu  n) ih a0 a1 a2 x3 Xz19 h
def gm_X1_wakeCallersIn (fu : Nat) (this : Nat) (a_0 : Nat) (a_1 : Nat) (X : gx_H) : Option gx_H :=
  gm_X1_wakeCallersIn_2 fu  fu this a_0 a_1 (0 : Int32) X
set_option maxHeartbeats 1000000 in
set_option maxRecDepth 20000 in
theorem gc_X1_wakeCallersIn {l : Launch} {D : gx_D} (fu : Nat) (this : Nat) (a_0 : Nat) (a_1 : Nat) (X : gx_H) (X2 : gx_H) (h : gm_X1_wakeCallersIn fu this a_0 a_1 X = some X2) : gx_M D gz_cl gz_at gz_tb gz_nb l yX1_wakeCallersIn cX1_wakeCallersIn 5 none 1 22 [gx_r (some this), gx_r (some a_0), gx_r (some a_1)] X none X2 0 0 := by
  unfold gm_X1_wakeCallersIn at h
  refine gx_enter [some (gx_r (some this)), some (gx_r (some a_0)), some (gx_r (some a_1)), none, none] rfl (by decide) (Nat.le_of_ble_eq_true rfl) ?_
  intro p e s m below meth c C _
  refine gx_iconst (v := 0) C dX1_wakeCallersIn_0 (by decide) ?_
  refine gx_istore_n (lv2 := [some (gx_r (some this)), some (gx_r (some a_0)), some (gx_r (some a_1)), some (gx_i (0 : Int32)), none]) C dX1_wakeCallersIn_1 rfl (by decide) rfl ?_
  exact gt_X1_wakeCallersIn_2 C fu  fu this a_0 a_1 (0 : Int32) X h
theorem dX1_wakeCallers_0 : decode cX1_wakeCallers 0 = .ok (.iconst 0, 1) := by decide +kernel
theorem dX1_wakeCallers_1 : decode cX1_wakeCallers 1 = .ok (.istore_n 2, 1) := by decide +kernel
theorem dX1_wakeCallers_2 : decode cX1_wakeCallers 2 = .ok (.iload_n 2, 1) := by decide +kernel
theorem dX1_wakeCallers_3 : decode cX1_wakeCallers 3 = .ok (.bipush 8, 2) := by decide +kernel
theorem dX1_wakeCallers_5 : decode cX1_wakeCallers 5 = .ok (.if_icmp .ge 25, 3) := by decide +kernel
theorem dX1_wakeCallers_8 : decode cX1_wakeCallers 8 = .ok (.aload_n 1, 1) := by decide +kernel
theorem dX1_wakeCallers_9 : decode cX1_wakeCallers 9 = .ok (.iload_n 2, 1) := by decide +kernel
theorem dX1_wakeCallers_10 : decode cX1_wakeCallers 10 = .ok (.invokevirtual 29, 3) := by decide +kernel
theorem dX1_wakeCallers_13 : decode cX1_wakeCallers 13 = .ok (.astore_n 3, 1) := by decide +kernel
theorem dX1_wakeCallers_14 : decode cX1_wakeCallers 14 = .ok (.aload_n 3, 1) := by decide +kernel
theorem dX1_wakeCallers_15 : decode cX1_wakeCallers 15 = .ok (.ifnull 9, 3) := by decide +kernel
theorem dX1_wakeCallers_18 : decode cX1_wakeCallers 18 = .ok (.aload_n 0, 1) := by decide +kernel
theorem dX1_wakeCallers_19 : decode cX1_wakeCallers 19 = .ok (.aload_n 1, 1) := by decide +kernel
theorem dX1_wakeCallers_20 : decode cX1_wakeCallers 20 = .ok (.aload_n 3, 1) := by decide +kernel
theorem dX1_wakeCallers_21 : decode cX1_wakeCallers 21 = .ok (.invokevirtual 137, 3) := by decide +kernel
theorem dX1_wakeCallers_24 : decode cX1_wakeCallers 24 = .ok (.iinc 2 1, 3) := by decide +kernel
theorem dX1_wakeCallers_27 : decode cX1_wakeCallers 27 = .ok (.goto (-25), 3) := by decide +kernel
theorem dX1_wakeCallers_30 : decode cX1_wakeCallers 30 = .ok (.iconst 0, 1) := by decide +kernel
theorem dX1_wakeCallers_31 : decode cX1_wakeCallers 31 = .ok (.istore_n 2, 1) := by decide +kernel
theorem dX1_wakeCallers_32 : decode cX1_wakeCallers 32 = .ok (.iload_n 2, 1) := by decide +kernel
theorem dX1_wakeCallers_33 : decode cX1_wakeCallers 33 = .ok (.bipush 8, 2) := by decide +kernel
theorem dX1_wakeCallers_35 : decode cX1_wakeCallers 35 = .ok (.if_icmp .ge 24, 3) := by decide +kernel
theorem dX1_wakeCallers_38 : decode cX1_wakeCallers 38 = .ok (.aload_n 1, 1) := by decide +kernel
theorem dX1_wakeCallers_39 : decode cX1_wakeCallers 39 = .ok (.iload_n 2, 1) := by decide +kernel
theorem dX1_wakeCallers_40 : decode cX1_wakeCallers 40 = .ok (.invokevirtual 29, 3) := by decide +kernel
theorem dX1_wakeCallers_43 : decode cX1_wakeCallers 43 = .ok (.astore_n 3, 1) := by decide +kernel
theorem dX1_wakeCallers_44 : decode cX1_wakeCallers 44 = .ok (.aload_n 3, 1) := by decide +kernel
theorem dX1_wakeCallers_45 : decode cX1_wakeCallers 45 = .ok (.ifnull 8, 3) := by decide +kernel
theorem dX1_wakeCallers_48 : decode cX1_wakeCallers 48 = .ok (.aload_n 3, 1) := by decide +kernel
theorem dX1_wakeCallers_49 : decode cX1_wakeCallers 49 = .ok (.iconst 0, 1) := by decide +kernel
theorem dX1_wakeCallers_50 : decode cX1_wakeCallers 50 = .ok (.putfield 131, 3) := by decide +kernel
theorem dX1_wakeCallers_53 : decode cX1_wakeCallers 53 = .ok (.iinc 2 1, 3) := by decide +kernel
theorem dX1_wakeCallers_56 : decode cX1_wakeCallers 56 = .ok (.goto (-24), 3) := by decide +kernel
theorem dX1_wakeCallers_59 : decode cX1_wakeCallers 59 = .ok (.aload_n 0, 1) := by decide +kernel
theorem dX1_wakeCallers_60 : decode cX1_wakeCallers 60 = .ok (.iconst 0, 1) := by decide +kernel
theorem dX1_wakeCallers_61 : decode cX1_wakeCallers 61 = .ok (.putfield 42, 3) := by decide +kernel
theorem dX1_wakeCallers_64 : decode cX1_wakeCallers 64 = .ok (.return_, 1) := by decide +kernel
def gm_X1_wakeCallers_24 (fu : Nat) (K2 : Nat → Nat → Int32 → gx_H → Option gx_H) (a0 : Nat) (a1 : Nat) (x2 : Int32) (X : gx_H) : Option gx_H :=
  K2 a0 a1 (x2 + 1) X
set_option maxHeartbeats 1000000 in
set_option maxRecDepth 20000 in
theorem gt_X1_wakeCallers_24 {p : Program} {l : Launch} {e : Env} {s : State} {m : MethodId} {args : Array Value} {below : List Frame} {meth : Method} {c : Code} {D : gx_D} {X2 : gx_H}  (C : gx_C D gz_cl gz_at gz_tb gz_nb p s m meth c cX1_wakeCallers 4 RX1 none) (fu : Nat) (K2 : Nat → Nat → Int32 → gx_H → Option gx_H) (hK2 : ∀ (a0 : Nat) (a1 : Nat) (x2 : Int32) (X : gx_H), K2 a0 a1 x2 X = some X2 → gx_W D gz_cl 4 p l e (gx_rm 2 46 0 0) s m args below meth c 0 0 (MQ below (gx_Q D gz_cl none X2) args s 0 0 (gx_Z D)) X 2 [some (gx_r (some a0)), some (gx_r (some a1)), some (gx_i x2), none] []) (a0 : Nat) (a1 : Nat) (x2 : Int32) (X : gx_H) (h : gm_X1_wakeCallers_24 fu K2 a0 a1 x2 X = some X2) : gx_W D gz_cl 4 p l e (gx_rm 2 46 0 0) s m args below meth c 0 0 (MQ below (gx_Q D gz_cl none X2) args s 0 0 (gx_Z D)) X 24 [some (gx_r (some a0)), some (gx_r (some a1)), some (gx_i x2), none] [] := by
  unfold gm_X1_wakeCallers_24 at h
  refine gx_iinc (v := (x2 + 1)) (lv2 := [some (gx_r (some a0)), some (gx_r (some a1)), some (gx_i (x2 + 1)), none]) C dX1_wakeCallers_24 rfl rfl (by decide) rfl ?_
  refine gx_goto (tgt := 2) C dX1_wakeCallers_27 (by decide) ?_
  exact hK2 a0 a1 (x2 + 1) X h
def gm_X1_wakeCallers_53 (fu : Nat) (K32 : Nat → Nat → Int32 → gx_H → Option gx_H) (a0 : Nat) (a1 : Nat) (x2 : Int32) (X : gx_H) : Option gx_H :=
  K32 a0 a1 (x2 + 1) X
set_option maxHeartbeats 1000000 in
set_option maxRecDepth 20000 in
theorem gt_X1_wakeCallers_53 {p : Program} {l : Launch} {e : Env} {s : State} {m : MethodId} {args : Array Value} {below : List Frame} {meth : Method} {c : Code} {D : gx_D} {X2 : gx_H}  (C : gx_C D gz_cl gz_at gz_tb gz_nb p s m meth c cX1_wakeCallers 4 RX1 none) (fu : Nat) (K32 : Nat → Nat → Int32 → gx_H → Option gx_H) (hK32 : ∀ (a0 : Nat) (a1 : Nat) (x2 : Int32) (X : gx_H), K32 a0 a1 x2 X = some X2 → gx_W D gz_cl 4 p l e (gx_rm 2 46 0 0) s m args below meth c 0 0 (MQ below (gx_Q D gz_cl none X2) args s 0 0 (gx_Z D)) X 32 [some (gx_r (some a0)), some (gx_r (some a1)), some (gx_i x2), none] []) (a0 : Nat) (a1 : Nat) (x2 : Int32) (X : gx_H) (h : gm_X1_wakeCallers_53 fu K32 a0 a1 x2 X = some X2) : gx_W D gz_cl 4 p l e (gx_rm 2 46 0 0) s m args below meth c 0 0 (MQ below (gx_Q D gz_cl none X2) args s 0 0 (gx_Z D)) X 53 [some (gx_r (some a0)), some (gx_r (some a1)), some (gx_i x2), none] [] := by
  unfold gm_X1_wakeCallers_53 at h
  refine gx_iinc (v := (x2 + 1)) (lv2 := [some (gx_r (some a0)), some (gx_r (some a1)), some (gx_i (x2 + 1)), none]) C dX1_wakeCallers_53 rfl rfl (by decide) rfl ?_
  refine gx_goto (tgt := 32) C dX1_wakeCallers_56 (by decide) ?_
  exact hK32 a0 a1 (x2 + 1) X h
def gm_X1_wakeCallers_32 (fu : Nat) : Nat → Nat → Nat → Int32 → gx_H → Option gx_H
  | 0, _, _, _, _ => none
  | n + 1, a0, a1, x2, X =>
    if (8 : Int32) ≤ x2 then (
    (gx_pf X a0 1 3 (.int (0 : Int32))).bind fun Xz2 =>
    some Xz2) else (
    gx_ob X a1 3 <|
    gx_b2 (gm_X3_body fu a1 x2 X) fun oz5 Xz4 =>
    gx_nl oz5 (
    gm_X1_wakeCallers_53 fu (gm_X1_wakeCallers_32 fu  n) a0 a1 x2 Xz4) fun az7 =>
    (gx_pf Xz4 az7 0 14 (.int (0 : Int32))).bind fun Xz8 =>
    gm_X1_wakeCallers_53 fu (gm_X1_wakeCallers_32 fu  n) a0 a1 x2 Xz8)
set_option maxHeartbeats 1000000 in
set_option maxRecDepth 20000 in
theorem gt_X1_wakeCallers_32 {p : Program} {l : Launch} {e : Env} {s : State} {m : MethodId} {args : Array Value} {below : List Frame} {meth : Method} {c : Code} {D : gx_D} {X2 : gx_H}  (C : gx_C D gz_cl gz_at gz_tb gz_nb p s m meth c cX1_wakeCallers 4 RX1 none) (fu : Nat) : ∀ (n : Nat) (a0 : Nat) (a1 : Nat) (x2 : Int32) (X : gx_H) , gm_X1_wakeCallers_32 fu  n a0 a1 x2 X = some X2 → gx_W D gz_cl 4 p l e (gx_rm 2 46 0 0) s m args below meth c 0 0 (MQ below (gx_Q D gz_cl none X2) args s 0 0 (gx_Z D)) X 32 [some (gx_r (some a0)), some (gx_r (some a1)), some (gx_i x2), none] [] := by
  intro n
  induction n with
  | zero =>
    intro a0 a1 x2 X h
    have h : none = some _ := h
    cases h
  | succ n ih =>
    intro a0 a1 x2 X h
    rw [gm_X1_wakeCallers_32] at h
    refine gx_iload_n C dX1_wakeCallers_32 rfl rfl ?_
    refine gx_bipush (v := 8) C dX1_wakeCallers_33 (by decide) ?_
    refine gx_icmp_ge (tgt := 59) C dX1_wakeCallers_35 (by decide) (fun qz1 => ?_) (fun qz1 => ?_)
    · rw [if_pos qz1] at h
      refine gx_aload_n C dX1_wakeCallers_59 rfl rfl ?_
      refine gx_iconst (v := 0) C dX1_wakeCallers_60 (by decide) ?_
      obtain ⟨Xz2, eXz2, h⟩ := gx_bd h
      refine gx_put C kcX1 3 (by decide) rfl wl_50 (gx_nz (Or.inl rfl)) eXz2 dX1_wakeCallers_61 ?_
      cases h
      exact gx_vret C dX1_wakeCallers_64
    · rw [if_neg qz1] at h
      refine gx_aload_n C dX1_wakeCallers_38 rfl rfl ?_
      refine gx_iload_n C dX1_wakeCallers_39 rfl rfl ?_
      obtain ⟨hoz3, h⟩ := gx_obs h
      obtain ⟨oz5, Xz4, eXz4, h⟩ := gx_bd2 h
      refine gx_callV (As := [gx_i x2]) (st := []) (stk2 := [gx_r oz5]) C cd_X3_body wl_275 ws_X3_body wl_312 rfl hoz3 (gc_X3_body fu a1 x2 X oz5 Xz4 eXz4) rfl ⟨Nat.le_of_ble_eq_true rfl, Nat.le_of_ble_eq_true rfl⟩ ⟨Nat.le_of_ble_eq_true rfl, Nat.le_of_ble_eq_true rfl⟩ (Nat.le_of_ble_eq_true rfl) rfl rfl dX1_wakeCallers_40 ?_
      refine gx_astore_n (lv2 := [some (gx_r (some a0)), some (gx_r (some a1)), some (gx_i x2), some (gx_r oz5)]) C dX1_wakeCallers_43 rfl (by decide) rfl ?_
      refine gx_aload_n C dX1_wakeCallers_44 rfl rfl ?_
      refine gx_ifnull (tgt := 53) C dX1_wakeCallers_45 (by decide) (fun qz6 => ?_) (fun az7 qz6 => ?_)
      · subst qz6
        have h := gx_nl_n h
        refine gx_sub (lv2 := [some (gx_r (some a0)), some (gx_r (some a1)), some (gx_i x2), none]) [true, true, true, false] rfl ?_
        exact gt_X1_wakeCallers_53 C fu (gm_X1_wakeCallers_32 fu  n) ih a0 a1 x2 Xz4 h
      · subst qz6
        have h := gx_nl_s h
        refine gx_aload_n C dX1_wakeCallers_48 rfl rfl ?_
        refine gx_iconst (v := 0) C dX1_wakeCallers_49 (by decide) ?_
        obtain ⟨Xz8, eXz8, h⟩ := gx_bd h
        refine gx_put C kcX0 14 (by decide) rfl wl_229 (gx_nz (Or.inl rfl)) eXz8 dX1_wakeCallers_50 ?_
        refine gx_sub (lv2 := [some (gx_r (some a0)), some (gx_r (some a1)), some (gx_i x2), none]) [true, true, true, false] rfl ?_
        exact gt_X1_wakeCallers_53 C fu (gm_X1_wakeCallers_32 fu  n) ih a0 a1 x2 Xz8 h
def gm_X1_wakeCallers_2 (fu : Nat) : Nat → Nat → Nat → Int32 → gx_H → Option gx_H
  | 0, _, _, _, _ => none
  | n + 1, a0, a1, x2, X =>
    if (8 : Int32) ≤ x2 then (
    gm_X1_wakeCallers_32 fu  fu a0 a1 (0 : Int32) X) else (
    gx_ob X a1 3 <|
    gx_b2 (gm_X3_body fu a1 x2 X) fun oz12 Xz11 =>
    gx_nl oz12 (
    gm_X1_wakeCallers_24 fu (gm_X1_wakeCallers_2 fu  n) a0 a1 x2 Xz11) fun az14 =>
    gx_ob Xz11 a0 1 <|
    (gm_X1_wakeCallersIn fu a0 a1 az14 Xz11).bind fun Xz16 =>
    gm_X1_wakeCallers_24 fu (gm_X1_wakeCallers_2 fu  n) a0 a1 x2 Xz16)
set_option maxHeartbeats 1000000 in
set_option maxRecDepth 20000 in
theorem gt_X1_wakeCallers_2 {p : Program} {l : Launch} {e : Env} {s : State} {m : MethodId} {args : Array Value} {below : List Frame} {meth : Method} {c : Code} {D : gx_D} {X2 : gx_H}  (C : gx_C D gz_cl gz_at gz_tb gz_nb p s m meth c cX1_wakeCallers 4 RX1 none) (fu : Nat) : ∀ (n : Nat) (a0 : Nat) (a1 : Nat) (x2 : Int32) (X : gx_H) , gm_X1_wakeCallers_2 fu  n a0 a1 x2 X = some X2 → gx_W D gz_cl 4 p l e (gx_rm 2 46 0 0) s m args below meth c 0 0 (MQ below (gx_Q D gz_cl none X2) args s 0 0 (gx_Z D)) X 2 [some (gx_r (some a0)), some (gx_r (some a1)), some (gx_i x2), none] [] := by
  intro n
  induction n with
  | zero =>
    intro a0 a1 x2 X h
    have h : none = some _ := h
    cases h
  | succ n ih =>
    intro a0 a1 x2 X h
    rw [gm_X1_wakeCallers_2] at h
    refine gx_iload_n C dX1_wakeCallers_2 rfl rfl ?_
    refine gx_bipush (v := 8) C dX1_wakeCallers_3 (by decide) ?_
    refine gx_icmp_ge (tgt := 30) C dX1_wakeCallers_5 (by decide) (fun qz9 => ?_) (fun qz9 => ?_)
    · rw [if_pos qz9] at h
      refine gx_iconst (v := 0) C dX1_wakeCallers_30 (by decide) ?_
      refine gx_istore_n (lv2 := [some (gx_r (some a0)), some (gx_r (some a1)), some (gx_i (0 : Int32)), none]) C dX1_wakeCallers_31 rfl (by decide) rfl ?_
      exact gt_X1_wakeCallers_32 C fu  fu a0 a1 (0 : Int32) X h
    · rw [if_neg qz9] at h
      refine gx_aload_n C dX1_wakeCallers_8 rfl rfl ?_
      refine gx_iload_n C dX1_wakeCallers_9 rfl rfl ?_
      obtain ⟨hoz10, h⟩ := gx_obs h
      obtain ⟨oz12, Xz11, eXz11, h⟩ := gx_bd2 h
      refine gx_callV (As := [gx_i x2]) (st := []) (stk2 := [gx_r oz12]) C cd_X3_body wl_275 ws_X3_body wl_312 rfl hoz10 (gc_X3_body fu a1 x2 X oz12 Xz11 eXz11) rfl ⟨Nat.le_of_ble_eq_true rfl, Nat.le_of_ble_eq_true rfl⟩ ⟨Nat.le_of_ble_eq_true rfl, Nat.le_of_ble_eq_true rfl⟩ (Nat.le_of_ble_eq_true rfl) rfl rfl dX1_wakeCallers_10 ?_
      refine gx_astore_n (lv2 := [some (gx_r (some a0)), some (gx_r (some a1)), some (gx_i x2), some (gx_r oz12)]) C dX1_wakeCallers_13 rfl (by decide) rfl ?_
      refine gx_aload_n C dX1_wakeCallers_14 rfl rfl ?_
      refine gx_ifnull (tgt := 24) C dX1_wakeCallers_15 (by decide) (fun qz13 => ?_) (fun az14 qz13 => ?_)
      · subst qz13
        have h := gx_nl_n h
        refine gx_sub (lv2 := [some (gx_r (some a0)), some (gx_r (some a1)), some (gx_i x2), none]) [true, true, true, false] rfl ?_
        exact gt_X1_wakeCallers_24 C fu (gm_X1_wakeCallers_2 fu  n) ih a0 a1 x2 Xz11 h
      · subst qz13
        have h := gx_nl_s h
        refine gx_aload_n C dX1_wakeCallers_18 rfl rfl ?_
        refine gx_aload_n C dX1_wakeCallers_19 rfl rfl ?_
        refine gx_aload_n C dX1_wakeCallers_20 rfl rfl ?_
        obtain ⟨hoz15, h⟩ := gx_obs h
        obtain ⟨Xz16, eXz16, h⟩ := gx_bd h
        refine gx_callV (As := [gx_r (some a1), gx_r (some az14)]) (st := []) (stk2 := []) C cd_X1_wakeCallersIn wl_371 ws_X1_wakeCallersIn wl_369 rfl hoz15 (gc_X1_wakeCallersIn fu a0 a1 az14 Xz11 Xz16 eXz16) rfl ⟨Nat.le_of_ble_eq_true rfl, Nat.le_of_ble_eq_true rfl⟩ ⟨Nat.le_of_ble_eq_true rfl, Nat.le_of_ble_eq_true rfl⟩ (Nat.le_of_ble_eq_true rfl) rfl rfl dX1_wakeCallers_21 ?_
        refine gx_sub (lv2 := [some (gx_r (some a0)), some (gx_r (some a1)), some (gx_i x2), none]) [true, true, true, false] rfl ?_
        exact gt_X1_wakeCallers_24 C fu (gm_X1_wakeCallers_2 fu  n) ih a0 a1 x2 Xz16 h
def gm_X1_wakeCallers (fu : Nat) (this : Nat) (a_0 : Nat) (X : gx_H) : Option gx_H :=
  gm_X1_wakeCallers_2 fu  fu this a_0 (0 : Int32) X
set_option maxHeartbeats 1000000 in
set_option maxRecDepth 20000 in
theorem gc_X1_wakeCallers {l : Launch} {D : gx_D} (fu : Nat) (this : Nat) (a_0 : Nat) (X : gx_H) (X2 : gx_H) (h : gm_X1_wakeCallers fu this a_0 X = some X2) : gx_M D gz_cl gz_at gz_tb gz_nb l yX1_wakeCallers cX1_wakeCallers 4 none 2 46 [gx_r (some this), gx_r (some a_0)] X none X2 0 0 := by
  unfold gm_X1_wakeCallers at h
  refine gx_enter [some (gx_r (some this)), some (gx_r (some a_0)), none, none] rfl (by decide) (Nat.le_of_ble_eq_true rfl) ?_
  intro p e s m below meth c C _
  refine gx_iconst (v := 0) C dX1_wakeCallers_0 (by decide) ?_
  refine gx_istore_n (lv2 := [some (gx_r (some this)), some (gx_r (some a_0)), some (gx_i (0 : Int32)), none]) C dX1_wakeCallers_1 rfl (by decide) rfl ?_
  exact gt_X1_wakeCallers_2 C fu  fu this a_0 (0 : Int32) X h
theorem dX1_settle_0 : decode cX1_settle 0 = .ok (.aload_n 1, 1) := by decide +kernel
theorem dX1_settle_1 : decode cX1_settle 1 = .ok (.getfield 19, 3) := by decide +kernel
theorem dX1_settle_4 : decode cX1_settle 4 = .ok (.ifCond .eq 4, 3) := by decide +kernel
theorem dX1_settle_7 : decode cX1_settle 7 = .ok (.return_, 1) := by decide +kernel
theorem dX1_settle_8 : decode cX1_settle 8 = .ok (.aload_n 0, 1) := by decide +kernel
theorem dX1_settle_9 : decode cX1_settle 9 = .ok (.aload_n 1, 1) := by decide +kernel
theorem dX1_settle_10 : decode cX1_settle 10 = .ok (.invokevirtual 25, 3) := by decide +kernel
theorem dX1_settle_13 : decode cX1_settle 13 = .ok (.aload_n 1, 1) := by decide +kernel
theorem dX1_settle_14 : decode cX1_settle 14 = .ok (.iconst 0, 1) := by decide +kernel
theorem dX1_settle_15 : decode cX1_settle 15 = .ok (.invokevirtual 29, 3) := by decide +kernel
theorem dX1_settle_18 : decode cX1_settle 18 = .ok (.astore_n 2, 1) := by decide +kernel
theorem dX1_settle_19 : decode cX1_settle 19 = .ok (.aload_n 2, 1) := by decide +kernel
theorem dX1_settle_20 : decode cX1_settle 20 = .ok (.ifnull 9, 3) := by decide +kernel
theorem dX1_settle_23 : decode cX1_settle 23 = .ok (.aload_n 0, 1) := by decide +kernel
theorem dX1_settle_24 : decode cX1_settle 24 = .ok (.aload_n 2, 1) := by decide +kernel
theorem dX1_settle_25 : decode cX1_settle 25 = .ok (.lconst 1, 1) := by decide +kernel
theorem dX1_settle_26 : decode cX1_settle 26 = .ok (.invokevirtual 33, 3) := by decide +kernel
theorem dX1_settle_29 : decode cX1_settle 29 = .ok (.iconst 0, 1) := by decide +kernel
theorem dX1_settle_30 : decode cX1_settle 30 = .ok (.istore_n 3, 1) := by decide +kernel
theorem dX1_settle_31 : decode cX1_settle 31 = .ok (.iload_n 3, 1) := by decide +kernel
theorem dX1_settle_32 : decode cX1_settle 32 = .ok (.ldc 37, 2) := by decide +kernel
theorem dX1_settle_34 : decode cX1_settle 34 = .ok (.if_icmp .ge 62, 3) := by decide +kernel
theorem dX1_settle_37 : decode cX1_settle 37 = .ok (.aload_n 0, 1) := by decide +kernel
theorem dX1_settle_38 : decode cX1_settle 38 = .ok (.getfield 38, 3) := by decide +kernel
theorem dX1_settle_41 : decode cX1_settle 41 = .ok (.ifCond .gt 10, 3) := by decide +kernel
theorem dX1_settle_44 : decode cX1_settle 44 = .ok (.aload_n 0, 1) := by decide +kernel
theorem dX1_settle_45 : decode cX1_settle 45 = .ok (.getfield 42, 3) := by decide +kernel
theorem dX1_settle_48 : decode cX1_settle 48 = .ok (.ifCond .eq 48, 3) := by decide +kernel
theorem dX1_settle_51 : decode cX1_settle 51 = .ok (.aload_n 0, 1) := by decide +kernel
theorem dX1_settle_52 : decode cX1_settle 52 = .ok (.getfield 38, 3) := by decide +kernel
theorem dX1_settle_55 : decode cX1_settle 55 = .ok (.ifCond .le 30, 3) := by decide +kernel
theorem dX1_settle_58 : decode cX1_settle 58 = .ok (.aload_n 0, 1) := by decide +kernel
theorem dX1_settle_59 : decode cX1_settle 59 = .ok (.dup, 1) := by decide +kernel
theorem dX1_settle_60 : decode cX1_settle 60 = .ok (.getfield 38, 3) := by decide +kernel
theorem dX1_settle_63 : decode cX1_settle 63 = .ok (.iconst 1, 1) := by decide +kernel
theorem dX1_settle_64 : decode cX1_settle 64 = .ok (.isub, 1) := by decide +kernel
theorem dX1_settle_65 : decode cX1_settle 65 = .ok (.putfield 38, 3) := by decide +kernel
theorem dX1_settle_68 : decode cX1_settle 68 = .ok (.aload_n 0, 1) := by decide +kernel
theorem dX1_settle_69 : decode cX1_settle 69 = .ok (.aload_n 1, 1) := by decide +kernel
theorem dX1_settle_70 : decode cX1_settle 70 = .ok (.aload_n 0, 1) := by decide +kernel
theorem dX1_settle_71 : decode cX1_settle 71 = .ok (.getfield 9, 3) := by decide +kernel
theorem dX1_settle_74 : decode cX1_settle 74 = .ok (.aload_n 0, 1) := by decide +kernel
theorem dX1_settle_75 : decode cX1_settle 75 = .ok (.getfield 38, 3) := by decide +kernel
theorem dX1_settle_78 : decode cX1_settle 78 = .ok (.iaload, 1) := by decide +kernel
theorem dX1_settle_79 : decode cX1_settle 79 = .ok (.invokevirtual 45, 3) := by decide +kernel
theorem dX1_settle_82 : decode cX1_settle 82 = .ok (.goto 8, 3) := by decide +kernel
theorem dX1_settle_85 : decode cX1_settle 85 = .ok (.aload_n 0, 1) := by decide +kernel
theorem dX1_settle_86 : decode cX1_settle 86 = .ok (.aload_n 1, 1) := by decide +kernel
theorem dX1_settle_87 : decode cX1_settle 87 = .ok (.invokevirtual 49, 3) := by decide +kernel
theorem dX1_settle_90 : decode cX1_settle 90 = .ok (.iinc 3 1, 3) := by decide +kernel
theorem dX1_settle_93 : decode cX1_settle 93 = .ok (.goto (-62), 3) := by decide +kernel
theorem dX1_settle_96 : decode cX1_settle 96 = .ok (.aload_n 1, 1) := by decide +kernel
theorem dX1_settle_97 : decode cX1_settle 97 = .ok (.iconst 1, 1) := by decide +kernel
theorem dX1_settle_98 : decode cX1_settle 98 = .ok (.putfield 19, 3) := by decide +kernel
theorem dX1_settle_101 : decode cX1_settle 101 = .ok (.return_, 1) := by decide +kernel
def gm_X1_settle_90 (fu : Nat) (K31 : Nat → Nat → Int32 → gx_H → Option gx_H) (a0 : Nat) (a1 : Nat) (x3 : Int32) (X : gx_H) : Option gx_H :=
  K31 a0 a1 (x3 + 1) X
set_option maxHeartbeats 1000000 in
set_option maxRecDepth 20000 in
theorem gt_X1_settle_90 {p : Program} {l : Launch} {e : Env} {s : State} {m : MethodId} {args : Array Value} {below : List Frame} {meth : Method} {c : Code} {D : gx_D} {X2 : gx_H}  (C : gx_C D gz_cl gz_at gz_tb gz_nb p s m meth c cX1_settle 4 RX1 none) (fu : Nat) (K31 : Nat → Nat → Int32 → gx_H → Option gx_H) (hK31 : ∀ (a0 : Nat) (a1 : Nat) (x3 : Int32) (X : gx_H), K31 a0 a1 x3 X = some X2 → gx_W D gz_cl 4 p l e (gx_rm 4 103 0 0) s m args below meth c 0 0 (MQ below (gx_Q D gz_cl none X2) args s 0 0 (gx_Z D)) X 31 [some (gx_r (some a0)), some (gx_r (some a1)), none, some (gx_i x3)] []) (a0 : Nat) (a1 : Nat) (x3 : Int32) (X : gx_H) (h : gm_X1_settle_90 fu K31 a0 a1 x3 X = some X2) : gx_W D gz_cl 4 p l e (gx_rm 4 103 0 0) s m args below meth c 0 0 (MQ below (gx_Q D gz_cl none X2) args s 0 0 (gx_Z D)) X 90 [some (gx_r (some a0)), some (gx_r (some a1)), none, some (gx_i x3)] [] := by
  unfold gm_X1_settle_90 at h
  refine gx_iinc (v := (x3 + 1)) (lv2 := [some (gx_r (some a0)), some (gx_r (some a1)), none, some (gx_i (x3 + 1))]) C dX1_settle_90 rfl rfl (by decide) rfl ?_
  refine gx_goto (tgt := 31) C dX1_settle_93 (by decide) ?_
  exact hK31 a0 a1 (x3 + 1) X h
def gm_X1_settle_51 (fu : Nat) (K31 : Nat → Nat → Int32 → gx_H → Option gx_H) (a0 : Nat) (a1 : Nat) (x3 : Int32) (X : gx_H) : Option gx_H :=
  (gx_gi X a0 1 2).bind fun vz1 =>
  if vz1 ≤ 0 then (
  gx_ob X a0 1 <|
  (gm_X1_wakeCallers fu a0 a1 X).bind fun Xz4 =>
  gm_X1_settle_90 fu K31 a0 a1 x3 Xz4) else (
  (gx_gi X a0 1 2).bind fun vz5 =>
  (gx_pf X a0 1 2 (.int (vz5 - (1 : Int32)))).bind fun Xz6 =>
  (gx_gd Xz6 a0 1 1).bind fun az7 =>
  (gx_gi Xz6 a0 1 2).bind fun vz8 =>
  (gx_gai Xz6 az7 0 vz8).bind fun vz9 =>
  gx_ob Xz6 a0 1 <|
  (gm_X1_step fu a0 a1 vz9 Xz6).bind fun Xz11 =>
  gm_X1_settle_90 fu K31 a0 a1 x3 Xz11)
set_option maxHeartbeats 1000000 in
set_option maxRecDepth 20000 in
theorem gt_X1_settle_51 {p : Program} {l : Launch} {e : Env} {s : State} {m : MethodId} {args : Array Value} {below : List Frame} {meth : Method} {c : Code} {D : gx_D} {X2 : gx_H}  (C : gx_C D gz_cl gz_at gz_tb gz_nb p s m meth c cX1_settle 4 RX1 none) (fu : Nat) (K31 : Nat → Nat → Int32 → gx_H → Option gx_H) (hK31 : ∀ (a0 : Nat) (a1 : Nat) (x3 : Int32) (X : gx_H), K31 a0 a1 x3 X = some X2 → gx_W D gz_cl 4 p l e (gx_rm 4 103 0 0) s m args below meth c 0 0 (MQ below (gx_Q D gz_cl none X2) args s 0 0 (gx_Z D)) X 31 [some (gx_r (some a0)), some (gx_r (some a1)), none, some (gx_i x3)] []) (a0 : Nat) (a1 : Nat) (x3 : Int32) (X : gx_H) (h : gm_X1_settle_51 fu K31 a0 a1 x3 X = some X2) : gx_W D gz_cl 4 p l e (gx_rm 4 103 0 0) s m args below meth c 0 0 (MQ below (gx_Q D gz_cl none X2) args s 0 0 (gx_Z D)) X 51 [some (gx_r (some a0)), some (gx_r (some a1)), none, some (gx_i x3)] [] := by
  unfold gm_X1_settle_51 at h
  refine gx_aload_n C dX1_settle_51 rfl rfl ?_
  obtain ⟨vz1, evz1, h⟩ := gx_bd h
  refine gx_get C kcX1 2 (by decide) wl_49 (gx_gi_s evz1) dX1_settle_52 ?_
  refine gx_if_le (tgt := 85) C dX1_settle_55 (by decide) (fun qz2 => ?_) (fun qz2 => ?_)
  · rw [if_pos qz2] at h
    refine gx_aload_n C dX1_settle_85 rfl rfl ?_
    refine gx_aload_n C dX1_settle_86 rfl rfl ?_
    obtain ⟨hoz3, h⟩ := gx_obs h
    obtain ⟨Xz4, eXz4, h⟩ := gx_bd h
    refine gx_callV (As := [gx_r (some a1)]) (st := []) (stk2 := []) C cd_X1_wakeCallers wl_367 ws_X1_wakeCallers wl_365 rfl hoz3 (gc_X1_wakeCallers fu a0 a1 X Xz4 eXz4) rfl ⟨Nat.le_of_ble_eq_true rfl, Nat.le_of_ble_eq_true rfl⟩ ⟨Nat.le_of_ble_eq_true rfl, Nat.le_of_ble_eq_true rfl⟩ (Nat.le_of_ble_eq_true rfl) rfl rfl dX1_settle_87 ?_
    exact gt_X1_settle_90 C fu K31 hK31 a0 a1 x3 Xz4 h
  · rw [if_neg qz2] at h
    refine gx_aload_n C dX1_settle_58 rfl rfl ?_
    refine gx_dup C dX1_settle_59 rfl ?_
    obtain ⟨vz5, evz5, h⟩ := gx_bd h
    refine gx_get C kcX1 2 (by decide) wl_49 (gx_gi_s evz5) dX1_settle_60 ?_
    refine gx_iconst (v := 1) C dX1_settle_63 (by decide) ?_
    refine gx_isub C dX1_settle_64 ?_
    obtain ⟨Xz6, eXz6, h⟩ := gx_bd h
    refine gx_put C kcX1 2 (by decide) rfl wl_49 ⟨rfl, rfl⟩ eXz6 dX1_settle_65 ?_
    refine gx_aload_n C dX1_settle_68 rfl rfl ?_
    refine gx_aload_n C dX1_settle_69 rfl rfl ?_
    refine gx_aload_n C dX1_settle_70 rfl rfl ?_
    obtain ⟨az7, eaz7, h⟩ := gx_bd h
    refine gx_get C kcX1 1 (by decide) wl_48 (gx_gd_s eaz7) dX1_settle_71 ?_
    refine gx_aload_n C dX1_settle_74 rfl rfl ?_
    obtain ⟨vz8, evz8, h⟩ := gx_bd h
    refine gx_get C kcX1 2 (by decide) wl_49 (gx_gi_s evz8) dX1_settle_75 ?_
    obtain ⟨vz9, evz9, h⟩ := gx_bd h
    refine gx_iald C (t := 0) rfl evz9 dX1_settle_78 ?_
    obtain ⟨hoz10, h⟩ := gx_obs h
    obtain ⟨Xz11, eXz11, h⟩ := gx_bd h
    refine gx_callV (As := [gx_r (some a1), gx_i vz9]) (st := []) (stk2 := []) C cd_X1_step wl_337 ws_X1_step wl_335 rfl hoz10 (gc_X1_step fu a0 a1 vz9 Xz6 Xz11 eXz11) rfl ⟨Nat.le_of_ble_eq_true rfl, Nat.le_of_ble_eq_true rfl⟩ ⟨Nat.le_of_ble_eq_true rfl, Nat.le_of_ble_eq_true rfl⟩ (Nat.le_of_ble_eq_true rfl) rfl rfl dX1_settle_79 ?_
    refine gx_goto (tgt := 90) C dX1_settle_82 (by decide) ?_
    exact gt_X1_settle_90 C fu K31 hK31 a0 a1 x3 Xz11 h
def gm_X1_settle_96 (fu : Nat) (a1 : Nat) (X : gx_H) : Option gx_H :=
  (gx_pf X a1 3 2 (.int (1 : Int32))).bind fun Xz12 =>
  some Xz12
set_option maxHeartbeats 1000000 in
set_option maxRecDepth 20000 in
theorem gt_X1_settle_96 {p : Program} {l : Launch} {e : Env} {s : State} {m : MethodId} {args : Array Value} {below : List Frame} {meth : Method} {c : Code} {D : gx_D} {X2 : gx_H}  (C : gx_C D gz_cl gz_at gz_tb gz_nb p s m meth c cX1_settle 4 RX1 none) (fu : Nat) (a1 : Nat) (X : gx_H) (h : gm_X1_settle_96 fu  a1 X = some X2) : gx_W D gz_cl 4 p l e (gx_rm 4 103 0 0) s m args below meth c 0 0 (MQ below (gx_Q D gz_cl none X2) args s 0 0 (gx_Z D)) X 96 [none, some (gx_r (some a1)), none, none] [] := by
  unfold gm_X1_settle_96 at h
  refine gx_aload_n C dX1_settle_96 rfl rfl ?_
  refine gx_iconst (v := 1) C dX1_settle_97 (by decide) ?_
  obtain ⟨Xz12, eXz12, h⟩ := gx_bd h
  refine gx_put C kcX3 2 (by decide) rfl wl_85 (gx_nz (Or.inr rfl)) eXz12 dX1_settle_98 ?_
  cases h
  exact gx_vret C dX1_settle_101
def gm_X1_settle_31 (fu : Nat) : Nat → Nat → Nat → Int32 → gx_H → Option gx_H
  | 0, _, _, _, _ => none
  | n + 1, a0, a1, x3, X =>
    if (1000000 : Int32) ≤ x3 then (
    gm_X1_settle_96 fu  a1 X) else (
    (gx_gi X a0 1 2).bind fun vz14 =>
    if 0 < vz14 then (
    gm_X1_settle_51 fu (gm_X1_settle_31 fu  n) a0 a1 x3 X) else (
    (gx_gi X a0 1 3).bind fun vz16 =>
    if vz16 = 0 then (
    gm_X1_settle_96 fu  a1 X) else (
    gm_X1_settle_51 fu (gm_X1_settle_31 fu  n) a0 a1 x3 X)))
set_option maxHeartbeats 1000000 in
set_option maxRecDepth 20000 in
theorem gt_X1_settle_31 {p : Program} {l : Launch} {e : Env} {s : State} {m : MethodId} {args : Array Value} {below : List Frame} {meth : Method} {c : Code} {D : gx_D} {X2 : gx_H}  (C : gx_C D gz_cl gz_at gz_tb gz_nb p s m meth c cX1_settle 4 RX1 none) (fu : Nat) : ∀ (n : Nat) (a0 : Nat) (a1 : Nat) (x3 : Int32) (X : gx_H) , gm_X1_settle_31 fu  n a0 a1 x3 X = some X2 → gx_W D gz_cl 4 p l e (gx_rm 4 103 0 0) s m args below meth c 0 0 (MQ below (gx_Q D gz_cl none X2) args s 0 0 (gx_Z D)) X 31 [some (gx_r (some a0)), some (gx_r (some a1)), none, some (gx_i x3)] [] := by
  intro n
  induction n with
  | zero =>
    intro a0 a1 x3 X h
    have h : none = some _ := h
    cases h
  | succ n ih =>
    intro a0 a1 x3 X h
    rw [gm_X1_settle_31] at h
    refine gx_iload_n C dX1_settle_31 rfl rfl ?_
    refine gx_ldc (v := 1000000) C wl_334 dX1_settle_32 ?_
    refine gx_icmp_ge (tgt := 96) C dX1_settle_34 (by decide) (fun qz13 => ?_) (fun qz13 => ?_)
    · rw [if_pos qz13] at h
      refine gx_sub (lv2 := [none, some (gx_r (some a1)), none, none]) [false, true, false, false] rfl ?_
      exact gt_X1_settle_96 C fu  a1 X h
    · rw [if_neg qz13] at h
      refine gx_aload_n C dX1_settle_37 rfl rfl ?_
      obtain ⟨vz14, evz14, h⟩ := gx_bd h
      refine gx_get C kcX1 2 (by decide) wl_49 (gx_gi_s evz14) dX1_settle_38 ?_
      refine gx_if_gt (tgt := 51) C dX1_settle_41 (by decide) (fun qz15 => ?_) (fun qz15 => ?_)
      · rw [if_pos qz15] at h
        exact gt_X1_settle_51 C fu (gm_X1_settle_31 fu  n) ih a0 a1 x3 X h
      · rw [if_neg qz15] at h
        refine gx_aload_n C dX1_settle_44 rfl rfl ?_
        obtain ⟨vz16, evz16, h⟩ := gx_bd h
        refine gx_get C kcX1 3 (by decide) wl_50 (gx_gi_s evz16) dX1_settle_45 ?_
        refine gx_if_eq (tgt := 96) C dX1_settle_48 (by decide) (fun qz17 => ?_) (fun qz17 => ?_)
        · rw [if_pos qz17] at h
          refine gx_sub (lv2 := [none, some (gx_r (some a1)), none, none]) [false, true, false, false] rfl ?_
          exact gt_X1_settle_96 C fu  a1 X h
        · rw [if_neg qz17] at h
          exact gt_X1_settle_51 C fu (gm_X1_settle_31 fu  n) ih a0 a1 x3 X h
def gm_X1_settle_29 (fu : Nat) (a0 : Nat) (a1 : Nat) (X : gx_H) : Option gx_H :=
  gm_X1_settle_31 fu  fu a0 a1 (0 : Int32) X
set_option maxHeartbeats 1000000 in
set_option maxRecDepth 20000 in
theorem gt_X1_settle_29 {p : Program} {l : Launch} {e : Env} {s : State} {m : MethodId} {args : Array Value} {below : List Frame} {meth : Method} {c : Code} {D : gx_D} {X2 : gx_H}  (C : gx_C D gz_cl gz_at gz_tb gz_nb p s m meth c cX1_settle 4 RX1 none) (fu : Nat) (a0 : Nat) (a1 : Nat) (X : gx_H) (h : gm_X1_settle_29 fu  a0 a1 X = some X2) : gx_W D gz_cl 4 p l e (gx_rm 4 103 0 0) s m args below meth c 0 0 (MQ below (gx_Q D gz_cl none X2) args s 0 0 (gx_Z D)) X 29 [some (gx_r (some a0)), some (gx_r (some a1)), none, none] [] := by
  unfold gm_X1_settle_29 at h
  refine gx_iconst (v := 0) C dX1_settle_29 (by decide) ?_
  refine gx_istore_n (lv2 := [some (gx_r (some a0)), some (gx_r (some a1)), none, some (gx_i (0 : Int32))]) C dX1_settle_30 rfl (by decide) rfl ?_
  exact gt_X1_settle_31 C fu  fu a0 a1 (0 : Int32) X h
def gm_X1_settle (fu : Nat) (this : Nat) (a_0 : Nat) (X : gx_H) : Option gx_H :=
  (gx_gi X a_0 3 2).bind fun vz18 =>
  if vz18 = 0 then (
  gx_ob X this 1 <|
  (gm_X1_forgetAll fu this a_0 X).bind fun Xz21 =>
  gx_ob Xz21 a_0 3 <|
  gx_b2 (gm_X3_body fu a_0 (0 : Int32) Xz21) fun oz24 Xz23 =>
  gx_nl oz24 (
  gm_X1_settle_29 fu  this a_0 Xz23) fun az26 =>
  gx_ob Xz23 this 1 <|
  (gm_X1_growEntry fu this az26 (1 : Int64) Xz23).bind fun Xz28 =>
  gm_X1_settle_29 fu  this a_0 Xz28) else (
  some X)
set_option maxHeartbeats 1000000 in
set_option maxRecDepth 20000 in
theorem gc_X1_settle {l : Launch} {D : gx_D} (fu : Nat) (this : Nat) (a_0 : Nat) (X : gx_H) (X2 : gx_H) (h : gm_X1_settle fu this a_0 X = some X2) : gx_M D gz_cl gz_at gz_tb gz_nb l yX1_settle cX1_settle 4 none 4 103 [gx_r (some this), gx_r (some a_0)] X none X2 0 0 := by
  unfold gm_X1_settle at h
  refine gx_enter [some (gx_r (some this)), some (gx_r (some a_0)), none, none] rfl (by decide) (Nat.le_of_ble_eq_true rfl) ?_
  intro p e s m below meth c C _
  refine gx_aload_n C dX1_settle_0 rfl rfl ?_
  obtain ⟨vz18, evz18, h⟩ := gx_bd h
  refine gx_get C kcX3 2 (by decide) wl_85 (gx_gi_s evz18) dX1_settle_1 ?_
  refine gx_if_eq (tgt := 8) C dX1_settle_4 (by decide) (fun qz19 => ?_) (fun qz19 => ?_)
  · rw [if_pos qz19] at h
    refine gx_aload_n C dX1_settle_8 rfl rfl ?_
    refine gx_aload_n C dX1_settle_9 rfl rfl ?_
    obtain ⟨hoz20, h⟩ := gx_obs h
    obtain ⟨Xz21, eXz21, h⟩ := gx_bd h
    refine gx_callV (As := [gx_r (some a_0)]) (st := []) (stk2 := []) C cd_X1_forgetAll wl_310 ws_X1_forgetAll wl_308 rfl hoz20 (gc_X1_forgetAll fu this a_0 X Xz21 eXz21) rfl ⟨Nat.le_of_ble_eq_true rfl, Nat.le_of_ble_eq_true rfl⟩ ⟨Nat.le_of_ble_eq_true rfl, Nat.le_of_ble_eq_true rfl⟩ (Nat.le_of_ble_eq_true rfl) rfl rfl dX1_settle_10 ?_
    refine gx_aload_n C dX1_settle_13 rfl rfl ?_
    refine gx_iconst (v := 0) C dX1_settle_14 (by decide) ?_
    obtain ⟨hoz22, h⟩ := gx_obs h
    obtain ⟨oz24, Xz23, eXz23, h⟩ := gx_bd2 h
    refine gx_callV (As := [gx_i (0 : Int32)]) (st := []) (stk2 := [gx_r oz24]) C cd_X3_body wl_275 ws_X3_body wl_312 rfl hoz22 (gc_X3_body fu a_0 (0 : Int32) Xz21 oz24 Xz23 eXz23) rfl ⟨Nat.le_of_ble_eq_true rfl, Nat.le_of_ble_eq_true rfl⟩ ⟨Nat.le_of_ble_eq_true rfl, Nat.le_of_ble_eq_true rfl⟩ (Nat.le_of_ble_eq_true rfl) rfl rfl dX1_settle_15 ?_
    refine gx_astore_n (lv2 := [some (gx_r (some this)), some (gx_r (some a_0)), some (gx_r oz24), none]) C dX1_settle_18 rfl (by decide) rfl ?_
    refine gx_aload_n C dX1_settle_19 rfl rfl ?_
    refine gx_ifnull (tgt := 29) C dX1_settle_20 (by decide) (fun qz25 => ?_) (fun az26 qz25 => ?_)
    · subst qz25
      have h := gx_nl_n h
      refine gx_sub (lv2 := [some (gx_r (some this)), some (gx_r (some a_0)), none, none]) [true, true, false, false] rfl ?_
      exact gt_X1_settle_29 C fu  this a_0 Xz23 h
    · subst qz25
      have h := gx_nl_s h
      refine gx_aload_n C dX1_settle_23 rfl rfl ?_
      refine gx_aload_n C dX1_settle_24 rfl rfl ?_
      refine gx_lconst (v := 1) C dX1_settle_25 (by decide) ?_
      obtain ⟨hoz27, h⟩ := gx_obs h
      obtain ⟨Xz28, eXz28, h⟩ := gx_bd h
      refine gx_callV (As := [gx_r (some az26), gx_l (1 : Int64)]) (st := []) (stk2 := []) C cd_X1_growEntry wl_323 ws_X1_growEntry wl_321 rfl hoz27 (gc_X1_growEntry fu this az26 (1 : Int64) Xz23 Xz28 eXz28) rfl ⟨Nat.le_of_ble_eq_true rfl, Nat.le_of_ble_eq_true rfl⟩ ⟨Nat.le_of_ble_eq_true rfl, Nat.le_of_ble_eq_true rfl⟩ (Nat.le_of_ble_eq_true rfl) rfl rfl dX1_settle_26 ?_
      refine gx_sub (lv2 := [some (gx_r (some this)), some (gx_r (some a_0)), none, none]) [true, true, false, false] rfl ?_
      exact gt_X1_settle_29 C fu  this a_0 Xz28 h
  · rw [if_neg qz19] at h
    cases h
    exact gx_vret C dX1_settle_7
theorem dX2_copyHandlers_0 : decode cX2_copyHandlers 0 = .ok (.iconst 0, 1) := by decide +kernel
theorem dX2_copyHandlers_1 : decode cX2_copyHandlers 1 = .ok (.istore_n 3, 1) := by decide +kernel
theorem dX2_copyHandlers_2 : decode cX2_copyHandlers 2 = .ok (.iload_n 3, 1) := by decide +kernel
theorem dX2_copyHandlers_3 : decode cX2_copyHandlers 3 = .ok (.aload_n 1, 1) := by decide +kernel
theorem dX2_copyHandlers_4 : decode cX2_copyHandlers 4 = .ok (.getfield 72, 3) := by decide +kernel
theorem dX2_copyHandlers_7 : decode cX2_copyHandlers 7 = .ok (.if_icmp .ge 46, 3) := by decide +kernel
theorem dX2_copyHandlers_10 : decode cX2_copyHandlers 10 = .ok (.aload_n 2, 1) := by decide +kernel
theorem dX2_copyHandlers_11 : decode cX2_copyHandlers 11 = .ok (.aload_n 0, 1) := by decide +kernel
theorem dX2_copyHandlers_12 : decode cX2_copyHandlers 12 = .ok (.getfield 9, 3) := by decide +kernel
theorem dX2_copyHandlers_15 : decode cX2_copyHandlers 15 = .ok (.aload_n 1, 1) := by decide +kernel
theorem dX2_copyHandlers_16 : decode cX2_copyHandlers 16 = .ok (.getfield 75, 3) := by decide +kernel
theorem dX2_copyHandlers_19 : decode cX2_copyHandlers 19 = .ok (.iload_n 3, 1) := by decide +kernel
theorem dX2_copyHandlers_20 : decode cX2_copyHandlers 20 = .ok (.iaload, 1) := by decide +kernel
theorem dX2_copyHandlers_21 : decode cX2_copyHandlers 21 = .ok (.iaload, 1) := by decide +kernel
theorem dX2_copyHandlers_22 : decode cX2_copyHandlers 22 = .ok (.aload_n 0, 1) := by decide +kernel
theorem dX2_copyHandlers_23 : decode cX2_copyHandlers 23 = .ok (.getfield 9, 3) := by decide +kernel
theorem dX2_copyHandlers_26 : decode cX2_copyHandlers 26 = .ok (.aload_n 1, 1) := by decide +kernel
theorem dX2_copyHandlers_27 : decode cX2_copyHandlers 27 = .ok (.getfield 78, 3) := by decide +kernel
theorem dX2_copyHandlers_30 : decode cX2_copyHandlers 30 = .ok (.iload_n 3, 1) := by decide +kernel
theorem dX2_copyHandlers_31 : decode cX2_copyHandlers 31 = .ok (.iaload, 1) := by decide +kernel
theorem dX2_copyHandlers_32 : decode cX2_copyHandlers 32 = .ok (.iaload, 1) := by decide +kernel
theorem dX2_copyHandlers_33 : decode cX2_copyHandlers 33 = .ok (.aload_n 0, 1) := by decide +kernel
theorem dX2_copyHandlers_34 : decode cX2_copyHandlers 34 = .ok (.getfield 9, 3) := by decide +kernel
theorem dX2_copyHandlers_37 : decode cX2_copyHandlers 37 = .ok (.aload_n 1, 1) := by decide +kernel
theorem dX2_copyHandlers_38 : decode cX2_copyHandlers 38 = .ok (.getfield 81, 3) := by decide +kernel
theorem dX2_copyHandlers_41 : decode cX2_copyHandlers 41 = .ok (.iload_n 3, 1) := by decide +kernel
theorem dX2_copyHandlers_42 : decode cX2_copyHandlers 42 = .ok (.iaload, 1) := by decide +kernel
theorem dX2_copyHandlers_43 : decode cX2_copyHandlers 43 = .ok (.iaload, 1) := by decide +kernel
theorem dX2_copyHandlers_44 : decode cX2_copyHandlers 44 = .ok (.invokevirtual 84, 3) := by decide +kernel
theorem dX2_copyHandlers_47 : decode cX2_copyHandlers 47 = .ok (.iinc 3 1, 3) := by decide +kernel
theorem dX2_copyHandlers_50 : decode cX2_copyHandlers 50 = .ok (.goto (-48), 3) := by decide +kernel
theorem dX2_copyHandlers_53 : decode cX2_copyHandlers 53 = .ok (.return_, 1) := by decide +kernel
def gm_X2_copyHandlers_2 (fu : Nat) : Nat → Nat → Nat → Nat → Int32 → gx_H → Option gx_H
  | 0, _, _, _, _, _ => none
  | n + 1, a0, a1, a2, x3, X =>
    (gx_gi X a1 0 7).bind fun vz1 =>
    if vz1 ≤ x3 then (
    some X) else (
    (gx_gd X a0 2 1).bind fun az3 =>
    (gx_gd X a1 0 3).bind fun az4 =>
    (gx_gai X az4 0 x3).bind fun vz5 =>
    (gx_gai X az3 0 vz5).bind fun vz6 =>
    (gx_gd X a0 2 1).bind fun az7 =>
    (gx_gd X a1 0 4).bind fun az8 =>
    (gx_gai X az8 0 x3).bind fun vz9 =>
    (gx_gai X az7 0 vz9).bind fun vz10 =>
    (gx_gd X a0 2 1).bind fun az11 =>
    (gx_gd X a1 0 5).bind fun az12 =>
    (gx_gai X az12 0 x3).bind fun vz13 =>
    (gx_gai X az11 0 vz13).bind fun vz14 =>
    gx_ob X a2 0 <|
    (gm_X0_addHandler fu a2 vz6 vz10 vz14 X).bind fun Xz16 =>
    (gm_X2_copyHandlers_2 fu  n) a0 a1 a2 (x3 + 1) Xz16)
set_option maxHeartbeats 1000000 in
set_option maxRecDepth 20000 in
theorem gt_X2_copyHandlers_2 {p : Program} {l : Launch} {e : Env} {s : State} {m : MethodId} {args : Array Value} {below : List Frame} {meth : Method} {c : Code} {D : gx_D} {X2 : gx_H}  (C : gx_C D gz_cl gz_at gz_tb gz_nb p s m meth c cX2_copyHandlers 4 RX2 none) (fu : Nat) : ∀ (n : Nat) (a0 : Nat) (a1 : Nat) (a2 : Nat) (x3 : Int32) (X : gx_H) , gm_X2_copyHandlers_2 fu  n a0 a1 a2 x3 X = some X2 → gx_W D gz_cl 4 p l e (gx_rm 1 23 0 0) s m args below meth c 0 0 (MQ below (gx_Q D gz_cl none X2) args s 0 0 (gx_Z D)) X 2 [some (gx_r (some a0)), some (gx_r (some a1)), some (gx_r (some a2)), some (gx_i x3)] [] := by
  intro n
  induction n with
  | zero =>
    intro a0 a1 a2 x3 X h
    have h : none = some _ := h
    cases h
  | succ n ih =>
    intro a0 a1 a2 x3 X h
    rw [gm_X2_copyHandlers_2] at h
    refine gx_iload_n C dX2_copyHandlers_2 rfl rfl ?_
    refine gx_aload_n C dX2_copyHandlers_3 rfl rfl ?_
    obtain ⟨vz1, evz1, h⟩ := gx_bd h
    refine gx_get C kcX0 7 (by decide) wl_210 (gx_gi_s evz1) dX2_copyHandlers_4 ?_
    refine gx_icmp_ge (tgt := 53) C dX2_copyHandlers_7 (by decide) (fun qz2 => ?_) (fun qz2 => ?_)
    · rw [if_pos qz2] at h
      cases h
      exact gx_vret C dX2_copyHandlers_53
    · rw [if_neg qz2] at h
      refine gx_aload_n C dX2_copyHandlers_10 rfl rfl ?_
      refine gx_aload_n C dX2_copyHandlers_11 rfl rfl ?_
      obtain ⟨az3, eaz3, h⟩ := gx_bd h
      refine gx_get C kcX2 1 (by decide) wl_68 (gx_gd_s eaz3) dX2_copyHandlers_12 ?_
      refine gx_aload_n C dX2_copyHandlers_15 rfl rfl ?_
      obtain ⟨az4, eaz4, h⟩ := gx_bd h
      refine gx_get C kcX0 3 (by decide) wl_194 (gx_gd_s eaz4) dX2_copyHandlers_16 ?_
      refine gx_iload_n C dX2_copyHandlers_19 rfl rfl ?_
      obtain ⟨vz5, evz5, h⟩ := gx_bd h
      refine gx_iald C (t := 0) rfl evz5 dX2_copyHandlers_20 ?_
      obtain ⟨vz6, evz6, h⟩ := gx_bd h
      refine gx_iald C (t := 0) rfl evz6 dX2_copyHandlers_21 ?_
      refine gx_aload_n C dX2_copyHandlers_22 rfl rfl ?_
      obtain ⟨az7, eaz7, h⟩ := gx_bd h
      refine gx_get C kcX2 1 (by decide) wl_68 (gx_gd_s eaz7) dX2_copyHandlers_23 ?_
      refine gx_aload_n C dX2_copyHandlers_26 rfl rfl ?_
      obtain ⟨az8, eaz8, h⟩ := gx_bd h
      refine gx_get C kcX0 4 (by decide) wl_198 (gx_gd_s eaz8) dX2_copyHandlers_27 ?_
      refine gx_iload_n C dX2_copyHandlers_30 rfl rfl ?_
      obtain ⟨vz9, evz9, h⟩ := gx_bd h
      refine gx_iald C (t := 0) rfl evz9 dX2_copyHandlers_31 ?_
      obtain ⟨vz10, evz10, h⟩ := gx_bd h
      refine gx_iald C (t := 0) rfl evz10 dX2_copyHandlers_32 ?_
      refine gx_aload_n C dX2_copyHandlers_33 rfl rfl ?_
      obtain ⟨az11, eaz11, h⟩ := gx_bd h
      refine gx_get C kcX2 1 (by decide) wl_68 (gx_gd_s eaz11) dX2_copyHandlers_34 ?_
      refine gx_aload_n C dX2_copyHandlers_37 rfl rfl ?_
      obtain ⟨az12, eaz12, h⟩ := gx_bd h
      refine gx_get C kcX0 5 (by decide) wl_202 (gx_gd_s eaz12) dX2_copyHandlers_38 ?_
      refine gx_iload_n C dX2_copyHandlers_41 rfl rfl ?_
      obtain ⟨vz13, evz13, h⟩ := gx_bd h
      refine gx_iald C (t := 0) rfl evz13 dX2_copyHandlers_42 ?_
      obtain ⟨vz14, evz14, h⟩ := gx_bd h
      refine gx_iald C (t := 0) rfl evz14 dX2_copyHandlers_43 ?_
      obtain ⟨hoz15, h⟩ := gx_obs h
      obtain ⟨Xz16, eXz16, h⟩ := gx_bd h
      refine gx_callV (As := [gx_i vz6, gx_i vz10, gx_i vz14]) (st := []) (stk2 := []) C cd_X0_addHandler wl_297 ws_X0_addHandler wl_415 rfl hoz15 (gc_X0_addHandler fu a2 vz6 vz10 vz14 X Xz16 eXz16) rfl ⟨Nat.le_of_ble_eq_true rfl, Nat.le_of_ble_eq_true rfl⟩ ⟨Nat.le_of_ble_eq_true rfl, Nat.le_of_ble_eq_true rfl⟩ (Nat.le_of_ble_eq_true rfl) rfl rfl dX2_copyHandlers_44 ?_
      refine gx_iinc (v := (x3 + 1)) (lv2 := [some (gx_r (some a0)), some (gx_r (some a1)), some (gx_r (some a2)), some (gx_i (x3 + 1))]) C dX2_copyHandlers_47 rfl rfl (by decide) rfl ?_
      refine gx_goto (tgt := 2) C dX2_copyHandlers_50 (by decide) ?_
      exact ih a0 a1 a2 (x3 + 1) Xz16 h
def gm_X2_copyHandlers (fu : Nat) (this : Nat) (a_0 : Nat) (a_1 : Nat) (X : gx_H) : Option gx_H :=
  gm_X2_copyHandlers_2 fu  fu this a_0 a_1 (0 : Int32) X
set_option maxHeartbeats 1000000 in
set_option maxRecDepth 20000 in
theorem gc_X2_copyHandlers {l : Launch} {D : gx_D} (fu : Nat) (this : Nat) (a_0 : Nat) (a_1 : Nat) (X : gx_H) (X2 : gx_H) (h : gm_X2_copyHandlers fu this a_0 a_1 X = some X2) : gx_M D gz_cl gz_at gz_tb gz_nb l yX2_copyHandlers cX2_copyHandlers 4 none 1 23 [gx_r (some this), gx_r (some a_0), gx_r (some a_1)] X none X2 0 0 := by
  unfold gm_X2_copyHandlers at h
  refine gx_enter [some (gx_r (some this)), some (gx_r (some a_0)), some (gx_r (some a_1)), none] rfl (by decide) (Nat.le_of_ble_eq_true rfl) ?_
  intro p e s m below meth c C _
  refine gx_iconst (v := 0) C dX2_copyHandlers_0 (by decide) ?_
  refine gx_istore_n (lv2 := [some (gx_r (some this)), some (gx_r (some a_0)), some (gx_r (some a_1)), some (gx_i (0 : Int32))]) C dX2_copyHandlers_1 rfl (by decide) rfl ?_
  exact gt_X2_copyHandlers_2 C fu  fu this a_0 a_1 (0 : Int32) X h
theorem dX4_bitOf_0 : decode cX4_bitOf 0 = .ok (.lconst 1, 1) := by decide +kernel
theorem dX4_bitOf_1 : decode cX4_bitOf 1 = .ok (.iload_n 0, 1) := by decide +kernel
theorem dX4_bitOf_2 : decode cX4_bitOf 2 = .ok (.iconst (-1), 1) := by decide +kernel
theorem dX4_bitOf_3 : decode cX4_bitOf 3 = .ok (.if_icmp .ne 8, 3) := by decide +kernel
theorem dX4_bitOf_6 : decode cX4_bitOf 6 = .ok (.bipush 60, 2) := by decide +kernel
theorem dX4_bitOf_8 : decode cX4_bitOf 8 = .ok (.goto 4, 3) := by decide +kernel
theorem dX4_bitOf_11 : decode cX4_bitOf 11 = .ok (.iload_n 0, 1) := by decide +kernel
theorem dX4_bitOf_12 : decode cX4_bitOf 12 = .ok (.lshl, 1) := by decide +kernel
theorem dX4_bitOf_13 : decode cX4_bitOf 13 = .ok (.lreturn, 1) := by decide +kernel
def gm_X4_bitOf (fu : Nat) (p_0 : Int32) (X : gx_H) : Option (Int64 × gx_H) :=
  if p_0 = (-1 : Int32) then (
  some (((1 : Int64) <<< ((60 : Int32).toInt64 &&& 63)), X)) else (
  some (((1 : Int64) <<< (p_0.toInt64 &&& 63)), X))
set_option maxHeartbeats 1000000 in
set_option maxRecDepth 20000 in
theorem gc_X4_bitOf {l : Launch} {D : gx_D} (fu : Nat) (p_0 : Int32) (X : gx_H) (r : Int64) (X2 : gx_H) (h : gm_X4_bitOf fu p_0 X = some (r, X2)) : gx_M D gz_cl gz_at gz_tb gz_nb l yX4_bitOf cX4_bitOf 1 (some .long) 0 0 [gx_i p_0] X (some (gx_l r)) X2 0 0 := by
  unfold gm_X4_bitOf at h
  refine gx_enter [some (gx_i p_0)] rfl (by decide) (Nat.le_of_ble_eq_true rfl) ?_
  intro p e s m below meth c C _
  refine gx_lconst (v := 1) C dX4_bitOf_0 (by decide) ?_
  refine gx_iload_n C dX4_bitOf_1 rfl rfl ?_
  refine gx_iconst (v := -1) C dX4_bitOf_2 (by decide) ?_
  refine gx_icmp_ne (tgt := 11) C dX4_bitOf_3 (by decide) (fun qz1 => ?_) (fun qz1 => ?_)
  · rw [if_neg qz1] at h
    refine gx_iload_n C dX4_bitOf_11 rfl rfl ?_
    refine gx_lshl C dX4_bitOf_12 ?_
    cases h
    exact gx_lret C dX4_bitOf_13
  · rw [if_pos qz1] at h
    refine gx_bipush (v := 60) C dX4_bitOf_6 (by decide) ?_
    refine gx_goto (tgt := 12) C dX4_bitOf_8 (by decide) ?_
    refine gx_lshl C dX4_bitOf_12 ?_
    cases h
    exact gx_lret C dX4_bitOf_13
theorem dX4_changesSome_0 : decode cX4_changesSome 0 = .ok (.iconst 0, 1) := by decide +kernel
theorem dX4_changesSome_1 : decode cX4_changesSome 1 = .ok (.istore 4, 2) := by decide +kernel
theorem dX4_changesSome_3 : decode cX4_changesSome 3 = .ok (.iload 4, 2) := by decide +kernel
theorem dX4_changesSome_5 : decode cX4_changesSome 5 = .ok (.aload_n 0, 1) := by decide +kernel
theorem dX4_changesSome_6 : decode cX4_changesSome 6 = .ok (.getfield 19, 3) := by decide +kernel
theorem dX4_changesSome_9 : decode cX4_changesSome 9 = .ok (.if_icmp .ge 38, 3) := by decide +kernel
theorem dX4_changesSome_12 : decode cX4_changesSome 12 = .ok (.lload_n 2, 1) := by decide +kernel
theorem dX4_changesSome_13 : decode cX4_changesSome 13 = .ok (.iload 4, 2) := by decide +kernel
theorem dX4_changesSome_15 : decode cX4_changesSome 15 = .ok (.lshr, 1) := by decide +kernel
theorem dX4_changesSome_16 : decode cX4_changesSome 16 = .ok (.lconst 1, 1) := by decide +kernel
theorem dX4_changesSome_17 : decode cX4_changesSome 17 = .ok (.land, 1) := by decide +kernel
theorem dX4_changesSome_18 : decode cX4_changesSome 18 = .ok (.lconst 0, 1) := by decide +kernel
theorem dX4_changesSome_19 : decode cX4_changesSome 19 = .ok (.lcmp, 1) := by decide +kernel
theorem dX4_changesSome_20 : decode cX4_changesSome 20 = .ok (.ifCond .eq 21, 3) := by decide +kernel
theorem dX4_changesSome_23 : decode cX4_changesSome 23 = .ok (.aload_n 0, 1) := by decide +kernel
theorem dX4_changesSome_24 : decode cX4_changesSome 24 = .ok (.iload_n 1, 1) := by decide +kernel
theorem dX4_changesSome_25 : decode cX4_changesSome 25 = .ok (.iload 4, 2) := by decide +kernel
theorem dX4_changesSome_27 : decode cX4_changesSome 27 = .ok (.invokevirtual 33, 3) := by decide +kernel
theorem dX4_changesSome_30 : decode cX4_changesSome 30 = .ok (.iload 4, 2) := by decide +kernel
theorem dX4_changesSome_32 : decode cX4_changesSome 32 = .ok (.invokestatic 37, 3) := by decide +kernel
theorem dX4_changesSome_35 : decode cX4_changesSome 35 = .ok (.lcmp, 1) := by decide +kernel
theorem dX4_changesSome_36 : decode cX4_changesSome 36 = .ok (.ifCond .eq 5, 3) := by decide +kernel
theorem dX4_changesSome_39 : decode cX4_changesSome 39 = .ok (.iconst 1, 1) := by decide +kernel
theorem dX4_changesSome_40 : decode cX4_changesSome 40 = .ok (.ireturn, 1) := by decide +kernel
theorem dX4_changesSome_41 : decode cX4_changesSome 41 = .ok (.iinc 4 1, 3) := by decide +kernel
theorem dX4_changesSome_44 : decode cX4_changesSome 44 = .ok (.goto (-41), 3) := by decide +kernel
theorem dX4_changesSome_47 : decode cX4_changesSome 47 = .ok (.iconst 0, 1) := by decide +kernel
theorem dX4_changesSome_48 : decode cX4_changesSome 48 = .ok (.ireturn, 1) := by decide +kernel
def gm_X4_changesSome_41 (fu : Nat) (K3 : Nat → Int32 → Int64 → Int32 → gx_H → Option (Int32 × gx_H)) (a0 : Nat) (x1 : Int32) (y2 : Int64) (x4 : Int32) (X : gx_H) : Option (Int32 × gx_H) :=
  K3 a0 x1 y2 (x4 + 1) X
set_option maxHeartbeats 1000000 in
set_option maxRecDepth 20000 in
theorem gt_X4_changesSome_41 {p : Program} {l : Launch} {e : Env} {s : State} {m : MethodId} {args : Array Value} {below : List Frame} {meth : Method} {c : Code} {D : gx_D} {r : Int32} {X2 : gx_H}  (C : gx_C D gz_cl gz_at gz_tb gz_nb p s m meth c cX4_changesSome 5 RX4 (some .boolean)) (fu : Nat) (K3 : Nat → Int32 → Int64 → Int32 → gx_H → Option (Int32 × gx_H)) (hK3 : ∀ (a0 : Nat) (x1 : Int32) (y2 : Int64) (x4 : Int32) (X : gx_H), K3 a0 x1 y2 x4 X = some (r, X2) → gx_W D gz_cl 5 p l e (gx_rm 1 22 0 0) s m args below meth c 0 0 (MQ below (gx_Q D gz_cl (some (gx_i r)) X2) args s 0 0 (gx_Z D)) X 3 [some (gx_r (some a0)), some (gx_i x1), some (gx_l y2), none, some (gx_i x4)] []) (a0 : Nat) (x1 : Int32) (y2 : Int64) (x4 : Int32) (X : gx_H) (h : gm_X4_changesSome_41 fu K3 a0 x1 y2 x4 X = some (r, X2)) : gx_W D gz_cl 5 p l e (gx_rm 1 22 0 0) s m args below meth c 0 0 (MQ below (gx_Q D gz_cl (some (gx_i r)) X2) args s 0 0 (gx_Z D)) X 41 [some (gx_r (some a0)), some (gx_i x1), some (gx_l y2), none, some (gx_i x4)] [] := by
  unfold gm_X4_changesSome_41 at h
  refine gx_iinc (v := (x4 + 1)) (lv2 := [some (gx_r (some a0)), some (gx_i x1), some (gx_l y2), none, some (gx_i (x4 + 1))]) C dX4_changesSome_41 rfl rfl (by decide) rfl ?_
  refine gx_goto (tgt := 3) C dX4_changesSome_44 (by decide) ?_
  exact hK3 a0 x1 y2 (x4 + 1) X h
def gm_X4_changesSome_3 (fu : Nat) : Nat → Nat → Int32 → Int64 → Int32 → gx_H → Option (Int32 × gx_H)
  | 0, _, _, _, _, _ => none
  | n + 1, a0, x1, y2, x4, X =>
    (gx_gi X a0 4 2).bind fun vz1 =>
    if vz1 ≤ x4 then (
    some ((0 : Int32), X)) else (
    if (lg_cmp ((y2 >>> (x4.toInt64 &&& 63)) &&& (1 : Int64)) (0 : Int64)) = 0 then (
    gm_X4_changesSome_41 fu (gm_X4_changesSome_3 fu  n) a0 x1 y2 x4 X) else (
    gx_ob X a0 4 <|
    gx_b2 (gm_X4_waysFrom fu a0 x1 x4 X) fun vz6 Xz5 =>
    gx_b2 (gm_X4_bitOf fu x4 Xz5) fun vz8 Xz7 =>
    if (lg_cmp vz6 vz8) = 0 then (
    gm_X4_changesSome_41 fu (gm_X4_changesSome_3 fu  n) a0 x1 y2 x4 Xz7) else (
    some ((1 : Int32), Xz7))))
set_option maxHeartbeats 1000000 in
set_option maxRecDepth 20000 in
theorem gt_X4_changesSome_3 {p : Program} {l : Launch} {e : Env} {s : State} {m : MethodId} {args : Array Value} {below : List Frame} {meth : Method} {c : Code} {D : gx_D} {r : Int32} {X2 : gx_H}  (C : gx_C D gz_cl gz_at gz_tb gz_nb p s m meth c cX4_changesSome 5 RX4 (some .boolean)) (fu : Nat) : ∀ (n : Nat) (a0 : Nat) (x1 : Int32) (y2 : Int64) (x4 : Int32) (X : gx_H) , gm_X4_changesSome_3 fu  n a0 x1 y2 x4 X = some (r, X2) → gx_W D gz_cl 5 p l e (gx_rm 1 22 0 0) s m args below meth c 0 0 (MQ below (gx_Q D gz_cl (some (gx_i r)) X2) args s 0 0 (gx_Z D)) X 3 [some (gx_r (some a0)), some (gx_i x1), some (gx_l y2), none, some (gx_i x4)] [] := by
  intro n
  induction n with
  | zero =>
    intro a0 x1 y2 x4 X h
    have h : none = some _ := h
    cases h
  | succ n ih =>
    intro a0 x1 y2 x4 X h
    rw [gm_X4_changesSome_3] at h
    refine gx_iload C dX4_changesSome_3 rfl ?_
    refine gx_aload_n C dX4_changesSome_5 rfl rfl ?_
    obtain ⟨vz1, evz1, h⟩ := gx_bd h
    refine gx_get C kcX4 2 (by decide) wl_26 (gx_gi_s evz1) dX4_changesSome_6 ?_
    refine gx_icmp_ge (tgt := 47) C dX4_changesSome_9 (by decide) (fun qz2 => ?_) (fun qz2 => ?_)
    · rw [if_pos qz2] at h
      refine gx_iconst (v := 0) C dX4_changesSome_47 (by decide) ?_
      cases h
      exact gx_zret (Or.inl rfl) C dX4_changesSome_48
    · rw [if_neg qz2] at h
      refine gx_lload_n C dX4_changesSome_12 rfl rfl ?_
      refine gx_iload C dX4_changesSome_13 rfl ?_
      refine gx_lshr C dX4_changesSome_15 ?_
      refine gx_lconst (v := 1) C dX4_changesSome_16 (by decide) ?_
      refine gx_land C dX4_changesSome_17 ?_
      refine gx_lconst (v := 0) C dX4_changesSome_18 (by decide) ?_
      refine gx_lcmp C dX4_changesSome_19 ?_
      refine gx_if_eq (tgt := 41) C dX4_changesSome_20 (by decide) (fun qz3 => ?_) (fun qz3 => ?_)
      · rw [if_pos qz3] at h
        exact gt_X4_changesSome_41 C fu (gm_X4_changesSome_3 fu  n) ih a0 x1 y2 x4 X h
      · rw [if_neg qz3] at h
        refine gx_aload_n C dX4_changesSome_23 rfl rfl ?_
        refine gx_iload_n C dX4_changesSome_24 rfl rfl ?_
        refine gx_iload C dX4_changesSome_25 rfl ?_
        obtain ⟨hoz4, h⟩ := gx_obs h
        obtain ⟨vz6, Xz5, eXz5, h⟩ := gx_bd2 h
        refine gx_callV (As := [gx_i x1, gx_i x4]) (st := []) (stk2 := [gx_l vz6]) C cd_X4_waysFrom wl_148 ws_X4_waysFrom wl_146 rfl hoz4 (gc_X4_waysFrom fu a0 x1 x4 X vz6 Xz5 eXz5) rfl ⟨Nat.le_of_ble_eq_true rfl, Nat.le_of_ble_eq_true rfl⟩ ⟨Nat.le_of_ble_eq_true rfl, Nat.le_of_ble_eq_true rfl⟩ (Nat.le_of_ble_eq_true rfl) rfl rfl dX4_changesSome_27 ?_
        refine gx_iload C dX4_changesSome_30 rfl ?_
        obtain ⟨vz8, Xz7, eXz7, h⟩ := gx_bd2 h
        refine gx_callS (As := [gx_i x4]) (st := [gx_l vz6]) (stk2 := [gx_l vz8, gx_l vz6]) C cd_X4_bitOf wl_151 wl_150 (gc_X4_bitOf fu x4 Xz5 vz8 Xz7 eXz7) rfl ⟨Nat.le_of_ble_eq_true rfl, Nat.le_of_ble_eq_true rfl⟩ ⟨Nat.le_of_ble_eq_true rfl, Nat.le_of_ble_eq_true rfl⟩ (Nat.le_of_ble_eq_true rfl) rfl rfl dX4_changesSome_32 ?_
        refine gx_lcmp C dX4_changesSome_35 ?_
        refine gx_if_eq (tgt := 41) C dX4_changesSome_36 (by decide) (fun qz9 => ?_) (fun qz9 => ?_)
        · rw [if_pos qz9] at h
          exact gt_X4_changesSome_41 C fu (gm_X4_changesSome_3 fu  n) ih a0 x1 y2 x4 Xz7 h
        · rw [if_neg qz9] at h
          refine gx_iconst (v := 1) C dX4_changesSome_39 (by decide) ?_
          cases h
          exact gx_zret (Or.inr rfl) C dX4_changesSome_40
def gm_X4_changesSome (fu : Nat) (this : Nat) (p_0 : Int32) (l_1 : Int64) (X : gx_H) : Option (Int32 × gx_H) :=
  gm_X4_changesSome_3 fu  fu this p_0 l_1 (0 : Int32) X
set_option maxHeartbeats 1000000 in
set_option maxRecDepth 20000 in
theorem gc_X4_changesSome {l : Launch} {D : gx_D} (fu : Nat) (this : Nat) (p_0 : Int32) (l_1 : Int64) (X : gx_H) (r : Int32) (X2 : gx_H) (h : gm_X4_changesSome fu this p_0 l_1 X = some (r, X2)) : gx_M D gz_cl gz_at gz_tb gz_nb l yX4_changesSome cX4_changesSome 5 (some .boolean) 1 22 [gx_r (some this), gx_i p_0, gx_l l_1] X (some (gx_i r)) X2 0 0 := by
  unfold gm_X4_changesSome at h
  refine gx_enter [some (gx_r (some this)), some (gx_i p_0), some (gx_l l_1), none, none] rfl (by decide) (Nat.le_of_ble_eq_true rfl) ?_
  intro p e s m below meth c C _
  refine gx_iconst (v := 0) C dX4_changesSome_0 (by decide) ?_
  refine gx_istore (lv2 := [some (gx_r (some this)), some (gx_i p_0), some (gx_l l_1), none, some (gx_i (0 : Int32))]) C dX4_changesSome_1 (by decide) rfl ?_
  exact gt_X4_changesSome_3 C fu  fu this p_0 l_1 (0 : Int32) X h
