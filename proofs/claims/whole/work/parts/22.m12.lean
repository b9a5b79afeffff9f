/-! methods: X6_of, X6_range, X6_set, X6_size -/
theorem dX6_of_0 : decode cX6_of 0 = .ok (.aload_n 0, 1) := by decide +kernel
theorem dX6_of_1 : decode cX6_of 1 = .ok (.iconst 0, 1) := by decide +kernel
theorem dX6_of_2 : decode cX6_of 2 = .ok (.putfield 65, 3) := by decide +kernel
theorem dX6_of_5 : decode cX6_of 5 = .ok (.aload_n 0, 1) := by decide +kernel
theorem dX6_of_6 : decode cX6_of 6 = .ok (.iload_n 1, 1) := by decide +kernel
theorem dX6_of_7 : decode cX6_of 7 = .ok (.iload_n 2, 1) := by decide +kernel
theorem dX6_of_8 : decode cX6_of 8 = .ok (.iload_n 3, 1) := by decide +kernel
theorem dX6_of_9 : decode cX6_of 9 = .ok (.invokevirtual 132, 3) := by decide +kernel
theorem dX6_of_12 : decode cX6_of 12 = .ok (.istore 5, 2) := by decide +kernel
theorem dX6_of_14 : decode cX6_of 14 = .ok (.iload 5, 2) := by decide +kernel
theorem dX6_of_16 : decode cX6_of 16 = .ok (.iconst (-1), 1) := by decide +kernel
theorem dX6_of_17 : decode cX6_of 17 = .ok (.if_icmp .ne 5, 3) := by decide +kernel
theorem dX6_of_20 : decode cX6_of 20 = .ok (.iconst (-1), 1) := by decide +kernel
theorem dX6_of_21 : decode cX6_of 21 = .ok (.ireturn, 1) := by decide +kernel
theorem dX6_of_22 : decode cX6_of 22 = .ok (.sipush 1600, 3) := by decide +kernel
theorem dX6_of_25 : decode cX6_of 25 = .ok (.iload 5, 2) := by decide +kernel
theorem dX6_of_27 : decode cX6_of 27 = .ok (.imul, 1) := by decide +kernel
theorem dX6_of_28 : decode cX6_of 28 = .ok (.sipush 200, 3) := by decide +kernel
theorem dX6_of_31 : decode cX6_of 31 = .ok (.iload_n 2, 1) := by decide +kernel
theorem dX6_of_32 : decode cX6_of 32 = .ok (.imul, 1) := by decide +kernel
theorem dX6_of_33 : decode cX6_of 33 = .ok (.iadd, 1) := by decide +kernel
theorem dX6_of_34 : decode cX6_of 34 = .ok (.iload_n 3, 1) := by decide +kernel
theorem dX6_of_35 : decode cX6_of 35 = .ok (.iadd, 1) := by decide +kernel
theorem dX6_of_36 : decode cX6_of 36 = .ok (.istore 6, 2) := by decide +kernel
theorem dX6_of_38 : decode cX6_of 38 = .ok (.iload 4, 2) := by decide +kernel
theorem dX6_of_40 : decode cX6_of 40 = .ok (.tableswitch 104 0 4 #[36, 44, 52, 69, 86], 36) := by decide +kernel
theorem dX6_of_76 : decode cX6_of 76 = .ok (.aload_n 0, 1) := by decide +kernel
theorem dX6_of_77 : decode cX6_of 77 = .ok (.getfield 31, 3) := by decide +kernel
theorem dX6_of_80 : decode cX6_of 80 = .ok (.iload 6, 2) := by decide +kernel
theorem dX6_of_82 : decode cX6_of 82 = .ok (.iaload, 1) := by decide +kernel
theorem dX6_of_83 : decode cX6_of 83 = .ok (.ireturn, 1) := by decide +kernel
theorem dX6_of_84 : decode cX6_of 84 = .ok (.aload_n 0, 1) := by decide +kernel
theorem dX6_of_85 : decode cX6_of 85 = .ok (.getfield 34, 3) := by decide +kernel
theorem dX6_of_88 : decode cX6_of 88 = .ok (.iload 6, 2) := by decide +kernel
theorem dX6_of_90 : decode cX6_of 90 = .ok (.iaload, 1) := by decide +kernel
theorem dX6_of_91 : decode cX6_of 91 = .ok (.ireturn, 1) := by decide +kernel
theorem dX6_of_92 : decode cX6_of 92 = .ok (.aload_n 0, 1) := by decide +kernel
theorem dX6_of_93 : decode cX6_of 93 = .ok (.iload 5, 2) := by decide +kernel
theorem dX6_of_95 : decode cX6_of 95 = .ok (.iload_n 2, 1) := by decide +kernel
theorem dX6_of_96 : decode cX6_of 96 = .ok (.iload_n 3, 1) := by decide +kernel
theorem dX6_of_97 : decode cX6_of 97 = .ok (.invokevirtual 100, 3) := by decide +kernel
theorem dX6_of_100 : decode cX6_of 100 = .ok (.ifCond .eq 7, 3) := by decide +kernel
theorem dX6_of_103 : decode cX6_of 103 = .ok (.iconst 1, 1) := by decide +kernel
theorem dX6_of_104 : decode cX6_of 104 = .ok (.goto 4, 3) := by decide +kernel
theorem dX6_of_107 : decode cX6_of 107 = .ok (.iconst 0, 1) := by decide +kernel
theorem dX6_of_108 : decode cX6_of 108 = .ok (.ireturn, 1) := by decide +kernel
theorem dX6_of_109 : decode cX6_of 109 = .ok (.aload_n 0, 1) := by decide +kernel
theorem dX6_of_110 : decode cX6_of 110 = .ok (.iload 5, 2) := by decide +kernel
theorem dX6_of_112 : decode cX6_of 112 = .ok (.iload_n 2, 1) := by decide +kernel
theorem dX6_of_113 : decode cX6_of 113 = .ok (.iload_n 3, 1) := by decide +kernel
theorem dX6_of_114 : decode cX6_of 114 = .ok (.invokevirtual 119, 3) := by decide +kernel
theorem dX6_of_117 : decode cX6_of 117 = .ok (.ifCond .eq 7, 3) := by decide +kernel
theorem dX6_of_120 : decode cX6_of 120 = .ok (.iconst 1, 1) := by decide +kernel
theorem dX6_of_121 : decode cX6_of 121 = .ok (.goto 4, 3) := by decide +kernel
theorem dX6_of_124 : decode cX6_of 124 = .ok (.iconst 0, 1) := by decide +kernel
theorem dX6_of_125 : decode cX6_of 125 = .ok (.ireturn, 1) := by decide +kernel
theorem dX6_of_126 : decode cX6_of 126 = .ok (.aload_n 0, 1) := by decide +kernel
theorem dX6_of_127 : decode cX6_of 127 = .ok (.iload 5, 2) := by decide +kernel
theorem dX6_of_129 : decode cX6_of 129 = .ok (.invokevirtual 115, 3) := by decide +kernel
theorem dX6_of_132 : decode cX6_of 132 = .ok (.aload_n 0, 1) := by decide +kernel
theorem dX6_of_133 : decode cX6_of 133 = .ok (.aload_n 0, 1) := by decide +kernel
theorem dX6_of_134 : decode cX6_of 134 = .ok (.getfield 49, 3) := by decide +kernel
theorem dX6_of_137 : decode cX6_of 137 = .ok (.iload 6, 2) := by decide +kernel
theorem dX6_of_139 : decode cX6_of 139 = .ok (.laload, 1) := by decide +kernel
theorem dX6_of_140 : decode cX6_of 140 = .ok (.invokevirtual 136, 3) := by decide +kernel
theorem dX6_of_143 : decode cX6_of 143 = .ok (.ireturn, 1) := by decide +kernel
theorem dX6_of_144 : decode cX6_of 144 = .ok (.iconst (-1), 1) := by decide +kernel
theorem dX6_of_145 : decode cX6_of 145 = .ok (.ireturn, 1) := by decide +kernel
def gm_X6_of (fu : Nat) (this : Nat) (p_0 : Int32) (p_1 : Int32) (p_2 : Int32) (p_3 : Int32) (X : gx_H) : Option (Int32 × gx_H) :=
  (gx_pf X this 6 0 (.int (0 : Int32))).bind fun Xz1 =>
  gx_ob Xz1 this 6 <|
  gx_b2 (gm_X6_which fu this p_0 p_1 p_2 Xz1) fun vz4 Xz3 =>
  if vz4 = (-1 : Int32) then (
  some ((-1 : Int32), Xz3)) else (
  if p_3 = (0 : Int32) then (
  (gx_gd Xz3 this 6 7).bind fun az7 =>
  (gx_gai Xz3 az7 0 ((((1600 : Int32) * vz4) + ((200 : Int32) * p_1)) + p_2)).bind fun vz8 =>
  some (vz8, Xz3)) else (
  if p_3 = (1 : Int32) then (
  (gx_gd Xz3 this 6 8).bind fun az9 =>
  (gx_gai Xz3 az9 0 ((((1600 : Int32) * vz4) + ((200 : Int32) * p_1)) + p_2)).bind fun vz10 =>
  some (vz10, Xz3)) else (
  if p_3 = (2 : Int32) then (
  gx_ob Xz3 this 6 <|
  gx_b2 (gm_X6_isGuarded fu this vz4 p_1 p_2 Xz3) fun vz13 Xz12 =>
  if vz13 = 0 then (
  some ((0 : Int32), Xz12)) else (
  some ((1 : Int32), Xz12))) else (
  if p_3 = (3 : Int32) then (
  gx_ob Xz3 this 6 <|
  gx_b2 (gm_X6_needs fu this vz4 p_1 p_2 Xz3) fun vz17 Xz16 =>
  if vz17 = 0 then (
  some ((0 : Int32), Xz16)) else (
  some ((1 : Int32), Xz16))) else (
  if p_3 = (4 : Int32) then (
  gx_ob Xz3 this 6 <|
  (gm_X6_find fu this vz4 Xz3).bind fun Xz20 =>
  (gx_gd Xz20 this 6 14).bind fun az21 =>
  (gx_gal Xz20 az21 1 ((((1600 : Int32) * vz4) + ((200 : Int32) * p_1)) + p_2)).bind fun vz22 =>
  gx_ob Xz20 this 6 <|
  gx_b2 (gm_X6_bits fu this vz22 Xz20) fun vz25 Xz24 =>
  some (vz25, Xz24)) else (
  some ((-1 : Int32), Xz3)))))))
set_option maxHeartbeats 1000000 in
set_option maxRecDepth 20000 in
theorem gc_X6_of {l : Launch} {D : gx_D} (fu : Nat) (this : Nat) (p_0 : Int32) (p_1 : Int32) (p_2 : Int32) (p_3 : Int32) (X : gx_H) (r : Int32) (X2 : gx_H) (h : gm_X6_of fu this p_0 p_1 p_2 p_3 X = some (r, X2)) : gx_M D gz_cl gz_at gz_tb gz_nb l yX6_of cX6_of 7 (some .int) 5 135 [gx_r (some this), gx_i p_0, gx_i p_1, gx_i p_2, gx_i p_3] X (some (gx_i r)) X2 0 0 := by
  unfold gm_X6_of at h
  refine gx_enter [some (gx_r (some this)), some (gx_i p_0), some (gx_i p_1), some (gx_i p_2), some (gx_i p_3), none, none] rfl (by decide) (Nat.le_of_ble_eq_true rfl) ?_
  intro p e s m below meth c C _
  refine gx_aload_n C dX6_of_0 rfl rfl ?_
  refine gx_iconst (v := 0) C dX6_of_1 (by decide) ?_
  obtain ⟨Xz1, eXz1, h⟩ := gx_bd h
  refine gx_put C kcX6 0 (by decide) rfl wl_497 ⟨rfl, rfl⟩ eXz1 dX6_of_2 ?_
  refine gx_aload_n C dX6_of_5 rfl rfl ?_
  refine gx_iload_n C dX6_of_6 rfl rfl ?_
  refine gx_iload_n C dX6_of_7 rfl rfl ?_
  refine gx_iload_n C dX6_of_8 rfl rfl ?_
  obtain ⟨hoz2, h⟩ := gx_obs h
  obtain ⟨vz4, Xz3, eXz3, h⟩ := gx_bd2 h
  refine gx_callV (As := [gx_i p_0, gx_i p_1, gx_i p_2]) (st := []) (stk2 := [gx_i vz4]) C cd_X6_which wl_667 ws_X6_which wl_665 rfl hoz2 (gc_X6_which fu this p_0 p_1 p_2 Xz1 vz4 Xz3 eXz3) rfl ⟨Nat.le_of_ble_eq_true rfl, Nat.le_of_ble_eq_true rfl⟩ ⟨Nat.le_of_ble_eq_true rfl, Nat.le_of_ble_eq_true rfl⟩ (Nat.le_of_ble_eq_true rfl) rfl rfl dX6_of_9 ?_
  refine gx_istore (lv2 := [some (gx_r (some this)), some (gx_i p_0), some (gx_i p_1), some (gx_i p_2), some (gx_i p_3), some (gx_i vz4), none]) C dX6_of_12 (by decide) rfl ?_
  refine gx_iload C dX6_of_14 rfl ?_
  refine gx_iconst (v := -1) C dX6_of_16 (by decide) ?_
  refine gx_icmp_ne (tgt := 22) C dX6_of_17 (by decide) (fun qz5 => ?_) (fun qz5 => ?_)
  · rw [if_neg qz5] at h
    refine gx_sipush (v := 1600) C dX6_of_22 (by decide) ?_
    refine gx_iload C dX6_of_25 rfl ?_
    refine gx_imul C dX6_of_27 ?_
    refine gx_sipush (v := 200) C dX6_of_28 (by decide) ?_
    refine gx_iload_n C dX6_of_31 rfl rfl ?_
    refine gx_imul C dX6_of_32 ?_
    refine gx_iadd C dX6_of_33 ?_
    refine gx_iload_n C dX6_of_34 rfl rfl ?_
    refine gx_iadd C dX6_of_35 ?_
    refine gx_istore (lv2 := [some (gx_r (some this)), some (gx_i p_0), some (gx_i p_1), some (gx_i p_2), some (gx_i p_3), some (gx_i vz4), some (gx_i ((((1600 : Int32) * vz4) + ((200 : Int32) * p_1)) + p_2))]) C dX6_of_36 (by decide) rfl ?_
    refine gx_iload C dX6_of_38 rfl ?_
    by_cases qz6_0 : p_3 = (0 : Int32)
    · rw [if_pos qz6_0] at h
      refine gx_swIn (tgt := 76) (off := 36) C dX6_of_40 (by rw [qz6_0]; decide) (by rw [qz6_0]; decide) (by rw [qz6_0]; decide) (by decide) ?_
      refine gx_aload_n C dX6_of_76 rfl rfl ?_
      obtain ⟨az7, eaz7, h⟩ := gx_bd h
      refine gx_get C kcX6 7 (by decide) wl_504 (gx_gd_s eaz7) dX6_of_77 ?_
      refine gx_iload C dX6_of_80 rfl ?_
      obtain ⟨vz8, evz8, h⟩ := gx_bd h
      refine gx_iald C (t := 0) rfl evz8 dX6_of_82 ?_
      cases h
      exact gx_iret C dX6_of_83
    rw [if_neg qz6_0] at h
    by_cases qz6_1 : p_3 = (1 : Int32)
    · rw [if_pos qz6_1] at h
      refine gx_swIn (tgt := 84) (off := 44) C dX6_of_40 (by rw [qz6_1]; decide) (by rw [qz6_1]; decide) (by rw [qz6_1]; decide) (by decide) ?_
      refine gx_aload_n C dX6_of_84 rfl rfl ?_
      obtain ⟨az9, eaz9, h⟩ := gx_bd h
      refine gx_get C kcX6 8 (by decide) wl_505 (gx_gd_s eaz9) dX6_of_85 ?_
      refine gx_iload C dX6_of_88 rfl ?_
      obtain ⟨vz10, evz10, h⟩ := gx_bd h
      refine gx_iald C (t := 0) rfl evz10 dX6_of_90 ?_
      cases h
      exact gx_iret C dX6_of_91
    rw [if_neg qz6_1] at h
    by_cases qz6_2 : p_3 = (2 : Int32)
    · rw [if_pos qz6_2] at h
      refine gx_swIn (tgt := 92) (off := 52) C dX6_of_40 (by rw [qz6_2]; decide) (by rw [qz6_2]; decide) (by rw [qz6_2]; decide) (by decide) ?_
      refine gx_aload_n C dX6_of_92 rfl rfl ?_
      refine gx_iload C dX6_of_93 rfl ?_
      refine gx_iload_n C dX6_of_95 rfl rfl ?_
      refine gx_iload_n C dX6_of_96 rfl rfl ?_
      obtain ⟨hoz11, h⟩ := gx_obs h
      obtain ⟨vz13, Xz12, eXz12, h⟩ := gx_bd2 h
      refine gx_callV (As := [gx_i vz4, gx_i p_1, gx_i p_2]) (st := []) (stk2 := [gx_i vz13]) C cd_X6_isGuarded wl_639 ws_X6_isGuarded wl_637 rfl hoz11 (gc_X6_isGuarded fu this vz4 p_1 p_2 Xz3 vz13 Xz12 eXz12) rfl ⟨Nat.le_of_ble_eq_true rfl, Nat.le_of_ble_eq_true rfl⟩ ⟨Nat.le_of_ble_eq_true rfl, Nat.le_of_ble_eq_true rfl⟩ (Nat.le_of_ble_eq_true rfl) rfl rfl dX6_of_97 ?_
      refine gx_if_eq (tgt := 107) C dX6_of_100 (by decide) (fun qz14 => ?_) (fun qz14 => ?_)
      · rw [if_pos qz14] at h
        refine gx_iconst (v := 0) C dX6_of_107 (by decide) ?_
        cases h
        exact gx_iret C dX6_of_108
      · rw [if_neg qz14] at h
        refine gx_iconst (v := 1) C dX6_of_103 (by decide) ?_
        refine gx_goto (tgt := 108) C dX6_of_104 (by decide) ?_
        cases h
        exact gx_iret C dX6_of_108
    rw [if_neg qz6_2] at h
    by_cases qz6_3 : p_3 = (3 : Int32)
    · rw [if_pos qz6_3] at h
      refine gx_swIn (tgt := 109) (off := 69) C dX6_of_40 (by rw [qz6_3]; decide) (by rw [qz6_3]; decide) (by rw [qz6_3]; decide) (by decide) ?_
      refine gx_aload_n C dX6_of_109 rfl rfl ?_
      refine gx_iload C dX6_of_110 rfl ?_
      refine gx_iload_n C dX6_of_112 rfl rfl ?_
      refine gx_iload_n C dX6_of_113 rfl rfl ?_
      obtain ⟨hoz15, h⟩ := gx_obs h
      obtain ⟨vz17, Xz16, eXz16, h⟩ := gx_bd2 h
      refine gx_callV (As := [gx_i vz4, gx_i p_1, gx_i p_2]) (st := []) (stk2 := [gx_i vz17]) C cd_X6_needs wl_623 ws_X6_needs wl_621 rfl hoz15 (gc_X6_needs fu this vz4 p_1 p_2 Xz3 vz17 Xz16 eXz16) rfl ⟨Nat.le_of_ble_eq_true rfl, Nat.le_of_ble_eq_true rfl⟩ ⟨Nat.le_of_ble_eq_true rfl, Nat.le_of_ble_eq_true rfl⟩ (Nat.le_of_ble_eq_true rfl) rfl rfl dX6_of_114 ?_
      refine gx_if_eq (tgt := 124) C dX6_of_117 (by decide) (fun qz18 => ?_) (fun qz18 => ?_)
      · rw [if_pos qz18] at h
        refine gx_iconst (v := 0) C dX6_of_124 (by decide) ?_
        cases h
        exact gx_iret C dX6_of_125
      · rw [if_neg qz18] at h
        refine gx_iconst (v := 1) C dX6_of_120 (by decide) ?_
        refine gx_goto (tgt := 125) C dX6_of_121 (by decide) ?_
        cases h
        exact gx_iret C dX6_of_125
    rw [if_neg qz6_3] at h
    by_cases qz6_4 : p_3 = (4 : Int32)
    · rw [if_pos qz6_4] at h
      refine gx_swIn (tgt := 126) (off := 86) C dX6_of_40 (by rw [qz6_4]; decide) (by rw [qz6_4]; decide) (by rw [qz6_4]; decide) (by decide) ?_
      refine gx_aload_n C dX6_of_126 rfl rfl ?_
      refine gx_iload C dX6_of_127 rfl ?_
      obtain ⟨hoz19, h⟩ := gx_obs h
      obtain ⟨Xz20, eXz20, h⟩ := gx_bd h
      refine gx_callV (As := [gx_i vz4]) (st := []) (stk2 := []) C cd_X6_find wl_627 ws_X6_find wl_625 rfl hoz19 (gc_X6_find fu this vz4 Xz3 Xz20 eXz20) rfl ⟨Nat.le_of_ble_eq_true rfl, Nat.le_of_ble_eq_true rfl⟩ ⟨Nat.le_of_ble_eq_true rfl, Nat.le_of_ble_eq_true rfl⟩ (Nat.le_of_ble_eq_true rfl) rfl rfl dX6_of_129 ?_
      refine gx_aload_n C dX6_of_132 rfl rfl ?_
      refine gx_aload_n C dX6_of_133 rfl rfl ?_
      obtain ⟨az21, eaz21, h⟩ := gx_bd h
      refine gx_get C kcX6 14 (by decide) wl_511 (gx_gd_s eaz21) dX6_of_134 ?_
      refine gx_iload C dX6_of_137 rfl ?_
      obtain ⟨vz22, evz22, h⟩ := gx_bd h
      refine gx_lald C (t := 1) rfl evz22 dX6_of_139 ?_
      obtain ⟨hoz23, h⟩ := gx_obs h
      obtain ⟨vz25, Xz24, eXz24, h⟩ := gx_bd2 h
      refine gx_callV (As := [gx_l vz22]) (st := []) (stk2 := [gx_i vz25]) C cd_X6_bits wl_671 ws_X6_bits wl_669 rfl hoz23 (gc_X6_bits fu this vz22 Xz20 vz25 Xz24 eXz24) rfl ⟨Nat.le_of_ble_eq_true rfl, Nat.le_of_ble_eq_true rfl⟩ ⟨Nat.le_of_ble_eq_true rfl, Nat.le_of_ble_eq_true rfl⟩ (Nat.le_of_ble_eq_true rfl) rfl rfl dX6_of_140 ?_
      cases h
      exact gx_iret C dX6_of_143
    rw [if_neg qz6_4] at h
    refine gx_swOut (tgt := 144) C dX6_of_40 (by have n0 := lv_neT qz6_0 (a := 0) (by decide); have n1 := lv_neT qz6_1 (a := 1) (by decide); have n2 := lv_neT qz6_2 (a := 2) (by decide); have n3 := lv_neT qz6_3 (a := 3) (by decide); have n4 := lv_neT qz6_4 (a := 4) (by decide); omega) (by decide) ?_
    refine gx_iconst (v := -1) C dX6_of_144 (by decide) ?_
    cases h
    exact gx_iret C dX6_of_145
  · rw [if_pos qz5] at h
    refine gx_iconst (v := -1) C dX6_of_20 (by decide) ?_
    cases h
    exact gx_iret C dX6_of_21
theorem dX6_range_0 : decode cX6_range 0 = .ok (.aload_n 0, 1) := by decide +kernel
theorem dX6_range_1 : decode cX6_range 1 = .ok (.iconst 0, 1) := by decide +kernel
theorem dX6_range_2 : decode cX6_range 2 = .ok (.putfield 65, 3) := by decide +kernel
theorem dX6_range_5 : decode cX6_range 5 = .ok (.aload_n 0, 1) := by decide +kernel
theorem dX6_range_6 : decode cX6_range 6 = .ok (.iload_n 1, 1) := by decide +kernel
theorem dX6_range_7 : decode cX6_range 7 = .ok (.iload_n 2, 1) := by decide +kernel
theorem dX6_range_8 : decode cX6_range 8 = .ok (.iconst 0, 1) := by decide +kernel
theorem dX6_range_9 : decode cX6_range 9 = .ok (.invokevirtual 132, 3) := by decide +kernel
theorem dX6_range_12 : decode cX6_range 12 = .ok (.istore 5, 2) := by decide +kernel
theorem dX6_range_14 : decode cX6_range 14 = .ok (.iload 5, 2) := by decide +kernel
theorem dX6_range_16 : decode cX6_range 16 = .ok (.iconst (-1), 1) := by decide +kernel
theorem dX6_range_17 : decode cX6_range 17 = .ok (.if_icmp .eq 33, 3) := by decide +kernel
theorem dX6_range_20 : decode cX6_range 20 = .ok (.iload_n 3, 1) := by decide +kernel
theorem dX6_range_21 : decode cX6_range 21 = .ok (.ifCond .lt 29, 3) := by decide +kernel
theorem dX6_range_24 : decode cX6_range 24 = .ok (.iload_n 3, 1) := by decide +kernel
theorem dX6_range_25 : decode cX6_range 25 = .ok (.aload_n 0, 1) := by decide +kernel
theorem dX6_range_26 : decode cX6_range 26 = .ok (.getfield 28, 3) := by decide +kernel
theorem dX6_range_29 : decode cX6_range 29 = .ok (.iload 5, 2) := by decide +kernel
theorem dX6_range_31 : decode cX6_range 31 = .ok (.iconst (-1), 1) := by decide +kernel
theorem dX6_range_32 : decode cX6_range 32 = .ok (.if_icmp .ne 7, 3) := by decide +kernel
theorem dX6_range_35 : decode cX6_range 35 = .ok (.iconst 0, 1) := by decide +kernel
theorem dX6_range_36 : decode cX6_range 36 = .ok (.goto 10, 3) := by decide +kernel
theorem dX6_range_39 : decode cX6_range 39 = .ok (.bipush 8, 2) := by decide +kernel
theorem dX6_range_41 : decode cX6_range 41 = .ok (.iload 5, 2) := by decide +kernel
theorem dX6_range_43 : decode cX6_range 43 = .ok (.imul, 1) := by decide +kernel
theorem dX6_range_44 : decode cX6_range 44 = .ok (.iload_n 2, 1) := by decide +kernel
theorem dX6_range_45 : decode cX6_range 45 = .ok (.iadd, 1) := by decide +kernel
theorem dX6_range_46 : decode cX6_range 46 = .ok (.iaload, 1) := by decide +kernel
theorem dX6_range_47 : decode cX6_range 47 = .ok (.if_icmp .lt 5, 3) := by decide +kernel
theorem dX6_range_50 : decode cX6_range 50 = .ok (.iconst (-1), 1) := by decide +kernel
theorem dX6_range_51 : decode cX6_range 51 = .ok (.ireturn, 1) := by decide +kernel
theorem dX6_range_52 : decode cX6_range 52 = .ok (.bipush 6, 2) := by decide +kernel
theorem dX6_range_54 : decode cX6_range 54 = .ok (.bipush 8, 2) := by decide +kernel
theorem dX6_range_56 : decode cX6_range 56 = .ok (.iload 5, 2) := by decide +kernel
theorem dX6_range_58 : decode cX6_range 58 = .ok (.imul, 1) := by decide +kernel
theorem dX6_range_59 : decode cX6_range 59 = .ok (.iload_n 2, 1) := by decide +kernel
theorem dX6_range_60 : decode cX6_range 60 = .ok (.iadd, 1) := by decide +kernel
theorem dX6_range_61 : decode cX6_range 61 = .ok (.imul, 1) := by decide +kernel
theorem dX6_range_62 : decode cX6_range 62 = .ok (.iload_n 3, 1) := by decide +kernel
theorem dX6_range_63 : decode cX6_range 63 = .ok (.iadd, 1) := by decide +kernel
theorem dX6_range_64 : decode cX6_range 64 = .ok (.istore 6, 2) := by decide +kernel
theorem dX6_range_66 : decode cX6_range 66 = .ok (.iload 4, 2) := by decide +kernel
theorem dX6_range_68 : decode cX6_range 68 = .ok (.ifCond .ne 13, 3) := by decide +kernel
theorem dX6_range_71 : decode cX6_range 71 = .ok (.aload_n 0, 1) := by decide +kernel
theorem dX6_range_72 : decode cX6_range 72 = .ok (.getfield 37, 3) := by decide +kernel
theorem dX6_range_75 : decode cX6_range 75 = .ok (.iload 6, 2) := by decide +kernel
theorem dX6_range_77 : decode cX6_range 77 = .ok (.iaload, 1) := by decide +kernel
theorem dX6_range_78 : decode cX6_range 78 = .ok (.goto 36, 3) := by decide +kernel
theorem dX6_range_81 : decode cX6_range 81 = .ok (.iload 4, 2) := by decide +kernel
theorem dX6_range_83 : decode cX6_range 83 = .ok (.iconst 1, 1) := by decide +kernel
theorem dX6_range_84 : decode cX6_range 84 = .ok (.if_icmp .ne 13, 3) := by decide +kernel
theorem dX6_range_87 : decode cX6_range 87 = .ok (.aload_n 0, 1) := by decide +kernel
theorem dX6_range_88 : decode cX6_range 88 = .ok (.getfield 40, 3) := by decide +kernel
theorem dX6_range_91 : decode cX6_range 91 = .ok (.iload 6, 2) := by decide +kernel
theorem dX6_range_93 : decode cX6_range 93 = .ok (.iaload, 1) := by decide +kernel
theorem dX6_range_94 : decode cX6_range 94 = .ok (.goto 20, 3) := by decide +kernel
theorem dX6_range_97 : decode cX6_range 97 = .ok (.iload 4, 2) := by decide +kernel
theorem dX6_range_99 : decode cX6_range 99 = .ok (.iconst 2, 1) := by decide +kernel
theorem dX6_range_100 : decode cX6_range 100 = .ok (.if_icmp .ne 13, 3) := by decide +kernel
theorem dX6_range_103 : decode cX6_range 103 = .ok (.aload_n 0, 1) := by decide +kernel
theorem dX6_range_104 : decode cX6_range 104 = .ok (.getfield 43, 3) := by decide +kernel
theorem dX6_range_107 : decode cX6_range 107 = .ok (.iload 6, 2) := by decide +kernel
theorem dX6_range_109 : decode cX6_range 109 = .ok (.iaload, 1) := by decide +kernel
theorem dX6_range_110 : decode cX6_range 110 = .ok (.goto 4, 3) := by decide +kernel
theorem dX6_range_113 : decode cX6_range 113 = .ok (.iconst (-1), 1) := by decide +kernel
theorem dX6_range_114 : decode cX6_range 114 = .ok (.ireturn, 1) := by decide +kernel
def gm_X6_range_46 (fu : Nat) (a0 : Nat) (x2 : Int32) (x3 : Int32) (x4 : Int32) (x5 : Int32) (sx0 : Int32) (sa1 : Nat) (sx2 : Int32) (X : gx_H) : Option (Int32 × gx_H) :=
  (gx_gai X sa1 0 sx2).bind fun vz1 =>
  if sx0 < vz1 then (
  if x4 = 0 then (
  (gx_gd X a0 6 9).bind fun az10 =>
  (gx_gai X az10 0 (((6 : Int32) * (((8 : Int32) * x5) + x2)) + x3)).bind fun vz11 =>
  some (vz11, X)) else (
  if x4 = (1 : Int32) then (
  (gx_gd X a0 6 10).bind fun az8 =>
  (gx_gai X az8 0 (((6 : Int32) * (((8 : Int32) * x5) + x2)) + x3)).bind fun vz9 =>
  some (vz9, X)) else (
  if x4 = (2 : Int32) then (
  (gx_gd X a0 6 11).bind fun az6 =>
  (gx_gai X az6 0 (((6 : Int32) * (((8 : Int32) * x5) + x2)) + x3)).bind fun vz7 =>
  some (vz7, X)) else (
  some ((-1 : Int32), X))))) else (
  some ((-1 : Int32), X))
set_option maxHeartbeats 1000000 in
set_option maxRecDepth 20000 in
theorem gt_X6_range_46 {p : Program} {l : Launch} {e : Env} {s : State} {m : MethodId} {args : Array Value} {below : List Frame} {meth : Method} {c : Code} {D : gx_D} {r : Int32} {X2 : gx_H}  (C : gx_C D gz_cl gz_at gz_tb gz_nb p s m meth c cX6_range 7 RX6 (some .int)) (fu : Nat) (a0 : Nat) (x2 : Int32) (x3 : Int32) (x4 : Int32) (x5 : Int32) (sx0 : Int32) (sa1 : Nat) (sx2 : Int32) (X : gx_H) (h : gm_X6_range_46 fu  a0 x2 x3 x4 x5 sx0 sa1 sx2 X = some (r, X2)) : gx_W D gz_cl 7 p l e (gx_rm 2 47 0 0) s m args below meth c 0 0 (MQ below (gx_Q D gz_cl (some (gx_i r)) X2) args s 0 0 (gx_Z D)) X 46 [some (gx_r (some a0)), none, some (gx_i x2), some (gx_i x3), some (gx_i x4), some (gx_i x5), none] [gx_i sx2, gx_r (some sa1), gx_i sx0] := by
  unfold gm_X6_range_46 at h
  obtain ⟨vz1, evz1, h⟩ := gx_bd h
  refine gx_iald C (t := 0) rfl evz1 dX6_range_46 ?_
  refine gx_icmp_lt (tgt := 52) C dX6_range_47 (by decide) (fun qz2 => ?_) (fun qz2 => ?_)
  · rw [if_pos qz2] at h
    refine gx_bipush (v := 6) C dX6_range_52 (by decide) ?_
    refine gx_bipush (v := 8) C dX6_range_54 (by decide) ?_
    refine gx_iload C dX6_range_56 rfl ?_
    refine gx_imul C dX6_range_58 ?_
    refine gx_iload_n C dX6_range_59 rfl rfl ?_
    refine gx_iadd C dX6_range_60 ?_
    refine gx_imul C dX6_range_61 ?_
    refine gx_iload_n C dX6_range_62 rfl rfl ?_
    refine gx_iadd C dX6_range_63 ?_
    refine gx_istore (lv2 := [some (gx_r (some a0)), none, some (gx_i x2), some (gx_i x3), some (gx_i x4), some (gx_i x5), some (gx_i (((6 : Int32) * (((8 : Int32) * x5) + x2)) + x3))]) C dX6_range_64 (by decide) rfl ?_
    refine gx_iload C dX6_range_66 rfl ?_
    refine gx_if_ne (tgt := 81) C dX6_range_68 (by decide) (fun qz3 => ?_) (fun qz3 => ?_)
    · rw [if_neg qz3] at h
      refine gx_iload C dX6_range_81 rfl ?_
      refine gx_iconst (v := 1) C dX6_range_83 (by decide) ?_
      refine gx_icmp_ne (tgt := 97) C dX6_range_84 (by decide) (fun qz4 => ?_) (fun qz4 => ?_)
      · rw [if_neg qz4] at h
        refine gx_iload C dX6_range_97 rfl ?_
        refine gx_iconst (v := 2) C dX6_range_99 (by decide) ?_
        refine gx_icmp_ne (tgt := 113) C dX6_range_100 (by decide) (fun qz5 => ?_) (fun qz5 => ?_)
        · rw [if_neg qz5] at h
          refine gx_iconst (v := -1) C dX6_range_113 (by decide) ?_
          cases h
          exact gx_iret C dX6_range_114
        · rw [if_pos qz5] at h
          refine gx_aload_n C dX6_range_103 rfl rfl ?_
          obtain ⟨az6, eaz6, h⟩ := gx_bd h
          refine gx_get C kcX6 11 (by decide) wl_508 (gx_gd_s eaz6) dX6_range_104 ?_
          refine gx_iload C dX6_range_107 rfl ?_
          obtain ⟨vz7, evz7, h⟩ := gx_bd h
          refine gx_iald C (t := 0) rfl evz7 dX6_range_109 ?_
          refine gx_goto (tgt := 114) C dX6_range_110 (by decide) ?_
          cases h
          exact gx_iret C dX6_range_114
      · rw [if_pos qz4] at h
        refine gx_aload_n C dX6_range_87 rfl rfl ?_
        obtain ⟨az8, eaz8, h⟩ := gx_bd h
        refine gx_get C kcX6 10 (by decide) wl_507 (gx_gd_s eaz8) dX6_range_88 ?_
        refine gx_iload C dX6_range_91 rfl ?_
        obtain ⟨vz9, evz9, h⟩ := gx_bd h
        refine gx_iald C (t := 0) rfl evz9 dX6_range_93 ?_
        refine gx_goto (tgt := 114) C dX6_range_94 (by decide) ?_
        cases h
        exact gx_iret C dX6_range_114
    · rw [if_pos qz3] at h
      refine gx_aload_n C dX6_range_71 rfl rfl ?_
      obtain ⟨az10, eaz10, h⟩ := gx_bd h
      refine gx_get C kcX6 9 (by decide) wl_506 (gx_gd_s eaz10) dX6_range_72 ?_
      refine gx_iload C dX6_range_75 rfl ?_
      obtain ⟨vz11, evz11, h⟩ := gx_bd h
      refine gx_iald C (t := 0) rfl evz11 dX6_range_77 ?_
      refine gx_goto (tgt := 114) C dX6_range_78 (by decide) ?_
      cases h
      exact gx_iret C dX6_range_114
  · rw [if_neg qz2] at h
    refine gx_iconst (v := -1) C dX6_range_50 (by decide) ?_
    cases h
    exact gx_iret C dX6_range_51
def gm_X6_range (fu : Nat) (this : Nat) (p_0 : Int32) (p_1 : Int32) (p_2 : Int32) (p_3 : Int32) (X : gx_H) : Option (Int32 × gx_H) :=
  (gx_pf X this 6 0 (.int (0 : Int32))).bind fun Xz12 =>
  gx_ob Xz12 this 6 <|
  gx_b2 (gm_X6_which fu this p_0 p_1 (0 : Int32) Xz12) fun vz15 Xz14 =>
  if vz15 = (-1 : Int32) then (
  some ((-1 : Int32), Xz14)) else (
  if p_2 < 0 then (
  some ((-1 : Int32), Xz14)) else (
  (gx_gd Xz14 this 6 6).bind fun az18 =>
  if vz15 = (-1 : Int32) then (
  gm_X6_range_46 fu  this p_1 p_2 p_3 vz15 p_2 az18 (0 : Int32) Xz14) else (
  gm_X6_range_46 fu  this p_1 p_2 p_3 vz15 p_2 az18 (((8 : Int32) * vz15) + p_1) Xz14)))
set_option maxHeartbeats 1000000 in
set_option maxRecDepth 20000 in
theorem gc_X6_range {l : Launch} {D : gx_D} (fu : Nat) (this : Nat) (p_0 : Int32) (p_1 : Int32) (p_2 : Int32) (p_3 : Int32) (X : gx_H) (r : Int32) (X2 : gx_H) (h : gm_X6_range fu this p_0 p_1 p_2 p_3 X = some (r, X2)) : gx_M D gz_cl gz_at gz_tb gz_nb l yX6_range cX6_range 7 (some .int) 2 47 [gx_r (some this), gx_i p_0, gx_i p_1, gx_i p_2, gx_i p_3] X (some (gx_i r)) X2 0 0 := by
  unfold gm_X6_range at h
  refine gx_enter [some (gx_r (some this)), some (gx_i p_0), some (gx_i p_1), some (gx_i p_2), some (gx_i p_3), none, none] rfl (by decide) (Nat.le_of_ble_eq_true rfl) ?_
  intro p e s m below meth c C _
  refine gx_aload_n C dX6_range_0 rfl rfl ?_
  refine gx_iconst (v := 0) C dX6_range_1 (by decide) ?_
  obtain ⟨Xz12, eXz12, h⟩ := gx_bd h
  refine gx_put C kcX6 0 (by decide) rfl wl_497 ⟨rfl, rfl⟩ eXz12 dX6_range_2 ?_
  refine gx_aload_n C dX6_range_5 rfl rfl ?_
  refine gx_iload_n C dX6_range_6 rfl rfl ?_
  refine gx_iload_n C dX6_range_7 rfl rfl ?_
  refine gx_iconst (v := 0) C dX6_range_8 (by decide) ?_
  obtain ⟨hoz13, h⟩ := gx_obs h
  obtain ⟨vz15, Xz14, eXz14, h⟩ := gx_bd2 h
  refine gx_callV (As := [gx_i p_0, gx_i p_1, gx_i (0 : Int32)]) (st := []) (stk2 := [gx_i vz15]) C cd_X6_which wl_667 ws_X6_which wl_665 rfl hoz13 (gc_X6_which fu this p_0 p_1 (0 : Int32) Xz12 vz15 Xz14 eXz14) rfl ⟨Nat.le_of_ble_eq_true rfl, Nat.le_of_ble_eq_true rfl⟩ ⟨Nat.le_of_ble_eq_true rfl, Nat.le_of_ble_eq_true rfl⟩ (Nat.le_of_ble_eq_true rfl) rfl rfl dX6_range_9 ?_
  refine gx_istore (lv2 := [some (gx_r (some this)), some (gx_i p_0), some (gx_i p_1), some (gx_i p_2), some (gx_i p_3), some (gx_i vz15), none]) C dX6_range_12 (by decide) rfl ?_
  refine gx_iload C dX6_range_14 rfl ?_
  refine gx_iconst (v := -1) C dX6_range_16 (by decide) ?_
  refine gx_icmp_eq (tgt := 50) C dX6_range_17 (by decide) (fun qz16 => ?_) (fun qz16 => ?_)
  · rw [if_pos qz16] at h
    refine gx_iconst (v := -1) C dX6_range_50 (by decide) ?_
    cases h
    exact gx_iret C dX6_range_51
  · rw [if_neg qz16] at h
    refine gx_iload_n C dX6_range_20 rfl rfl ?_
    refine gx_if_lt (tgt := 50) C dX6_range_21 (by decide) (fun qz17 => ?_) (fun qz17 => ?_)
    · rw [if_pos qz17] at h
      refine gx_iconst (v := -1) C dX6_range_50 (by decide) ?_
      cases h
      exact gx_iret C dX6_range_51
    · rw [if_neg qz17] at h
      refine gx_iload_n C dX6_range_24 rfl rfl ?_
      refine gx_aload_n C dX6_range_25 rfl rfl ?_
      obtain ⟨az18, eaz18, h⟩ := gx_bd h
      refine gx_get C kcX6 6 (by decide) wl_503 (gx_gd_s eaz18) dX6_range_26 ?_
      refine gx_iload C dX6_range_29 rfl ?_
      refine gx_iconst (v := -1) C dX6_range_31 (by decide) ?_
      refine gx_icmp_ne (tgt := 39) C dX6_range_32 (by decide) (fun qz19 => ?_) (fun qz19 => ?_)
      · rw [if_neg qz19] at h
        refine gx_bipush (v := 8) C dX6_range_39 (by decide) ?_
        refine gx_iload C dX6_range_41 rfl ?_
        refine gx_imul C dX6_range_43 ?_
        refine gx_iload_n C dX6_range_44 rfl rfl ?_
        refine gx_iadd C dX6_range_45 ?_
        refine gx_sub (lv2 := [some (gx_r (some this)), none, some (gx_i p_1), some (gx_i p_2), some (gx_i p_3), some (gx_i vz15), none]) [true, false, true, true, true, true, false] rfl ?_
        exact gt_X6_range_46 C fu  this p_1 p_2 p_3 vz15 p_2 az18 (((8 : Int32) * vz15) + p_1) Xz14 h
      · rw [if_pos qz19] at h
        refine gx_iconst (v := 0) C dX6_range_35 (by decide) ?_
        refine gx_goto (tgt := 46) C dX6_range_36 (by decide) ?_
        refine gx_sub (lv2 := [some (gx_r (some this)), none, some (gx_i p_1), some (gx_i p_2), some (gx_i p_3), some (gx_i vz15), none]) [true, false, true, true, true, true, false] rfl ?_
        exact gt_X6_range_46 C fu  this p_1 p_2 p_3 vz15 p_2 az18 (0 : Int32) Xz14 h
theorem dX6_set_0 : decode cX6_set 0 = .ok (.aload_n 0, 1) := by decide +kernel
theorem dX6_set_1 : decode cX6_set 1 = .ok (.iconst 0, 1) := by decide +kernel
theorem dX6_set_2 : decode cX6_set 2 = .ok (.putfield 65, 3) := by decide +kernel
theorem dX6_set_5 : decode cX6_set 5 = .ok (.aload_n 0, 1) := by decide +kernel
theorem dX6_set_6 : decode cX6_set 6 = .ok (.iload_n 1, 1) := by decide +kernel
theorem dX6_set_7 : decode cX6_set 7 = .ok (.iload_n 2, 1) := by decide +kernel
theorem dX6_set_8 : decode cX6_set 8 = .ok (.iconst 0, 1) := by decide +kernel
theorem dX6_set_9 : decode cX6_set 9 = .ok (.invokevirtual 132, 3) := by decide +kernel
theorem dX6_set_12 : decode cX6_set 12 = .ok (.istore 4, 2) := by decide +kernel
theorem dX6_set_14 : decode cX6_set 14 = .ok (.iload 4, 2) := by decide +kernel
theorem dX6_set_16 : decode cX6_set 16 = .ok (.iconst (-1), 1) := by decide +kernel
theorem dX6_set_17 : decode cX6_set 17 = .ok (.if_icmp .ne 5, 3) := by decide +kernel
theorem dX6_set_20 : decode cX6_set 20 = .ok (.lconst 0, 1) := by decide +kernel
theorem dX6_set_21 : decode cX6_set 21 = .ok (.lreturn, 1) := by decide +kernel
theorem dX6_set_22 : decode cX6_set 22 = .ok (.aload_n 0, 1) := by decide +kernel
theorem dX6_set_23 : decode cX6_set 23 = .ok (.iload 4, 2) := by decide +kernel
theorem dX6_set_25 : decode cX6_set 25 = .ok (.invokevirtual 115, 3) := by decide +kernel
theorem dX6_set_28 : decode cX6_set 28 = .ok (.iload_n 3, 1) := by decide +kernel
theorem dX6_set_29 : decode cX6_set 29 = .ok (.ifCond .ne 18, 3) := by decide +kernel
theorem dX6_set_32 : decode cX6_set 32 = .ok (.aload_n 0, 1) := by decide +kernel
theorem dX6_set_33 : decode cX6_set 33 = .ok (.getfield 53, 3) := by decide +kernel
theorem dX6_set_36 : decode cX6_set 36 = .ok (.bipush 8, 2) := by decide +kernel
theorem dX6_set_38 : decode cX6_set 38 = .ok (.iload 4, 2) := by decide +kernel
theorem dX6_set_40 : decode cX6_set 40 = .ok (.imul, 1) := by decide +kernel
theorem dX6_set_41 : decode cX6_set 41 = .ok (.iload_n 2, 1) := by decide +kernel
theorem dX6_set_42 : decode cX6_set 42 = .ok (.iadd, 1) := by decide +kernel
theorem dX6_set_43 : decode cX6_set 43 = .ok (.laload, 1) := by decide +kernel
theorem dX6_set_44 : decode cX6_set 44 = .ok (.goto 44, 3) := by decide +kernel
theorem dX6_set_47 : decode cX6_set 47 = .ok (.iload_n 3, 1) := by decide +kernel
theorem dX6_set_48 : decode cX6_set 48 = .ok (.iconst 1, 1) := by decide +kernel
theorem dX6_set_49 : decode cX6_set 49 = .ok (.if_icmp .ne 18, 3) := by decide +kernel
theorem dX6_set_52 : decode cX6_set 52 = .ok (.aload_n 0, 1) := by decide +kernel
theorem dX6_set_53 : decode cX6_set 53 = .ok (.getfield 56, 3) := by decide +kernel
theorem dX6_set_56 : decode cX6_set 56 = .ok (.bipush 8, 2) := by decide +kernel
theorem dX6_set_58 : decode cX6_set 58 = .ok (.iload 4, 2) := by decide +kernel
theorem dX6_set_60 : decode cX6_set 60 = .ok (.imul, 1) := by decide +kernel
theorem dX6_set_61 : decode cX6_set 61 = .ok (.iload_n 2, 1) := by decide +kernel
theorem dX6_set_62 : decode cX6_set 62 = .ok (.iadd, 1) := by decide +kernel
theorem dX6_set_63 : decode cX6_set 63 = .ok (.laload, 1) := by decide +kernel
theorem dX6_set_64 : decode cX6_set 64 = .ok (.goto 24, 3) := by decide +kernel
theorem dX6_set_67 : decode cX6_set 67 = .ok (.iload_n 3, 1) := by decide +kernel
theorem dX6_set_68 : decode cX6_set 68 = .ok (.iconst 2, 1) := by decide +kernel
theorem dX6_set_69 : decode cX6_set 69 = .ok (.if_icmp .ne 18, 3) := by decide +kernel
theorem dX6_set_72 : decode cX6_set 72 = .ok (.aload_n 0, 1) := by decide +kernel
theorem dX6_set_73 : decode cX6_set 73 = .ok (.getfield 59, 3) := by decide +kernel
theorem dX6_set_76 : decode cX6_set 76 = .ok (.bipush 8, 2) := by decide +kernel
theorem dX6_set_78 : decode cX6_set 78 = .ok (.iload 4, 2) := by decide +kernel
theorem dX6_set_80 : decode cX6_set 80 = .ok (.imul, 1) := by decide +kernel
theorem dX6_set_81 : decode cX6_set 81 = .ok (.iload_n 2, 1) := by decide +kernel
theorem dX6_set_82 : decode cX6_set 82 = .ok (.iadd, 1) := by decide +kernel
theorem dX6_set_83 : decode cX6_set 83 = .ok (.laload, 1) := by decide +kernel
theorem dX6_set_84 : decode cX6_set 84 = .ok (.goto 4, 3) := by decide +kernel
theorem dX6_set_87 : decode cX6_set 87 = .ok (.lconst 0, 1) := by decide +kernel
theorem dX6_set_88 : decode cX6_set 88 = .ok (.lreturn, 1) := by decide +kernel
def gm_X6_set (fu : Nat) (this : Nat) (p_0 : Int32) (p_1 : Int32) (p_2 : Int32) (X : gx_H) : Option (Int64 × gx_H) :=
  (gx_pf X this 6 0 (.int (0 : Int32))).bind fun Xz1 =>
  gx_ob Xz1 this 6 <|
  gx_b2 (gm_X6_which fu this p_0 p_1 (0 : Int32) Xz1) fun vz4 Xz3 =>
  if vz4 = (-1 : Int32) then (
  some ((0 : Int64), Xz3)) else (
  gx_ob Xz3 this 6 <|
  (gm_X6_find fu this vz4 Xz3).bind fun Xz7 =>
  if p_2 = 0 then (
  (gx_gd Xz7 this 6 15).bind fun az15 =>
  (gx_gal Xz7 az15 1 (((8 : Int32) * vz4) + p_1)).bind fun vz16 =>
  some (vz16, Xz7)) else (
  if p_2 = (1 : Int32) then (
  (gx_gd Xz7 this 6 16).bind fun az13 =>
  (gx_gal Xz7 az13 1 (((8 : Int32) * vz4) + p_1)).bind fun vz14 =>
  some (vz14, Xz7)) else (
  if p_2 = (2 : Int32) then (
  (gx_gd Xz7 this 6 17).bind fun az11 =>
  (gx_gal Xz7 az11 1 (((8 : Int32) * vz4) + p_1)).bind fun vz12 =>
  some (vz12, Xz7)) else (
  some ((0 : Int64), Xz7)))))
set_option maxHeartbeats 1000000 in
set_option maxRecDepth 20000 in
theorem gc_X6_set {l : Launch} {D : gx_D} (fu : Nat) (this : Nat) (p_0 : Int32) (p_1 : Int32) (p_2 : Int32) (X : gx_H) (r : Int64) (X2 : gx_H) (h : gm_X6_set fu this p_0 p_1 p_2 X = some (r, X2)) : gx_M D gz_cl gz_at gz_tb gz_nb l yX6_set cX6_set 5 (some .long) 4 106 [gx_r (some this), gx_i p_0, gx_i p_1, gx_i p_2] X (some (gx_l r)) X2 0 0 := by
  unfold gm_X6_set at h
  refine gx_enter [some (gx_r (some this)), some (gx_i p_0), some (gx_i p_1), some (gx_i p_2), none] rfl (by decide) (Nat.le_of_ble_eq_true rfl) ?_
  intro p e s m below meth c C _
  refine gx_aload_n C dX6_set_0 rfl rfl ?_
  refine gx_iconst (v := 0) C dX6_set_1 (by decide) ?_
  obtain ⟨Xz1, eXz1, h⟩ := gx_bd h
  refine gx_put C kcX6 0 (by decide) rfl wl_497 ⟨rfl, rfl⟩ eXz1 dX6_set_2 ?_
  refine gx_aload_n C dX6_set_5 rfl rfl ?_
  refine gx_iload_n C dX6_set_6 rfl rfl ?_
  refine gx_iload_n C dX6_set_7 rfl rfl ?_
  refine gx_iconst (v := 0) C dX6_set_8 (by decide) ?_
  obtain ⟨hoz2, h⟩ := gx_obs h
  obtain ⟨vz4, Xz3, eXz3, h⟩ := gx_bd2 h
  refine gx_callV (As := [gx_i p_0, gx_i p_1, gx_i (0 : Int32)]) (st := []) (stk2 := [gx_i vz4]) C cd_X6_which wl_667 ws_X6_which wl_665 rfl hoz2 (gc_X6_which fu this p_0 p_1 (0 : Int32) Xz1 vz4 Xz3 eXz3) rfl ⟨Nat.le_of_ble_eq_true rfl, Nat.le_of_ble_eq_true rfl⟩ ⟨Nat.le_of_ble_eq_true rfl, Nat.le_of_ble_eq_true rfl⟩ (Nat.le_of_ble_eq_true rfl) rfl rfl dX6_set_9 ?_
  refine gx_istore (lv2 := [some (gx_r (some this)), some (gx_i p_0), some (gx_i p_1), some (gx_i p_2), some (gx_i vz4)]) C dX6_set_12 (by decide) rfl ?_
  refine gx_iload C dX6_set_14 rfl ?_
  refine gx_iconst (v := -1) C dX6_set_16 (by decide) ?_
  refine gx_icmp_ne (tgt := 22) C dX6_set_17 (by decide) (fun qz5 => ?_) (fun qz5 => ?_)
  · rw [if_neg qz5] at h
    refine gx_aload_n C dX6_set_22 rfl rfl ?_
    refine gx_iload C dX6_set_23 rfl ?_
    obtain ⟨hoz6, h⟩ := gx_obs h
    obtain ⟨Xz7, eXz7, h⟩ := gx_bd h
    refine gx_callV (As := [gx_i vz4]) (st := []) (stk2 := []) C cd_X6_find wl_627 ws_X6_find wl_625 rfl hoz6 (gc_X6_find fu this vz4 Xz3 Xz7 eXz7) rfl ⟨Nat.le_of_ble_eq_true rfl, Nat.le_of_ble_eq_true rfl⟩ ⟨Nat.le_of_ble_eq_true rfl, Nat.le_of_ble_eq_true rfl⟩ (Nat.le_of_ble_eq_true rfl) rfl rfl dX6_set_25 ?_
    refine gx_iload_n C dX6_set_28 rfl rfl ?_
    refine gx_if_ne (tgt := 47) C dX6_set_29 (by decide) (fun qz8 => ?_) (fun qz8 => ?_)
    · rw [if_neg qz8] at h
      refine gx_iload_n C dX6_set_47 rfl rfl ?_
      refine gx_iconst (v := 1) C dX6_set_48 (by decide) ?_
      refine gx_icmp_ne (tgt := 67) C dX6_set_49 (by decide) (fun qz9 => ?_) (fun qz9 => ?_)
      · rw [if_neg qz9] at h
        refine gx_iload_n C dX6_set_67 rfl rfl ?_
        refine gx_iconst (v := 2) C dX6_set_68 (by decide) ?_
        refine gx_icmp_ne (tgt := 87) C dX6_set_69 (by decide) (fun qz10 => ?_) (fun qz10 => ?_)
        · rw [if_neg qz10] at h
          refine gx_lconst (v := 0) C dX6_set_87 (by decide) ?_
          cases h
          exact gx_lret C dX6_set_88
        · rw [if_pos qz10] at h
          refine gx_aload_n C dX6_set_72 rfl rfl ?_
          obtain ⟨az11, eaz11, h⟩ := gx_bd h
          refine gx_get C kcX6 17 (by decide) wl_514 (gx_gd_s eaz11) dX6_set_73 ?_
          refine gx_bipush (v := 8) C dX6_set_76 (by decide) ?_
          refine gx_iload C dX6_set_78 rfl ?_
          refine gx_imul C dX6_set_80 ?_
          refine gx_iload_n C dX6_set_81 rfl rfl ?_
          refine gx_iadd C dX6_set_82 ?_
          obtain ⟨vz12, evz12, h⟩ := gx_bd h
          refine gx_lald C (t := 1) rfl evz12 dX6_set_83 ?_
          refine gx_goto (tgt := 88) C dX6_set_84 (by decide) ?_
          cases h
          exact gx_lret C dX6_set_88
      · rw [if_pos qz9] at h
        refine gx_aload_n C dX6_set_52 rfl rfl ?_
        obtain ⟨az13, eaz13, h⟩ := gx_bd h
        refine gx_get C kcX6 16 (by decide) wl_513 (gx_gd_s eaz13) dX6_set_53 ?_
        refine gx_bipush (v := 8) C dX6_set_56 (by decide) ?_
        refine gx_iload C dX6_set_58 rfl ?_
        refine gx_imul C dX6_set_60 ?_
        refine gx_iload_n C dX6_set_61 rfl rfl ?_
        refine gx_iadd C dX6_set_62 ?_
        obtain ⟨vz14, evz14, h⟩ := gx_bd h
        refine gx_lald C (t := 1) rfl evz14 dX6_set_63 ?_
        refine gx_goto (tgt := 88) C dX6_set_64 (by decide) ?_
        cases h
        exact gx_lret C dX6_set_88
    · rw [if_pos qz8] at h
      refine gx_aload_n C dX6_set_32 rfl rfl ?_
      obtain ⟨az15, eaz15, h⟩ := gx_bd h
      refine gx_get C kcX6 15 (by decide) wl_512 (gx_gd_s eaz15) dX6_set_33 ?_
      refine gx_bipush (v := 8) C dX6_set_36 (by decide) ?_
      refine gx_iload C dX6_set_38 rfl ?_
      refine gx_imul C dX6_set_40 ?_
      refine gx_iload_n C dX6_set_41 rfl rfl ?_
      refine gx_iadd C dX6_set_42 ?_
      obtain ⟨vz16, evz16, h⟩ := gx_bd h
      refine gx_lald C (t := 1) rfl evz16 dX6_set_43 ?_
      refine gx_goto (tgt := 88) C dX6_set_44 (by decide) ?_
      cases h
      exact gx_lret C dX6_set_88
  · rw [if_pos qz5] at h
    refine gx_lconst (v := 0) C dX6_set_20 (by decide) ?_
    cases h
    exact gx_lret C dX6_set_21
theorem dX6_size_0 : decode cX6_size 0 = .ok (.aload_n 0, 1) := by decide +kernel
theorem dX6_size_1 : decode cX6_size 1 = .ok (.iconst 0, 1) := by decide +kernel
theorem dX6_size_2 : decode cX6_size 2 = .ok (.putfield 65, 3) := by decide +kernel
theorem dX6_size_5 : decode cX6_size 5 = .ok (.aload_n 0, 1) := by decide +kernel
theorem dX6_size_6 : decode cX6_size 6 = .ok (.iload_n 1, 1) := by decide +kernel
theorem dX6_size_7 : decode cX6_size 7 = .ok (.iload_n 2, 1) := by decide +kernel
theorem dX6_size_8 : decode cX6_size 8 = .ok (.iconst 0, 1) := by decide +kernel
theorem dX6_size_9 : decode cX6_size 9 = .ok (.invokevirtual 132, 3) := by decide +kernel
theorem dX6_size_12 : decode cX6_size 12 = .ok (.istore 4, 2) := by decide +kernel
theorem dX6_size_14 : decode cX6_size 14 = .ok (.iload 4, 2) := by decide +kernel
theorem dX6_size_16 : decode cX6_size 16 = .ok (.iconst (-1), 1) := by decide +kernel
theorem dX6_size_17 : decode cX6_size 17 = .ok (.if_icmp .ne 5, 3) := by decide +kernel
theorem dX6_size_20 : decode cX6_size 20 = .ok (.iconst (-1), 1) := by decide +kernel
theorem dX6_size_21 : decode cX6_size 21 = .ok (.ireturn, 1) := by decide +kernel
theorem dX6_size_22 : decode cX6_size 22 = .ok (.iload_n 3, 1) := by decide +kernel
theorem dX6_size_23 : decode cX6_size 23 = .ok (.tableswitch 85 0 4 #[33, 46, 59, 68, 77], 33) := by decide +kernel
theorem dX6_size_56 : decode cX6_size 56 = .ok (.aload_n 0, 1) := by decide +kernel
theorem dX6_size_57 : decode cX6_size 57 = .ok (.getfield 25, 3) := by decide +kernel
theorem dX6_size_60 : decode cX6_size 60 = .ok (.bipush 8, 2) := by decide +kernel
theorem dX6_size_62 : decode cX6_size 62 = .ok (.iload 4, 2) := by decide +kernel
theorem dX6_size_64 : decode cX6_size 64 = .ok (.imul, 1) := by decide +kernel
theorem dX6_size_65 : decode cX6_size 65 = .ok (.iload_n 2, 1) := by decide +kernel
theorem dX6_size_66 : decode cX6_size 66 = .ok (.iadd, 1) := by decide +kernel
theorem dX6_size_67 : decode cX6_size 67 = .ok (.iaload, 1) := by decide +kernel
theorem dX6_size_68 : decode cX6_size 68 = .ok (.ireturn, 1) := by decide +kernel
theorem dX6_size_69 : decode cX6_size 69 = .ok (.aload_n 0, 1) := by decide +kernel
theorem dX6_size_70 : decode cX6_size 70 = .ok (.getfield 28, 3) := by decide +kernel
theorem dX6_size_73 : decode cX6_size 73 = .ok (.bipush 8, 2) := by decide +kernel
theorem dX6_size_75 : decode cX6_size 75 = .ok (.iload 4, 2) := by decide +kernel
theorem dX6_size_77 : decode cX6_size 77 = .ok (.imul, 1) := by decide +kernel
theorem dX6_size_78 : decode cX6_size 78 = .ok (.iload_n 2, 1) := by decide +kernel
theorem dX6_size_79 : decode cX6_size 79 = .ok (.iadd, 1) := by decide +kernel
theorem dX6_size_80 : decode cX6_size 80 = .ok (.iaload, 1) := by decide +kernel
theorem dX6_size_81 : decode cX6_size 81 = .ok (.ireturn, 1) := by decide +kernel
theorem dX6_size_82 : decode cX6_size 82 = .ok (.aload_n 0, 1) := by decide +kernel
theorem dX6_size_83 : decode cX6_size 83 = .ok (.iload 4, 2) := by decide +kernel
theorem dX6_size_85 : decode cX6_size 85 = .ok (.iload_n 2, 1) := by decide +kernel
theorem dX6_size_86 : decode cX6_size 86 = .ok (.iconst 4, 1) := by decide +kernel
theorem dX6_size_87 : decode cX6_size 87 = .ok (.invokevirtual 140, 3) := by decide +kernel
theorem dX6_size_90 : decode cX6_size 90 = .ok (.ireturn, 1) := by decide +kernel
theorem dX6_size_91 : decode cX6_size 91 = .ok (.aload_n 0, 1) := by decide +kernel
theorem dX6_size_92 : decode cX6_size 92 = .ok (.iload 4, 2) := by decide +kernel
theorem dX6_size_94 : decode cX6_size 94 = .ok (.iload_n 2, 1) := by decide +kernel
theorem dX6_size_95 : decode cX6_size 95 = .ok (.iconst 5, 1) := by decide +kernel
theorem dX6_size_96 : decode cX6_size 96 = .ok (.invokevirtual 140, 3) := by decide +kernel
theorem dX6_size_99 : decode cX6_size 99 = .ok (.ireturn, 1) := by decide +kernel
theorem dX6_size_100 : decode cX6_size 100 = .ok (.aload_n 0, 1) := by decide +kernel
theorem dX6_size_101 : decode cX6_size 101 = .ok (.iload 4, 2) := by decide +kernel
theorem dX6_size_103 : decode cX6_size 103 = .ok (.iload_n 2, 1) := by decide +kernel
theorem dX6_size_104 : decode cX6_size 104 = .ok (.invokevirtual 143, 3) := by decide +kernel
theorem dX6_size_107 : decode cX6_size 107 = .ok (.ireturn, 1) := by decide +kernel
theorem dX6_size_108 : decode cX6_size 108 = .ok (.iconst (-1), 1) := by decide +kernel
theorem dX6_size_109 : decode cX6_size 109 = .ok (.ireturn, 1) := by decide +kernel
def gm_X6_size (fu : Nat) (this : Nat) (p_0 : Int32) (p_1 : Int32) (p_2 : Int32) (X : gx_H) : Option (Int32 × gx_H) :=
  (gx_pf X this 6 0 (.int (0 : Int32))).bind fun Xz1 =>
  gx_ob Xz1 this 6 <|
  gx_b2 (gm_X6_which fu this p_0 p_1 (0 : Int32) Xz1) fun vz4 Xz3 =>
  if vz4 = (-1 : Int32) then (
  some ((-1 : Int32), Xz3)) else (
  if p_2 = (0 : Int32) then (
  (gx_gd Xz3 this 6 5).bind fun az7 =>
  (gx_gai Xz3 az7 0 (((8 : Int32) * vz4) + p_1)).bind fun vz8 =>
  some (vz8, Xz3)) else (
  if p_2 = (1 : Int32) then (
  (gx_gd Xz3 this 6 6).bind fun az9 =>
  (gx_gai Xz3 az9 0 (((8 : Int32) * vz4) + p_1)).bind fun vz10 =>
  some (vz10, Xz3)) else (
  if p_2 = (2 : Int32) then (
  gx_ob Xz3 this 6 <|
  gx_b2 (gm_X6_countOf fu this vz4 p_1 (4 : Int32) Xz3) fun vz13 Xz12 =>
  some (vz13, Xz12)) else (
  if p_2 = (3 : Int32) then (
  gx_ob Xz3 this 6 <|
  gx_b2 (gm_X6_countOf fu this vz4 p_1 (5 : Int32) Xz3) fun vz16 Xz15 =>
  some (vz16, Xz15)) else (
  if p_2 = (4 : Int32) then (
  gx_ob Xz3 this 6 <|
  gx_b2 (gm_X6_comeTo fu this vz4 p_1 Xz3) fun vz19 Xz18 =>
  some (vz19, Xz18)) else (
  some ((-1 : Int32), Xz3)))))))
set_option maxHeartbeats 1000000 in
set_option maxRecDepth 20000 in
theorem gc_X6_size {l : Launch} {D : gx_D} (fu : Nat) (this : Nat) (p_0 : Int32) (p_1 : Int32) (p_2 : Int32) (X : gx_H) (r : Int32) (X2 : gx_H) (h : gm_X6_size fu this p_0 p_1 p_2 X = some (r, X2)) : gx_M D gz_cl gz_at gz_tb gz_nb l yX6_size cX6_size 5 (some .int) 5 130 [gx_r (some this), gx_i p_0, gx_i p_1, gx_i p_2] X (some (gx_i r)) X2 0 0 := by
  unfold gm_X6_size at h
  refine gx_enter [some (gx_r (some this)), some (gx_i p_0), some (gx_i p_1), some (gx_i p_2), none] rfl (by decide) (Nat.le_of_ble_eq_true rfl) ?_
  intro p e s m below meth c C _
  refine gx_aload_n C dX6_size_0 rfl rfl ?_
  refine gx_iconst (v := 0) C dX6_size_1 (by decide) ?_
  obtain ⟨Xz1, eXz1, h⟩ := gx_bd h
  refine gx_put C kcX6 0 (by decide) rfl wl_497 ⟨rfl, rfl⟩ eXz1 dX6_size_2 ?_
  refine gx_aload_n C dX6_size_5 rfl rfl ?_
  refine gx_iload_n C dX6_size_6 rfl rfl ?_
  refine gx_iload_n C dX6_size_7 rfl rfl ?_
  refine gx_iconst (v := 0) C dX6_size_8 (by decide) ?_
  obtain ⟨hoz2, h⟩ := gx_obs h
  obtain ⟨vz4, Xz3, eXz3, h⟩ := gx_bd2 h
  refine gx_callV (As := [gx_i p_0, gx_i p_1, gx_i (0 : Int32)]) (st := []) (stk2 := [gx_i vz4]) C cd_X6_which wl_667 ws_X6_which wl_665 rfl hoz2 (gc_X6_which fu this p_0 p_1 (0 : Int32) Xz1 vz4 Xz3 eXz3) rfl ⟨Nat.le_of_ble_eq_true rfl, Nat.le_of_ble_eq_true rfl⟩ ⟨Nat.le_of_ble_eq_true rfl, Nat.le_of_ble_eq_true rfl⟩ (Nat.le_of_ble_eq_true rfl) rfl rfl dX6_size_9 ?_
  refine gx_istore (lv2 := [some (gx_r (some this)), some (gx_i p_0), some (gx_i p_1), some (gx_i p_2), some (gx_i vz4)]) C dX6_size_12 (by decide) rfl ?_
  refine gx_iload C dX6_size_14 rfl ?_
  refine gx_iconst (v := -1) C dX6_size_16 (by decide) ?_
  refine gx_icmp_ne (tgt := 22) C dX6_size_17 (by decide) (fun qz5 => ?_) (fun qz5 => ?_)
  · rw [if_neg qz5] at h
    refine gx_iload_n C dX6_size_22 rfl rfl ?_
    by_cases qz6_0 : p_2 = (0 : Int32)
    · rw [if_pos qz6_0] at h
      refine gx_swIn (tgt := 56) (off := 33) C dX6_size_23 (by rw [qz6_0]; decide) (by rw [qz6_0]; decide) (by rw [qz6_0]; decide) (by decide) ?_
      refine gx_aload_n C dX6_size_56 rfl rfl ?_
      obtain ⟨az7, eaz7, h⟩ := gx_bd h
      refine gx_get C kcX6 5 (by decide) wl_502 (gx_gd_s eaz7) dX6_size_57 ?_
      refine gx_bipush (v := 8) C dX6_size_60 (by decide) ?_
      refine gx_iload C dX6_size_62 rfl ?_
      refine gx_imul C dX6_size_64 ?_
      refine gx_iload_n C dX6_size_65 rfl rfl ?_
      refine gx_iadd C dX6_size_66 ?_
      obtain ⟨vz8, evz8, h⟩ := gx_bd h
      refine gx_iald C (t := 0) rfl evz8 dX6_size_67 ?_
      cases h
      exact gx_iret C dX6_size_68
    rw [if_neg qz6_0] at h
    by_cases qz6_1 : p_2 = (1 : Int32)
    · rw [if_pos qz6_1] at h
      refine gx_swIn (tgt := 69) (off := 46) C dX6_size_23 (by rw [qz6_1]; decide) (by rw [qz6_1]; decide) (by rw [qz6_1]; decide) (by decide) ?_
      refine gx_aload_n C dX6_size_69 rfl rfl ?_
      obtain ⟨az9, eaz9, h⟩ := gx_bd h
      refine gx_get C kcX6 6 (by decide) wl_503 (gx_gd_s eaz9) dX6_size_70 ?_
      refine gx_bipush (v := 8) C dX6_size_73 (by decide) ?_
      refine gx_iload C dX6_size_75 rfl ?_
      refine gx_imul C dX6_size_77 ?_
      refine gx_iload_n C dX6_size_78 rfl rfl ?_
      refine gx_iadd C dX6_size_79 ?_
      obtain ⟨vz10, evz10, h⟩ := gx_bd h
      refine gx_iald C (t := 0) rfl evz10 dX6_size_80 ?_
      cases h
      exact gx_iret C dX6_size_81
    rw [if_neg qz6_1] at h
    by_cases qz6_2 : p_2 = (2 : Int32)
    · rw [if_pos qz6_2] at h
      refine gx_swIn (tgt := 82) (off := 59) C dX6_size_23 (by rw [qz6_2]; decide) (by rw [qz6_2]; decide) (by rw [qz6_2]; decide) (by decide) ?_
      refine gx_aload_n C dX6_size_82 rfl rfl ?_
      refine gx_iload C dX6_size_83 rfl ?_
      refine gx_iload_n C dX6_size_85 rfl rfl ?_
      refine gx_iconst (v := 4) C dX6_size_86 (by decide) ?_
      obtain ⟨hoz11, h⟩ := gx_obs h
      obtain ⟨vz13, Xz12, eXz12, h⟩ := gx_bd2 h
      refine gx_callV (As := [gx_i vz4, gx_i p_1, gx_i (4 : Int32)]) (st := []) (stk2 := [gx_i vz13]) C cd_X6_countOf wl_687 ws_X6_countOf wl_685 rfl hoz11 (gc_X6_countOf fu this vz4 p_1 (4 : Int32) Xz3 vz13 Xz12 eXz12) rfl ⟨Nat.le_of_ble_eq_true rfl, Nat.le_of_ble_eq_true rfl⟩ ⟨Nat.le_of_ble_eq_true rfl, Nat.le_of_ble_eq_true rfl⟩ (Nat.le_of_ble_eq_true rfl) rfl rfl dX6_size_87 ?_
      cases h
      exact gx_iret C dX6_size_90
    rw [if_neg qz6_2] at h
    by_cases qz6_3 : p_2 = (3 : Int32)
    · rw [if_pos qz6_3] at h
      refine gx_swIn (tgt := 91) (off := 68) C dX6_size_23 (by rw [qz6_3]; decide) (by rw [qz6_3]; decide) (by rw [qz6_3]; decide) (by decide) ?_
      refine gx_aload_n C dX6_size_91 rfl rfl ?_
      refine gx_iload C dX6_size_92 rfl ?_
      refine gx_iload_n C dX6_size_94 rfl rfl ?_
      refine gx_iconst (v := 5) C dX6_size_95 (by decide) ?_
      obtain ⟨hoz14, h⟩ := gx_obs h
      obtain ⟨vz16, Xz15, eXz15, h⟩ := gx_bd2 h
      refine gx_callV (As := [gx_i vz4, gx_i p_1, gx_i (5 : Int32)]) (st := []) (stk2 := [gx_i vz16]) C cd_X6_countOf wl_687 ws_X6_countOf wl_685 rfl hoz14 (gc_X6_countOf fu this vz4 p_1 (5 : Int32) Xz3 vz16 Xz15 eXz15) rfl ⟨Nat.le_of_ble_eq_true rfl, Nat.le_of_ble_eq_true rfl⟩ ⟨Nat.le_of_ble_eq_true rfl, Nat.le_of_ble_eq_true rfl⟩ (Nat.le_of_ble_eq_true rfl) rfl rfl dX6_size_96 ?_
      cases h
      exact gx_iret C dX6_size_99
    rw [if_neg qz6_3] at h
    by_cases qz6_4 : p_2 = (4 : Int32)
    · rw [if_pos qz6_4] at h
      refine gx_swIn (tgt := 100) (off := 77) C dX6_size_23 (by rw [qz6_4]; decide) (by rw [qz6_4]; decide) (by rw [qz6_4]; decide) (by decide) ?_
      refine gx_aload_n C dX6_size_100 rfl rfl ?_
      refine gx_iload C dX6_size_101 rfl ?_
      refine gx_iload_n C dX6_size_103 rfl rfl ?_
      obtain ⟨hoz17, h⟩ := gx_obs h
      obtain ⟨vz19, Xz18, eXz18, h⟩ := gx_bd2 h
      refine gx_callV (As := [gx_i vz4, gx_i p_1]) (st := []) (stk2 := [gx_i vz19]) C cd_X6_comeTo wl_691 ws_X6_comeTo wl_689 rfl hoz17 (gc_X6_comeTo fu this vz4 p_1 Xz3 vz19 Xz18 eXz18) rfl ⟨Nat.le_of_ble_eq_true rfl, Nat.le_of_ble_eq_true rfl⟩ ⟨Nat.le_of_ble_eq_true rfl, Nat.le_of_ble_eq_true rfl⟩ (Nat.le_of_ble_eq_true rfl) rfl rfl dX6_size_104 ?_
      cases h
      exact gx_iret C dX6_size_107
    rw [if_neg qz6_4] at h
    refine gx_swOut (tgt := 108) C dX6_size_23 (by have n0 := lv_neT qz6_0 (a := 0) (by decide); have n1 := lv_neT qz6_1 (a := 1) (by decide); have n2 := lv_neT qz6_2 (a := 2) (by decide); have n3 := lv_neT qz6_3 (a := 3) (by decide); have n4 := lv_neT qz6_4 (a := 4) (by decide); omega) (by decide) ?_
    refine gx_iconst (v := -1) C dX6_size_108 (by decide) ?_
    cases h
    exact gx_iret C dX6_size_109
  · rw [if_pos qz5] at h
    refine gx_iconst (v := -1) C dX6_size_20 (by decide) ?_
    cases h
    exact gx_iret C dX6_size_21
