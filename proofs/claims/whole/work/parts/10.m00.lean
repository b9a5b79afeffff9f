/-! methods: J13_bitCount_95d88, X0_addHandler, X0_hasInstruction, X0_canHandle, X0_canHold, X0_countOfKind, X0_countReached, X0_goesToNumber, X0_forgetSets, X0_init -/
theorem dJ13_bitCount_95d88_0 : decode cJ13_bitCount_95d88 0 = .ok (.lload_n 0, 1) := by decide +kernel
theorem dJ13_bitCount_95d88_1 : decode cJ13_bitCount_95d88 1 = .ok (.lload_n 0, 1) := by decide +kernel
theorem dJ13_bitCount_95d88_2 : decode cJ13_bitCount_95d88 2 = .ok (.iconst 1, 1) := by decide +kernel
theorem dJ13_bitCount_95d88_3 : decode cJ13_bitCount_95d88 3 = .ok (.lushr, 1) := by decide +kernel
theorem dJ13_bitCount_95d88_4 : decode cJ13_bitCount_95d88 4 = .ok (.ldc2_w 314, 3) := by decide +kernel
theorem dJ13_bitCount_95d88_7 : decode cJ13_bitCount_95d88 7 = .ok (.land, 1) := by decide +kernel
theorem dJ13_bitCount_95d88_8 : decode cJ13_bitCount_95d88 8 = .ok (.lsub, 1) := by decide +kernel
theorem dJ13_bitCount_95d88_9 : decode cJ13_bitCount_95d88 9 = .ok (.lstore_n 0, 1) := by decide +kernel
theorem dJ13_bitCount_95d88_10 : decode cJ13_bitCount_95d88 10 = .ok (.lload_n 0, 1) := by decide +kernel
theorem dJ13_bitCount_95d88_11 : decode cJ13_bitCount_95d88 11 = .ok (.ldc2_w 316, 3) := by decide +kernel
theorem dJ13_bitCount_95d88_14 : decode cJ13_bitCount_95d88 14 = .ok (.land, 1) := by decide +kernel
theorem dJ13_bitCount_95d88_15 : decode cJ13_bitCount_95d88 15 = .ok (.lload_n 0, 1) := by decide +kernel
theorem dJ13_bitCount_95d88_16 : decode cJ13_bitCount_95d88 16 = .ok (.iconst 2, 1) := by decide +kernel
theorem dJ13_bitCount_95d88_17 : decode cJ13_bitCount_95d88 17 = .ok (.lushr, 1) := by decide +kernel
theorem dJ13_bitCount_95d88_18 : decode cJ13_bitCount_95d88 18 = .ok (.ldc2_w 316, 3) := by decide +kernel
theorem dJ13_bitCount_95d88_21 : decode cJ13_bitCount_95d88 21 = .ok (.land, 1) := by decide +kernel
theorem dJ13_bitCount_95d88_22 : decode cJ13_bitCount_95d88 22 = .ok (.ladd, 1) := by decide +kernel
theorem dJ13_bitCount_95d88_23 : decode cJ13_bitCount_95d88 23 = .ok (.lstore_n 0, 1) := by decide +kernel
theorem dJ13_bitCount_95d88_24 : decode cJ13_bitCount_95d88 24 = .ok (.lload_n 0, 1) := by decide +kernel
theorem dJ13_bitCount_95d88_25 : decode cJ13_bitCount_95d88 25 = .ok (.lload_n 0, 1) := by decide +kernel
theorem dJ13_bitCount_95d88_26 : decode cJ13_bitCount_95d88 26 = .ok (.iconst 4, 1) := by decide +kernel
theorem dJ13_bitCount_95d88_27 : decode cJ13_bitCount_95d88 27 = .ok (.lushr, 1) := by decide +kernel
theorem dJ13_bitCount_95d88_28 : decode cJ13_bitCount_95d88 28 = .ok (.ladd, 1) := by decide +kernel
theorem dJ13_bitCount_95d88_29 : decode cJ13_bitCount_95d88 29 = .ok (.ldc2_w 318, 3) := by decide +kernel
theorem dJ13_bitCount_95d88_32 : decode cJ13_bitCount_95d88 32 = .ok (.land, 1) := by decide +kernel
theorem dJ13_bitCount_95d88_33 : decode cJ13_bitCount_95d88 33 = .ok (.lstore_n 0, 1) := by decide +kernel
theorem dJ13_bitCount_95d88_34 : decode cJ13_bitCount_95d88 34 = .ok (.lload_n 0, 1) := by decide +kernel
theorem dJ13_bitCount_95d88_35 : decode cJ13_bitCount_95d88 35 = .ok (.lload_n 0, 1) := by decide +kernel
theorem dJ13_bitCount_95d88_36 : decode cJ13_bitCount_95d88 36 = .ok (.bipush 8, 2) := by decide +kernel
theorem dJ13_bitCount_95d88_38 : decode cJ13_bitCount_95d88 38 = .ok (.lushr, 1) := by decide +kernel
theorem dJ13_bitCount_95d88_39 : decode cJ13_bitCount_95d88 39 = .ok (.ladd, 1) := by decide +kernel
theorem dJ13_bitCount_95d88_40 : decode cJ13_bitCount_95d88 40 = .ok (.lstore_n 0, 1) := by decide +kernel
theorem dJ13_bitCount_95d88_41 : decode cJ13_bitCount_95d88 41 = .ok (.lload_n 0, 1) := by decide +kernel
theorem dJ13_bitCount_95d88_42 : decode cJ13_bitCount_95d88 42 = .ok (.lload_n 0, 1) := by decide +kernel
theorem dJ13_bitCount_95d88_43 : decode cJ13_bitCount_95d88 43 = .ok (.bipush 16, 2) := by decide +kernel
theorem dJ13_bitCount_95d88_45 : decode cJ13_bitCount_95d88 45 = .ok (.lushr, 1) := by decide +kernel
theorem dJ13_bitCount_95d88_46 : decode cJ13_bitCount_95d88 46 = .ok (.ladd, 1) := by decide +kernel
theorem dJ13_bitCount_95d88_47 : decode cJ13_bitCount_95d88 47 = .ok (.lstore_n 0, 1) := by decide +kernel
theorem dJ13_bitCount_95d88_48 : decode cJ13_bitCount_95d88 48 = .ok (.lload_n 0, 1) := by decide +kernel
theorem dJ13_bitCount_95d88_49 : decode cJ13_bitCount_95d88 49 = .ok (.lload_n 0, 1) := by decide +kernel
theorem dJ13_bitCount_95d88_50 : decode cJ13_bitCount_95d88 50 = .ok (.bipush 32, 2) := by decide +kernel
theorem dJ13_bitCount_95d88_52 : decode cJ13_bitCount_95d88 52 = .ok (.lushr, 1) := by decide +kernel
theorem dJ13_bitCount_95d88_53 : decode cJ13_bitCount_95d88 53 = .ok (.ladd, 1) := by decide +kernel
theorem dJ13_bitCount_95d88_54 : decode cJ13_bitCount_95d88 54 = .ok (.lstore_n 0, 1) := by decide +kernel
theorem dJ13_bitCount_95d88_55 : decode cJ13_bitCount_95d88 55 = .ok (.lload_n 0, 1) := by decide +kernel
theorem dJ13_bitCount_95d88_56 : decode cJ13_bitCount_95d88 56 = .ok (.l2i, 1) := by decide +kernel
theorem dJ13_bitCount_95d88_57 : decode cJ13_bitCount_95d88 57 = .ok (.bipush 127, 2) := by decide +kernel
theorem dJ13_bitCount_95d88_59 : decode cJ13_bitCount_95d88 59 = .ok (.iand, 1) := by decide +kernel
theorem dJ13_bitCount_95d88_60 : decode cJ13_bitCount_95d88 60 = .ok (.ireturn, 1) := by decide +kernel
def gm_J13_bitCount_95d88 (fu : Nat) (l_0 : Int64) (X : gx_H) : Option (Int32 × gx_H) :=
  (some (l_0 - (((l_0.toUInt64 >>> ((1 : Int32).toInt64.toUInt64 &&& Int64.toUInt64 63)).toInt64) &&& (6148914691236517205 : Int64)))).bind fun zz1 =>
  (some ((zz1 &&& (3689348814741910323 : Int64)) + (((zz1.toUInt64 >>> ((2 : Int32).toInt64.toUInt64 &&& Int64.toUInt64 63)).toInt64) &&& (3689348814741910323 : Int64)))).bind fun zz2 =>
  (some ((zz2 + ((zz2.toUInt64 >>> ((4 : Int32).toInt64.toUInt64 &&& Int64.toUInt64 63)).toInt64)) &&& (1085102592571150095 : Int64))).bind fun zz3 =>
  (some (zz3 + ((zz3.toUInt64 >>> ((8 : Int32).toInt64.toUInt64 &&& Int64.toUInt64 63)).toInt64))).bind fun zz4 =>
  (some (zz4 + ((zz4.toUInt64 >>> ((16 : Int32).toInt64.toUInt64 &&& Int64.toUInt64 63)).toInt64))).bind fun zz5 =>
  (some (zz5 + ((zz5.toUInt64 >>> ((32 : Int32).toInt64.toUInt64 &&& Int64.toUInt64 63)).toInt64))).bind fun zz6 =>
  some ((zz6.toInt32 &&& (127 : Int32)), X)
set_option maxHeartbeats 1000000 in
set_option maxRecDepth 20000 in
theorem gc_J13_bitCount_95d88 {l : Launch} {D : gx_D} (fu : Nat) (l_0 : Int64) (X : gx_H) (r : Int32) (X2 : gx_H) (h : gm_J13_bitCount_95d88 fu l_0 X = some (r, X2)) : gx_M D gz_cl gz_at gz_tb gz_nb l yJ13_bitCount_95d88 cJ13_bitCount_95d88 2 (some .int) 0 0 [gx_l l_0] X (some (gx_i r)) X2 0 0 := by
  unfold gm_J13_bitCount_95d88 at h
  refine gx_enter [some (gx_l l_0), none] rfl (by decide) (Nat.le_of_ble_eq_true rfl) ?_
  intro p e s m below meth c C _
  refine gx_lload_n C dJ13_bitCount_95d88_0 rfl rfl ?_
  refine gx_lload_n C dJ13_bitCount_95d88_1 rfl rfl ?_
  refine gx_iconst (v := 1) C dJ13_bitCount_95d88_2 (by decide) ?_
  refine gx_lushr C dJ13_bitCount_95d88_3 ?_
  refine gx_ldc2 (v := 6148914691236517205) C wl_446 dJ13_bitCount_95d88_4 ?_
  refine gx_land C dJ13_bitCount_95d88_7 ?_
  refine gx_lsub C dJ13_bitCount_95d88_8 ?_
  obtain ⟨zz1, ezz1, h⟩ := gx_bd h
  rw [Option.some.inj ezz1]
  refine gx_lstore_n (lv2 := [some (gx_l zz1), none]) C dJ13_bitCount_95d88_9 rfl (by decide) rfl ?_
  refine gx_lload_n C dJ13_bitCount_95d88_10 rfl rfl ?_
  refine gx_ldc2 (v := 3689348814741910323) C wl_447 dJ13_bitCount_95d88_11 ?_
  refine gx_land C dJ13_bitCount_95d88_14 ?_
  refine gx_lload_n C dJ13_bitCount_95d88_15 rfl rfl ?_
  refine gx_iconst (v := 2) C dJ13_bitCount_95d88_16 (by decide) ?_
  refine gx_lushr C dJ13_bitCount_95d88_17 ?_
  refine gx_ldc2 (v := 3689348814741910323) C wl_447 dJ13_bitCount_95d88_18 ?_
  refine gx_land C dJ13_bitCount_95d88_21 ?_
  refine gx_ladd C dJ13_bitCount_95d88_22 ?_
  obtain ⟨zz2, ezz2, h⟩ := gx_bd h
  rw [Option.some.inj ezz2]
  refine gx_lstore_n (lv2 := [some (gx_l zz2), none]) C dJ13_bitCount_95d88_23 rfl (by decide) rfl ?_
  refine gx_lload_n C dJ13_bitCount_95d88_24 rfl rfl ?_
  refine gx_lload_n C dJ13_bitCount_95d88_25 rfl rfl ?_
  refine gx_iconst (v := 4) C dJ13_bitCount_95d88_26 (by decide) ?_
  refine gx_lushr C dJ13_bitCount_95d88_27 ?_
  refine gx_ladd C dJ13_bitCount_95d88_28 ?_
  refine gx_ldc2 (v := 1085102592571150095) C wl_448 dJ13_bitCount_95d88_29 ?_
  refine gx_land C dJ13_bitCount_95d88_32 ?_
  obtain ⟨zz3, ezz3, h⟩ := gx_bd h
  rw [Option.some.inj ezz3]
  refine gx_lstore_n (lv2 := [some (gx_l zz3), none]) C dJ13_bitCount_95d88_33 rfl (by decide) rfl ?_
  refine gx_lload_n C dJ13_bitCount_95d88_34 rfl rfl ?_
  refine gx_lload_n C dJ13_bitCount_95d88_35 rfl rfl ?_
  refine gx_bipush (v := 8) C dJ13_bitCount_95d88_36 (by decide) ?_
  refine gx_lushr C dJ13_bitCount_95d88_38 ?_
  refine gx_ladd C dJ13_bitCount_95d88_39 ?_
  obtain ⟨zz4, ezz4, h⟩ := gx_bd h
  rw [Option.some.inj ezz4]
  refine gx_lstore_n (lv2 := [some (gx_l zz4), none]) C dJ13_bitCount_95d88_40 rfl (by decide) rfl ?_
  refine gx_lload_n C dJ13_bitCount_95d88_41 rfl rfl ?_
  refine gx_lload_n C dJ13_bitCount_95d88_42 rfl rfl ?_
  refine gx_bipush (v := 16) C dJ13_bitCount_95d88_43 (by decide) ?_
  refine gx_lushr C dJ13_bitCount_95d88_45 ?_
  refine gx_ladd C dJ13_bitCount_95d88_46 ?_
  obtain ⟨zz5, ezz5, h⟩ := gx_bd h
  rw [Option.some.inj ezz5]
  refine gx_lstore_n (lv2 := [some (gx_l zz5), none]) C dJ13_bitCount_95d88_47 rfl (by decide) rfl ?_
  refine gx_lload_n C dJ13_bitCount_95d88_48 rfl rfl ?_
  refine gx_lload_n C dJ13_bitCount_95d88_49 rfl rfl ?_
  refine gx_bipush (v := 32) C dJ13_bitCount_95d88_50 (by decide) ?_
  refine gx_lushr C dJ13_bitCount_95d88_52 ?_
  refine gx_ladd C dJ13_bitCount_95d88_53 ?_
  obtain ⟨zz6, ezz6, h⟩ := gx_bd h
  rw [Option.some.inj ezz6]
  refine gx_lstore_n (lv2 := [some (gx_l zz6), none]) C dJ13_bitCount_95d88_54 rfl (by decide) rfl ?_
  refine gx_lload_n C dJ13_bitCount_95d88_55 rfl rfl ?_
  refine gx_l2i C dJ13_bitCount_95d88_56 ?_
  refine gx_bipush (v := 127) C dJ13_bitCount_95d88_57 (by decide) ?_
  refine gx_iand C dJ13_bitCount_95d88_59 ?_
  cases h
  exact gx_iret C dJ13_bitCount_95d88_60
theorem dX0_addHandler_0 : decode cX0_addHandler 0 = .ok (.aload_n 0, 1) := by decide +kernel
theorem dX0_addHandler_1 : decode cX0_addHandler 1 = .ok (.getfield 18, 3) := by decide +kernel
theorem dX0_addHandler_4 : decode cX0_addHandler 4 = .ok (.aload_n 0, 1) := by decide +kernel
theorem dX0_addHandler_5 : decode cX0_addHandler 5 = .ok (.getfield 45, 3) := by decide +kernel
theorem dX0_addHandler_8 : decode cX0_addHandler 8 = .ok (.iload_n 1, 1) := by decide +kernel
theorem dX0_addHandler_9 : decode cX0_addHandler 9 = .ok (.iastore, 1) := by decide +kernel
theorem dX0_addHandler_10 : decode cX0_addHandler 10 = .ok (.aload_n 0, 1) := by decide +kernel
theorem dX0_addHandler_11 : decode cX0_addHandler 11 = .ok (.getfield 21, 3) := by decide +kernel
theorem dX0_addHandler_14 : decode cX0_addHandler 14 = .ok (.aload_n 0, 1) := by decide +kernel
theorem dX0_addHandler_15 : decode cX0_addHandler 15 = .ok (.getfield 45, 3) := by decide +kernel
theorem dX0_addHandler_18 : decode cX0_addHandler 18 = .ok (.iload_n 2, 1) := by decide +kernel
theorem dX0_addHandler_19 : decode cX0_addHandler 19 = .ok (.iastore, 1) := by decide +kernel
theorem dX0_addHandler_20 : decode cX0_addHandler 20 = .ok (.aload_n 0, 1) := by decide +kernel
theorem dX0_addHandler_21 : decode cX0_addHandler 21 = .ok (.getfield 24, 3) := by decide +kernel
theorem dX0_addHandler_24 : decode cX0_addHandler 24 = .ok (.aload_n 0, 1) := by decide +kernel
theorem dX0_addHandler_25 : decode cX0_addHandler 25 = .ok (.getfield 45, 3) := by decide +kernel
theorem dX0_addHandler_28 : decode cX0_addHandler 28 = .ok (.iload_n 3, 1) := by decide +kernel
theorem dX0_addHandler_29 : decode cX0_addHandler 29 = .ok (.iastore, 1) := by decide +kernel
theorem dX0_addHandler_30 : decode cX0_addHandler 30 = .ok (.aload_n 0, 1) := by decide +kernel
theorem dX0_addHandler_31 : decode cX0_addHandler 31 = .ok (.dup, 1) := by decide +kernel
theorem dX0_addHandler_32 : decode cX0_addHandler 32 = .ok (.getfield 45, 3) := by decide +kernel
theorem dX0_addHandler_35 : decode cX0_addHandler 35 = .ok (.iconst 1, 1) := by decide +kernel
theorem dX0_addHandler_36 : decode cX0_addHandler 36 = .ok (.iadd, 1) := by decide +kernel
theorem dX0_addHandler_37 : decode cX0_addHandler 37 = .ok (.putfield 45, 3) := by decide +kernel
theorem dX0_addHandler_40 : decode cX0_addHandler 40 = .ok (.return_, 1) := by decide +kernel
def gm_X0_addHandler (fu : Nat) (this : Nat) (p_0 : Int32) (p_1 : Int32) (p_2 : Int32) (X : gx_H) : Option gx_H :=
  (gx_gd X this 0 3).bind fun az1 =>
  (gx_gi X this 0 7).bind fun vz2 =>
  (gx_pai X az1 0 vz2 p_0).bind fun Xz3 =>
  (gx_gd Xz3 this 0 4).bind fun az4 =>
  (gx_gi Xz3 this 0 7).bind fun vz5 =>
  (gx_pai Xz3 az4 0 vz5 p_1).bind fun Xz6 =>
  (gx_gd Xz6 this 0 5).bind fun az7 =>
  (gx_gi Xz6 this 0 7).bind fun vz8 =>
  (gx_pai Xz6 az7 0 vz8 p_2).bind fun Xz9 =>
  (gx_gi Xz9 this 0 7).bind fun vz10 =>
  (gx_pf Xz9 this 0 7 (.int (vz10 + (1 : Int32)))).bind fun Xz11 =>
  some Xz11
set_option maxHeartbeats 1000000 in
set_option maxRecDepth 20000 in
theorem gc_X0_addHandler {l : Launch} {D : gx_D} (fu : Nat) (this : Nat) (p_0 : Int32) (p_1 : Int32) (p_2 : Int32) (X : gx_H) (X2 : gx_H) (h : gm_X0_addHandler fu this p_0 p_1 p_2 X = some X2) : gx_M D gz_cl gz_at gz_tb gz_nb l yX0_addHandler cX0_addHandler 4 none 0 0 [gx_r (some this), gx_i p_0, gx_i p_1, gx_i p_2] X none X2 0 0 := by
  unfold gm_X0_addHandler at h
  refine gx_enter [some (gx_r (some this)), some (gx_i p_0), some (gx_i p_1), some (gx_i p_2)] rfl (by decide) (Nat.le_of_ble_eq_true rfl) ?_
  intro p e s m below meth c C _
  refine gx_aload_n C dX0_addHandler_0 rfl rfl ?_
  obtain ⟨az1, eaz1, h⟩ := gx_bd h
  refine gx_get C kcX0 3 (by decide) wl_192 (gx_gd_s eaz1) dX0_addHandler_1 ?_
  refine gx_aload_n C dX0_addHandler_4 rfl rfl ?_
  obtain ⟨vz2, evz2, h⟩ := gx_bd h
  refine gx_get C kcX0 7 (by decide) wl_209 (gx_gi_s evz2) dX0_addHandler_5 ?_
  refine gx_iload_n C dX0_addHandler_8 rfl rfl ?_
  obtain ⟨Xz3, eXz3, h⟩ := gx_bd h
  refine gx_iast C (t := 0) rfl eXz3 dX0_addHandler_9 ?_
  refine gx_aload_n C dX0_addHandler_10 rfl rfl ?_
  obtain ⟨az4, eaz4, h⟩ := gx_bd h
  refine gx_get C kcX0 4 (by decide) wl_196 (gx_gd_s eaz4) dX0_addHandler_11 ?_
  refine gx_aload_n C dX0_addHandler_14 rfl rfl ?_
  obtain ⟨vz5, evz5, h⟩ := gx_bd h
  refine gx_get C kcX0 7 (by decide) wl_209 (gx_gi_s evz5) dX0_addHandler_15 ?_
  refine gx_iload_n C dX0_addHandler_18 rfl rfl ?_
  obtain ⟨Xz6, eXz6, h⟩ := gx_bd h
  refine gx_iast C (t := 0) rfl eXz6 dX0_addHandler_19 ?_
  refine gx_aload_n C dX0_addHandler_20 rfl rfl ?_
  obtain ⟨az7, eaz7, h⟩ := gx_bd h
  refine gx_get C kcX0 5 (by decide) wl_200 (gx_gd_s eaz7) dX0_addHandler_21 ?_
  refine gx_aload_n C dX0_addHandler_24 rfl rfl ?_
  obtain ⟨vz8, evz8, h⟩ := gx_bd h
  refine gx_get C kcX0 7 (by decide) wl_209 (gx_gi_s evz8) dX0_addHandler_25 ?_
  refine gx_iload_n C dX0_addHandler_28 rfl rfl ?_
  obtain ⟨Xz9, eXz9, h⟩ := gx_bd h
  refine gx_iast C (t := 0) rfl eXz9 dX0_addHandler_29 ?_
  refine gx_aload_n C dX0_addHandler_30 rfl rfl ?_
  refine gx_dup C dX0_addHandler_31 rfl ?_
  obtain ⟨vz10, evz10, h⟩ := gx_bd h
  refine gx_get C kcX0 7 (by decide) wl_209 (gx_gi_s evz10) dX0_addHandler_32 ?_
  refine gx_iconst (v := 1) C dX0_addHandler_35 (by decide) ?_
  refine gx_iadd C dX0_addHandler_36 ?_
  obtain ⟨Xz11, eXz11, h⟩ := gx_bd h
  refine gx_put C kcX0 7 (by decide) rfl wl_209 ⟨rfl, rfl⟩ eXz11 dX0_addHandler_37 ?_
  cases h
  exact gx_vret C dX0_addHandler_40
theorem dX0_hasInstruction_0 : decode cX0_hasInstruction 0 = .ok (.iload_n 1, 1) := by decide +kernel
theorem dX0_hasInstruction_1 : decode cX0_hasInstruction 1 = .ok (.ifCond .lt 15, 3) := by decide +kernel
theorem dX0_hasInstruction_4 : decode cX0_hasInstruction 4 = .ok (.iload_n 1, 1) := by decide +kernel
theorem dX0_hasInstruction_5 : decode cX0_hasInstruction 5 = .ok (.aload_n 0, 1) := by decide +kernel
theorem dX0_hasInstruction_6 : decode cX0_hasInstruction 6 = .ok (.getfield 42, 3) := by decide +kernel
theorem dX0_hasInstruction_9 : decode cX0_hasInstruction 9 = .ok (.if_icmp .ge 7, 3) := by decide +kernel
theorem dX0_hasInstruction_12 : decode cX0_hasInstruction 12 = .ok (.iconst 1, 1) := by decide +kernel
theorem dX0_hasInstruction_13 : decode cX0_hasInstruction 13 = .ok (.goto 4, 3) := by decide +kernel
theorem dX0_hasInstruction_16 : decode cX0_hasInstruction 16 = .ok (.iconst 0, 1) := by decide +kernel
theorem dX0_hasInstruction_17 : decode cX0_hasInstruction 17 = .ok (.ireturn, 1) := by decide +kernel
def gm_X0_hasInstruction_16 (fu : Nat)  (X : gx_H) : Option (Int32 × gx_H) :=
  some ((0 : Int32), X)
set_option maxHeartbeats 1000000 in
set_option maxRecDepth 20000 in
theorem gt_X0_hasInstruction_16 {p : Program} {l : Launch} {e : Env} {s : State} {m : MethodId} {args : Array Value} {below : List Frame} {meth : Method} {c : Code} {D : gx_D} {r : Int32} {X2 : gx_H}  (C : gx_C D gz_cl gz_at gz_tb gz_nb p s m meth c cX0_hasInstruction 2 RX0 (some .boolean)) (fu : Nat)  (X : gx_H) (h : gm_X0_hasInstruction_16 fu   X = some (r, X2)) : gx_W D gz_cl 2 p l e (gx_rm 0 0 0 0) s m args below meth c 0 0 (MQ below (gx_Q D gz_cl (some (gx_i r)) X2) args s 0 0 (gx_Z D)) X 16 [none, none] [] := by
  unfold gm_X0_hasInstruction_16 at h
  refine gx_iconst (v := 0) C dX0_hasInstruction_16 (by decide) ?_
  cases h
  exact gx_zret (Or.inl rfl) C dX0_hasInstruction_17
def gm_X0_hasInstruction (fu : Nat) (this : Nat) (p_0 : Int32) (X : gx_H) : Option (Int32 × gx_H) :=
  if p_0 < 0 then (
  gm_X0_hasInstruction_16 fu   X) else (
  (gx_gi X this 0 6).bind fun vz2 =>
  if vz2 ≤ p_0 then (
  gm_X0_hasInstruction_16 fu   X) else (
  some ((1 : Int32), X)))
set_option maxHeartbeats 1000000 in
set_option maxRecDepth 20000 in
theorem gc_X0_hasInstruction {l : Launch} {D : gx_D} (fu : Nat) (this : Nat) (p_0 : Int32) (X : gx_H) (r : Int32) (X2 : gx_H) (h : gm_X0_hasInstruction fu this p_0 X = some (r, X2)) : gx_M D gz_cl gz_at gz_tb gz_nb l yX0_hasInstruction cX0_hasInstruction 2 (some .boolean) 0 0 [gx_r (some this), gx_i p_0] X (some (gx_i r)) X2 0 0 := by
  unfold gm_X0_hasInstruction at h
  refine gx_enter [some (gx_r (some this)), some (gx_i p_0)] rfl (by decide) (Nat.le_of_ble_eq_true rfl) ?_
  intro p e s m below meth c C _
  refine gx_iload_n C dX0_hasInstruction_0 rfl rfl ?_
  refine gx_if_lt (tgt := 16) C dX0_hasInstruction_1 (by decide) (fun qz1 => ?_) (fun qz1 => ?_)
  · rw [if_pos qz1] at h
    refine gx_sub (lv2 := [none, none]) [false, false] rfl ?_
    exact gt_X0_hasInstruction_16 C fu   X h
  · rw [if_neg qz1] at h
    refine gx_iload_n C dX0_hasInstruction_4 rfl rfl ?_
    refine gx_aload_n C dX0_hasInstruction_5 rfl rfl ?_
    obtain ⟨vz2, evz2, h⟩ := gx_bd h
    refine gx_get C kcX0 6 (by decide) wl_204 (gx_gi_s evz2) dX0_hasInstruction_6 ?_
    refine gx_icmp_ge (tgt := 16) C dX0_hasInstruction_9 (by decide) (fun qz3 => ?_) (fun qz3 => ?_)
    · rw [if_pos qz3] at h
      refine gx_sub (lv2 := [none, none]) [false, false] rfl ?_
      exact gt_X0_hasInstruction_16 C fu   X h
    · rw [if_neg qz3] at h
      refine gx_iconst (v := 1) C dX0_hasInstruction_12 (by decide) ?_
      refine gx_goto (tgt := 17) C dX0_hasInstruction_13 (by decide) ?_
      cases h
      exact gx_zret (Or.inr rfl) C dX0_hasInstruction_17
theorem dX0_canHandle_0 : decode cX0_canHandle 0 = .ok (.aload_n 0, 1) := by decide +kernel
theorem dX0_canHandle_1 : decode cX0_canHandle 1 = .ok (.getfield 45, 3) := by decide +kernel
theorem dX0_canHandle_4 : decode cX0_canHandle 4 = .ok (.bipush 6, 2) := by decide +kernel
theorem dX0_canHandle_6 : decode cX0_canHandle 6 = .ok (.if_icmp .ge 32, 3) := by decide +kernel
theorem dX0_canHandle_9 : decode cX0_canHandle 9 = .ok (.iload_n 1, 1) := by decide +kernel
theorem dX0_canHandle_10 : decode cX0_canHandle 10 = .ok (.ifCond .lt 28, 3) := by decide +kernel
theorem dX0_canHandle_13 : decode cX0_canHandle 13 = .ok (.iload_n 1, 1) := by decide +kernel
theorem dX0_canHandle_14 : decode cX0_canHandle 14 = .ok (.iload_n 2, 1) := by decide +kernel
theorem dX0_canHandle_15 : decode cX0_canHandle 15 = .ok (.if_icmp .ge 23, 3) := by decide +kernel
theorem dX0_canHandle_18 : decode cX0_canHandle 18 = .ok (.iload_n 2, 1) := by decide +kernel
theorem dX0_canHandle_19 : decode cX0_canHandle 19 = .ok (.aload_n 0, 1) := by decide +kernel
theorem dX0_canHandle_20 : decode cX0_canHandle 20 = .ok (.getfield 42, 3) := by decide +kernel
theorem dX0_canHandle_23 : decode cX0_canHandle 23 = .ok (.if_icmp .gt 15, 3) := by decide +kernel
theorem dX0_canHandle_26 : decode cX0_canHandle 26 = .ok (.aload_n 0, 1) := by decide +kernel
theorem dX0_canHandle_27 : decode cX0_canHandle 27 = .ok (.iload_n 3, 1) := by decide +kernel
theorem dX0_canHandle_28 : decode cX0_canHandle 28 = .ok (.invokevirtual 52, 3) := by decide +kernel
theorem dX0_canHandle_31 : decode cX0_canHandle 31 = .ok (.ifCond .eq 7, 3) := by decide +kernel
theorem dX0_canHandle_34 : decode cX0_canHandle 34 = .ok (.iconst 1, 1) := by decide +kernel
theorem dX0_canHandle_35 : decode cX0_canHandle 35 = .ok (.goto 4, 3) := by decide +kernel
theorem dX0_canHandle_38 : decode cX0_canHandle 38 = .ok (.iconst 0, 1) := by decide +kernel
theorem dX0_canHandle_39 : decode cX0_canHandle 39 = .ok (.ireturn, 1) := by decide +kernel
def gm_X0_canHandle_38 (fu : Nat)  (X : gx_H) : Option (Int32 × gx_H) :=
  some ((0 : Int32), X)
set_option maxHeartbeats 1000000 in
set_option maxRecDepth 20000 in
theorem gt_X0_canHandle_38 {p : Program} {l : Launch} {e : Env} {s : State} {m : MethodId} {args : Array Value} {below : List Frame} {meth : Method} {c : Code} {D : gx_D} {r : Int32} {X2 : gx_H}  (C : gx_C D gz_cl gz_at gz_tb gz_nb p s m meth c cX0_canHandle 4 RX0 (some .boolean)) (fu : Nat)  (X : gx_H) (h : gm_X0_canHandle_38 fu   X = some (r, X2)) : gx_W D gz_cl 4 p l e (gx_rm 1 21 0 0) s m args below meth c 0 0 (MQ below (gx_Q D gz_cl (some (gx_i r)) X2) args s 0 0 (gx_Z D)) X 38 [none, none, none, none] [] := by
  unfold gm_X0_canHandle_38 at h
  refine gx_iconst (v := 0) C dX0_canHandle_38 (by decide) ?_
  cases h
  exact gx_zret (Or.inl rfl) C dX0_canHandle_39
def gm_X0_canHandle (fu : Nat) (this : Nat) (p_0 : Int32) (p_1 : Int32) (p_2 : Int32) (X : gx_H) : Option (Int32 × gx_H) :=
  (gx_gi X this 0 7).bind fun vz1 =>
  if (6 : Int32) ≤ vz1 then (
  gm_X0_canHandle_38 fu   X) else (
  if p_0 < 0 then (
  gm_X0_canHandle_38 fu   X) else (
  if p_1 ≤ p_0 then (
  gm_X0_canHandle_38 fu   X) else (
  (gx_gi X this 0 6).bind fun vz5 =>
  if vz5 < p_1 then (
  gm_X0_canHandle_38 fu   X) else (
  gx_ob X this 0 <|
  gx_b2 (gm_X0_hasInstruction fu this p_2 X) fun vz9 Xz8 =>
  if vz9 = 0 then (
  gm_X0_canHandle_38 fu   Xz8) else (
  some ((1 : Int32), Xz8))))))
set_option maxHeartbeats 1000000 in
set_option maxRecDepth 20000 in
theorem gc_X0_canHandle {l : Launch} {D : gx_D} (fu : Nat) (this : Nat) (p_0 : Int32) (p_1 : Int32) (p_2 : Int32) (X : gx_H) (r : Int32) (X2 : gx_H) (h : gm_X0_canHandle fu this p_0 p_1 p_2 X = some (r, X2)) : gx_M D gz_cl gz_at gz_tb gz_nb l yX0_canHandle cX0_canHandle 4 (some .boolean) 1 21 [gx_r (some this), gx_i p_0, gx_i p_1, gx_i p_2] X (some (gx_i r)) X2 0 0 := by
  unfold gm_X0_canHandle at h
  refine gx_enter [some (gx_r (some this)), some (gx_i p_0), some (gx_i p_1), some (gx_i p_2)] rfl (by decide) (Nat.le_of_ble_eq_true rfl) ?_
  intro p e s m below meth c C _
  refine gx_aload_n C dX0_canHandle_0 rfl rfl ?_
  obtain ⟨vz1, evz1, h⟩ := gx_bd h
  refine gx_get C kcX0 7 (by decide) wl_209 (gx_gi_s evz1) dX0_canHandle_1 ?_
  refine gx_bipush (v := 6) C dX0_canHandle_4 (by decide) ?_
  refine gx_icmp_ge (tgt := 38) C dX0_canHandle_6 (by decide) (fun qz2 => ?_) (fun qz2 => ?_)
  · rw [if_pos qz2] at h
    refine gx_sub (lv2 := [none, none, none, none]) [false, false, false, false] rfl ?_
    exact gt_X0_canHandle_38 C fu   X h
  · rw [if_neg qz2] at h
    refine gx_iload_n C dX0_canHandle_9 rfl rfl ?_
    refine gx_if_lt (tgt := 38) C dX0_canHandle_10 (by decide) (fun qz3 => ?_) (fun qz3 => ?_)
    · rw [if_pos qz3] at h
      refine gx_sub (lv2 := [none, none, none, none]) [false, false, false, false] rfl ?_
      exact gt_X0_canHandle_38 C fu   X h
    · rw [if_neg qz3] at h
      refine gx_iload_n C dX0_canHandle_13 rfl rfl ?_
      refine gx_iload_n C dX0_canHandle_14 rfl rfl ?_
      refine gx_icmp_ge (tgt := 38) C dX0_canHandle_15 (by decide) (fun qz4 => ?_) (fun qz4 => ?_)
      · rw [if_pos qz4] at h
        refine gx_sub (lv2 := [none, none, none, none]) [false, false, false, false] rfl ?_
        exact gt_X0_canHandle_38 C fu   X h
      · rw [if_neg qz4] at h
        refine gx_iload_n C dX0_canHandle_18 rfl rfl ?_
        refine gx_aload_n C dX0_canHandle_19 rfl rfl ?_
        obtain ⟨vz5, evz5, h⟩ := gx_bd h
        refine gx_get C kcX0 6 (by decide) wl_204 (gx_gi_s evz5) dX0_canHandle_20 ?_
        refine gx_icmp_gt (tgt := 38) C dX0_canHandle_23 (by decide) (fun qz6 => ?_) (fun qz6 => ?_)
        · rw [if_pos qz6] at h
          refine gx_sub (lv2 := [none, none, none, none]) [false, false, false, false] rfl ?_
          exact gt_X0_canHandle_38 C fu   X h
        · rw [if_neg qz6] at h
          refine gx_aload_n C dX0_canHandle_26 rfl rfl ?_
          refine gx_iload_n C dX0_canHandle_27 rfl rfl ?_
          obtain ⟨hoz7, h⟩ := gx_obs h
          obtain ⟨vz9, Xz8, eXz8, h⟩ := gx_bd2 h
          refine gx_callV (As := [gx_i p_2]) (st := []) (stk2 := [gx_i vz9]) C cd_X0_hasInstruction wl_279 ws_X0_hasInstruction wl_286 rfl hoz7 (gc_X0_hasInstruction fu this p_2 X vz9 Xz8 eXz8) rfl ⟨Nat.le_of_ble_eq_true rfl, Nat.le_of_ble_eq_true rfl⟩ ⟨Nat.le_of_ble_eq_true rfl, Nat.le_of_ble_eq_true rfl⟩ (Nat.le_of_ble_eq_true rfl) rfl rfl dX0_canHandle_28 ?_
          refine gx_if_eq (tgt := 38) C dX0_canHandle_31 (by decide) (fun qz10 => ?_) (fun qz10 => ?_)
          · rw [if_pos qz10] at h
            refine gx_sub (lv2 := [none, none, none, none]) [false, false, false, false] rfl ?_
            exact gt_X0_canHandle_38 C fu   Xz8 h
          · rw [if_neg qz10] at h
            refine gx_iconst (v := 1) C dX0_canHandle_34 (by decide) ?_
            refine gx_goto (tgt := 39) C dX0_canHandle_35 (by decide) ?_
            cases h
            exact gx_zret (Or.inr rfl) C dX0_canHandle_39
theorem dX0_canHold_0 : decode cX0_canHold 0 = .ok (.iload_n 1, 1) := by decide +kernel
theorem dX0_canHold_1 : decode cX0_canHold 1 = .ok (.tableswitch 99 0 8 #[89, 51, 51, 57, 73, 73, 89, 89, 89], 51) := by decide +kernel
theorem dX0_canHold_52 : decode cX0_canHold 52 = .ok (.aload_n 0, 1) := by decide +kernel
theorem dX0_canHold_53 : decode cX0_canHold 53 = .ok (.iload_n 2, 1) := by decide +kernel
theorem dX0_canHold_54 : decode cX0_canHold 54 = .ok (.invokevirtual 52, 3) := by decide +kernel
theorem dX0_canHold_57 : decode cX0_canHold 57 = .ok (.ireturn, 1) := by decide +kernel
theorem dX0_canHold_58 : decode cX0_canHold 58 = .ok (.iload_n 2, 1) := by decide +kernel
theorem dX0_canHold_59 : decode cX0_canHold 59 = .ok (.ifCond .lt 13, 3) := by decide +kernel
theorem dX0_canHold_62 : decode cX0_canHold 62 = .ok (.iload_n 2, 1) := by decide +kernel
theorem dX0_canHold_63 : decode cX0_canHold 63 = .ok (.bipush 8, 2) := by decide +kernel
theorem dX0_canHold_65 : decode cX0_canHold 65 = .ok (.if_icmp .ge 7, 3) := by decide +kernel
theorem dX0_canHold_68 : decode cX0_canHold 68 = .ok (.iconst 1, 1) := by decide +kernel
theorem dX0_canHold_69 : decode cX0_canHold 69 = .ok (.goto 4, 3) := by decide +kernel
theorem dX0_canHold_72 : decode cX0_canHold 72 = .ok (.iconst 0, 1) := by decide +kernel
theorem dX0_canHold_73 : decode cX0_canHold 73 = .ok (.ireturn, 1) := by decide +kernel
theorem dX0_canHold_74 : decode cX0_canHold 74 = .ok (.iload_n 2, 1) := by decide +kernel
theorem dX0_canHold_75 : decode cX0_canHold 75 = .ok (.ifCond .lt 13, 3) := by decide +kernel
theorem dX0_canHold_78 : decode cX0_canHold 78 = .ok (.iload_n 2, 1) := by decide +kernel
theorem dX0_canHold_79 : decode cX0_canHold 79 = .ok (.bipush 16, 2) := by decide +kernel
theorem dX0_canHold_81 : decode cX0_canHold 81 = .ok (.if_icmp .ge 7, 3) := by decide +kernel
theorem dX0_canHold_84 : decode cX0_canHold 84 = .ok (.iconst 1, 1) := by decide +kernel
theorem dX0_canHold_85 : decode cX0_canHold 85 = .ok (.goto 4, 3) := by decide +kernel
theorem dX0_canHold_88 : decode cX0_canHold 88 = .ok (.iconst 0, 1) := by decide +kernel
theorem dX0_canHold_89 : decode cX0_canHold 89 = .ok (.ireturn, 1) := by decide +kernel
theorem dX0_canHold_90 : decode cX0_canHold 90 = .ok (.iload_n 2, 1) := by decide +kernel
theorem dX0_canHold_91 : decode cX0_canHold 91 = .ok (.ifCond .ne 7, 3) := by decide +kernel
theorem dX0_canHold_94 : decode cX0_canHold 94 = .ok (.iconst 1, 1) := by decide +kernel
theorem dX0_canHold_95 : decode cX0_canHold 95 = .ok (.goto 4, 3) := by decide +kernel
theorem dX0_canHold_98 : decode cX0_canHold 98 = .ok (.iconst 0, 1) := by decide +kernel
theorem dX0_canHold_99 : decode cX0_canHold 99 = .ok (.ireturn, 1) := by decide +kernel
theorem dX0_canHold_100 : decode cX0_canHold 100 = .ok (.iconst 0, 1) := by decide +kernel
theorem dX0_canHold_101 : decode cX0_canHold 101 = .ok (.ireturn, 1) := by decide +kernel
def gm_X0_canHold_52 (fu : Nat) (a0 : Nat) (x2 : Int32) (X : gx_H) : Option (Int32 × gx_H) :=
  gx_ob X a0 0 <|
  gx_b2 (gm_X0_hasInstruction fu a0 x2 X) fun vz3 Xz2 =>
  (gx_bz vz3).bind fun zz4 =>
  some (vz3, Xz2)
set_option maxHeartbeats 1000000 in
set_option maxRecDepth 20000 in
theorem gt_X0_canHold_52 {p : Program} {l : Launch} {e : Env} {s : State} {m : MethodId} {args : Array Value} {below : List Frame} {meth : Method} {c : Code} {D : gx_D} {r : Int32} {X2 : gx_H}  (C : gx_C D gz_cl gz_at gz_tb gz_nb p s m meth c cX0_canHold 3 RX0 (some .boolean)) (fu : Nat) (a0 : Nat) (x2 : Int32) (X : gx_H) (h : gm_X0_canHold_52 fu  a0 x2 X = some (r, X2)) : gx_W D gz_cl 3 p l e (gx_rm 1 21 0 0) s m args below meth c 0 0 (MQ below (gx_Q D gz_cl (some (gx_i r)) X2) args s 0 0 (gx_Z D)) X 52 [some (gx_r (some a0)), none, some (gx_i x2)] [] := by
  unfold gm_X0_canHold_52 at h
  refine gx_aload_n C dX0_canHold_52 rfl rfl ?_
  refine gx_iload_n C dX0_canHold_53 rfl rfl ?_
  obtain ⟨hoz1, h⟩ := gx_obs h
  obtain ⟨vz3, Xz2, eXz2, h⟩ := gx_bd2 h
  refine gx_callV (As := [gx_i x2]) (st := []) (stk2 := [gx_i vz3]) C cd_X0_hasInstruction wl_279 ws_X0_hasInstruction wl_286 rfl hoz1 (gc_X0_hasInstruction fu a0 x2 X vz3 Xz2 eXz2) rfl ⟨Nat.le_of_ble_eq_true rfl, Nat.le_of_ble_eq_true rfl⟩ ⟨Nat.le_of_ble_eq_true rfl, Nat.le_of_ble_eq_true rfl⟩ (Nat.le_of_ble_eq_true rfl) rfl rfl dX0_canHold_54 ?_
  obtain ⟨zz4, ezz4, h⟩ := gx_bd h
  cases h
  exact gx_zret (gx_bz_s ezz4).2 C dX0_canHold_57
def gm_X0_canHold_72 (fu : Nat)  (X : gx_H) : Option (Int32 × gx_H) :=
  some ((0 : Int32), X)
set_option maxHeartbeats 1000000 in
set_option maxRecDepth 20000 in
theorem gt_X0_canHold_72 {p : Program} {l : Launch} {e : Env} {s : State} {m : MethodId} {args : Array Value} {below : List Frame} {meth : Method} {c : Code} {D : gx_D} {r : Int32} {X2 : gx_H}  (C : gx_C D gz_cl gz_at gz_tb gz_nb p s m meth c cX0_canHold 3 RX0 (some .boolean)) (fu : Nat)  (X : gx_H) (h : gm_X0_canHold_72 fu   X = some (r, X2)) : gx_W D gz_cl 3 p l e (gx_rm 1 21 0 0) s m args below meth c 0 0 (MQ below (gx_Q D gz_cl (some (gx_i r)) X2) args s 0 0 (gx_Z D)) X 72 [none, none, none] [] := by
  unfold gm_X0_canHold_72 at h
  refine gx_iconst (v := 0) C dX0_canHold_72 (by decide) ?_
  cases h
  exact gx_zret (Or.inl rfl) C dX0_canHold_73
def gm_X0_canHold_88 (fu : Nat)  (X : gx_H) : Option (Int32 × gx_H) :=
  some ((0 : Int32), X)
set_option maxHeartbeats 1000000 in
set_option maxRecDepth 20000 in
theorem gt_X0_canHold_88 {p : Program} {l : Launch} {e : Env} {s : State} {m : MethodId} {args : Array Value} {below : List Frame} {meth : Method} {c : Code} {D : gx_D} {r : Int32} {X2 : gx_H}  (C : gx_C D gz_cl gz_at gz_tb gz_nb p s m meth c cX0_canHold 3 RX0 (some .boolean)) (fu : Nat)  (X : gx_H) (h : gm_X0_canHold_88 fu   X = some (r, X2)) : gx_W D gz_cl 3 p l e (gx_rm 1 21 0 0) s m args below meth c 0 0 (MQ below (gx_Q D gz_cl (some (gx_i r)) X2) args s 0 0 (gx_Z D)) X 88 [none, none, none] [] := by
  unfold gm_X0_canHold_88 at h
  refine gx_iconst (v := 0) C dX0_canHold_88 (by decide) ?_
  cases h
  exact gx_zret (Or.inl rfl) C dX0_canHold_89
def gm_X0_canHold_74 (fu : Nat) (x2 : Int32) (X : gx_H) : Option (Int32 × gx_H) :=
  if x2 < 0 then (
  gm_X0_canHold_88 fu   X) else (
  if (16 : Int32) ≤ x2 then (
  gm_X0_canHold_88 fu   X) else (
  some ((1 : Int32), X)))
set_option maxHeartbeats 1000000 in
set_option maxRecDepth 20000 in
theorem gt_X0_canHold_74 {p : Program} {l : Launch} {e : Env} {s : State} {m : MethodId} {args : Array Value} {below : List Frame} {meth : Method} {c : Code} {D : gx_D} {r : Int32} {X2 : gx_H}  (C : gx_C D gz_cl gz_at gz_tb gz_nb p s m meth c cX0_canHold 3 RX0 (some .boolean)) (fu : Nat) (x2 : Int32) (X : gx_H) (h : gm_X0_canHold_74 fu  x2 X = some (r, X2)) : gx_W D gz_cl 3 p l e (gx_rm 1 21 0 0) s m args below meth c 0 0 (MQ below (gx_Q D gz_cl (some (gx_i r)) X2) args s 0 0 (gx_Z D)) X 74 [none, none, some (gx_i x2)] [] := by
  unfold gm_X0_canHold_74 at h
  refine gx_iload_n C dX0_canHold_74 rfl rfl ?_
  refine gx_if_lt (tgt := 88) C dX0_canHold_75 (by decide) (fun qz5 => ?_) (fun qz5 => ?_)
  · rw [if_pos qz5] at h
    refine gx_sub (lv2 := [none, none, none]) [false, false, false] rfl ?_
    exact gt_X0_canHold_88 C fu   X h
  · rw [if_neg qz5] at h
    refine gx_iload_n C dX0_canHold_78 rfl rfl ?_
    refine gx_bipush (v := 16) C dX0_canHold_79 (by decide) ?_
    refine gx_icmp_ge (tgt := 88) C dX0_canHold_81 (by decide) (fun qz6 => ?_) (fun qz6 => ?_)
    · rw [if_pos qz6] at h
      refine gx_sub (lv2 := [none, none, none]) [false, false, false] rfl ?_
      exact gt_X0_canHold_88 C fu   X h
    · rw [if_neg qz6] at h
      refine gx_iconst (v := 1) C dX0_canHold_84 (by decide) ?_
      refine gx_goto (tgt := 89) C dX0_canHold_85 (by decide) ?_
      cases h
      exact gx_zret (Or.inr rfl) C dX0_canHold_89
def gm_X0_canHold_90 (fu : Nat) (x2 : Int32) (X : gx_H) : Option (Int32 × gx_H) :=
  if x2 = 0 then (
  some ((1 : Int32), X)) else (
  some ((0 : Int32), X))
set_option maxHeartbeats 1000000 in
set_option maxRecDepth 20000 in
theorem gt_X0_canHold_90 {p : Program} {l : Launch} {e : Env} {s : State} {m : MethodId} {args : Array Value} {below : List Frame} {meth : Method} {c : Code} {D : gx_D} {r : Int32} {X2 : gx_H}  (C : gx_C D gz_cl gz_at gz_tb gz_nb p s m meth c cX0_canHold 3 RX0 (some .boolean)) (fu : Nat) (x2 : Int32) (X : gx_H) (h : gm_X0_canHold_90 fu  x2 X = some (r, X2)) : gx_W D gz_cl 3 p l e (gx_rm 1 21 0 0) s m args below meth c 0 0 (MQ below (gx_Q D gz_cl (some (gx_i r)) X2) args s 0 0 (gx_Z D)) X 90 [none, none, some (gx_i x2)] [] := by
  unfold gm_X0_canHold_90 at h
  refine gx_iload_n C dX0_canHold_90 rfl rfl ?_
  refine gx_if_ne (tgt := 98) C dX0_canHold_91 (by decide) (fun qz7 => ?_) (fun qz7 => ?_)
  · rw [if_neg qz7] at h
    refine gx_iconst (v := 0) C dX0_canHold_98 (by decide) ?_
    cases h
    exact gx_zret (Or.inl rfl) C dX0_canHold_99
  · rw [if_pos qz7] at h
    refine gx_iconst (v := 1) C dX0_canHold_94 (by decide) ?_
    refine gx_goto (tgt := 99) C dX0_canHold_95 (by decide) ?_
    cases h
    exact gx_zret (Or.inr rfl) C dX0_canHold_99
def gm_X0_canHold (fu : Nat) (this : Nat) (p_0 : Int32) (p_1 : Int32) (X : gx_H) : Option (Int32 × gx_H) :=
  if p_0 = (0 : Int32) then (
  gm_X0_canHold_90 fu  p_1 X) else (
  if p_0 = (1 : Int32) then (
  gm_X0_canHold_52 fu  this p_1 X) else (
  if p_0 = (2 : Int32) then (
  gm_X0_canHold_52 fu  this p_1 X) else (
  if p_0 = (3 : Int32) then (
  if p_1 < 0 then (
  gm_X0_canHold_72 fu   X) else (
  if (8 : Int32) ≤ p_1 then (
  gm_X0_canHold_72 fu   X) else (
  some ((1 : Int32), X)))) else (
  if p_0 = (4 : Int32) then (
  gm_X0_canHold_74 fu  p_1 X) else (
  if p_0 = (5 : Int32) then (
  gm_X0_canHold_74 fu  p_1 X) else (
  if p_0 = (6 : Int32) then (
  gm_X0_canHold_90 fu  p_1 X) else (
  if p_0 = (7 : Int32) then (
  gm_X0_canHold_90 fu  p_1 X) else (
  if p_0 = (8 : Int32) then (
  gm_X0_canHold_90 fu  p_1 X) else (
  some ((0 : Int32), X))))))))))
set_option maxHeartbeats 1000000 in
set_option maxRecDepth 20000 in
theorem gc_X0_canHold {l : Launch} {D : gx_D} (fu : Nat) (this : Nat) (p_0 : Int32) (p_1 : Int32) (X : gx_H) (r : Int32) (X2 : gx_H) (h : gm_X0_canHold fu this p_0 p_1 X = some (r, X2)) : gx_M D gz_cl gz_at gz_tb gz_nb l yX0_canHold cX0_canHold 3 (some .boolean) 1 21 [gx_r (some this), gx_i p_0, gx_i p_1] X (some (gx_i r)) X2 0 0 := by
  unfold gm_X0_canHold at h
  refine gx_enter [some (gx_r (some this)), some (gx_i p_0), some (gx_i p_1)] rfl (by decide) (Nat.le_of_ble_eq_true rfl) ?_
  intro p e s m below meth c C _
  refine gx_iload_n C dX0_canHold_0 rfl rfl ?_
  by_cases qz8_0 : p_0 = (0 : Int32)
  · rw [if_pos qz8_0] at h
    refine gx_swIn (tgt := 90) (off := 89) C dX0_canHold_1 (by rw [qz8_0]; decide) (by rw [qz8_0]; decide) (by rw [qz8_0]; decide) (by decide) ?_
    refine gx_sub (lv2 := [none, none, some (gx_i p_1)]) [false, false, true] rfl ?_
    exact gt_X0_canHold_90 C fu  p_1 X h
  rw [if_neg qz8_0] at h
  by_cases qz8_1 : p_0 = (1 : Int32)
  · rw [if_pos qz8_1] at h
    refine gx_swIn (tgt := 52) (off := 51) C dX0_canHold_1 (by rw [qz8_1]; decide) (by rw [qz8_1]; decide) (by rw [qz8_1]; decide) (by decide) ?_
    refine gx_sub (lv2 := [some (gx_r (some this)), none, some (gx_i p_1)]) [true, false, true] rfl ?_
    exact gt_X0_canHold_52 C fu  this p_1 X h
  rw [if_neg qz8_1] at h
  by_cases qz8_2 : p_0 = (2 : Int32)
  · rw [if_pos qz8_2] at h
    refine gx_swIn (tgt := 52) (off := 51) C dX0_canHold_1 (by rw [qz8_2]; decide) (by rw [qz8_2]; decide) (by rw [qz8_2]; decide) (by decide) ?_
    refine gx_sub (lv2 := [some (gx_r (some this)), none, some (gx_i p_1)]) [true, false, true] rfl ?_
    exact gt_X0_canHold_52 C fu  this p_1 X h
  rw [if_neg qz8_2] at h
  by_cases qz8_3 : p_0 = (3 : Int32)
  · rw [if_pos qz8_3] at h
    refine gx_swIn (tgt := 58) (off := 57) C dX0_canHold_1 (by rw [qz8_3]; decide) (by rw [qz8_3]; decide) (by rw [qz8_3]; decide) (by decide) ?_
    refine gx_iload_n C dX0_canHold_58 rfl rfl ?_
    refine gx_if_lt (tgt := 72) C dX0_canHold_59 (by decide) (fun qz9 => ?_) (fun qz9 => ?_)
    · rw [if_pos qz9] at h
      refine gx_sub (lv2 := [none, none, none]) [false, false, false] rfl ?_
      exact gt_X0_canHold_72 C fu   X h
    · rw [if_neg qz9] at h
      refine gx_iload_n C dX0_canHold_62 rfl rfl ?_
      refine gx_bipush (v := 8) C dX0_canHold_63 (by decide) ?_
      refine gx_icmp_ge (tgt := 72) C dX0_canHold_65 (by decide) (fun qz10 => ?_) (fun qz10 => ?_)
      · rw [if_pos qz10] at h
        refine gx_sub (lv2 := [none, none, none]) [false, false, false] rfl ?_
        exact gt_X0_canHold_72 C fu   X h
      · rw [if_neg qz10] at h
        refine gx_iconst (v := 1) C dX0_canHold_68 (by decide) ?_
        refine gx_goto (tgt := 73) C dX0_canHold_69 (by decide) ?_
        cases h
        exact gx_zret (Or.inr rfl) C dX0_canHold_73
  rw [if_neg qz8_3] at h
  by_cases qz8_4 : p_0 = (4 : Int32)
  · rw [if_pos qz8_4] at h
    refine gx_swIn (tgt := 74) (off := 73) C dX0_canHold_1 (by rw [qz8_4]; decide) (by rw [qz8_4]; decide) (by rw [qz8_4]; decide) (by decide) ?_
    refine gx_sub (lv2 := [none, none, some (gx_i p_1)]) [false, false, true] rfl ?_
    exact gt_X0_canHold_74 C fu  p_1 X h
  rw [if_neg qz8_4] at h
  by_cases qz8_5 : p_0 = (5 : Int32)
  · rw [if_pos qz8_5] at h
    refine gx_swIn (tgt := 74) (off := 73) C dX0_canHold_1 (by rw [qz8_5]; decide) (by rw [qz8_5]; decide) (by rw [qz8_5]; decide) (by decide) ?_
    refine gx_sub (lv2 := [none, none, some (gx_i p_1)]) [false, false, true] rfl ?_
    exact gt_X0_canHold_74 C fu  p_1 X h
  rw [if_neg qz8_5] at h
  by_cases qz8_6 : p_0 = (6 : Int32)
  · rw [if_pos qz8_6] at h
    refine gx_swIn (tgt := 90) (off := 89) C dX0_canHold_1 (by rw [qz8_6]; decide) (by rw [qz8_6]; decide) (by rw [qz8_6]; decide) (by decide) ?_
    refine gx_sub (lv2 := [none, none, some (gx_i p_1)]) [false, false, true] rfl ?_
    exact gt_X0_canHold_90 C fu  p_1 X h
  rw [if_neg qz8_6] at h
  by_cases qz8_7 : p_0 = (7 : Int32)
  · rw [if_pos qz8_7] at h
    refine gx_swIn (tgt := 90) (off := 89) C dX0_canHold_1 (by rw [qz8_7]; decide) (by rw [qz8_7]; decide) (by rw [qz8_7]; decide) (by decide) ?_
    refine gx_sub (lv2 := [none, none, some (gx_i p_1)]) [false, false, true] rfl ?_
    exact gt_X0_canHold_90 C fu  p_1 X h
  rw [if_neg qz8_7] at h
  by_cases qz8_8 : p_0 = (8 : Int32)
  · rw [if_pos qz8_8] at h
    refine gx_swIn (tgt := 90) (off := 89) C dX0_canHold_1 (by rw [qz8_8]; decide) (by rw [qz8_8]; decide) (by rw [qz8_8]; decide) (by decide) ?_
    refine gx_sub (lv2 := [none, none, some (gx_i p_1)]) [false, false, true] rfl ?_
    exact gt_X0_canHold_90 C fu  p_1 X h
  rw [if_neg qz8_8] at h
  refine gx_swOut (tgt := 100) C dX0_canHold_1 (by have n0 := lv_neT qz8_0 (a := 0) (by decide); have n1 := lv_neT qz8_1 (a := 1) (by decide); have n2 := lv_neT qz8_2 (a := 2) (by decide); have n3 := lv_neT qz8_3 (a := 3) (by decide); have n4 := lv_neT qz8_4 (a := 4) (by decide); have n5 := lv_neT qz8_5 (a := 5) (by decide); have n6 := lv_neT qz8_6 (a := 6) (by decide); have n7 := lv_neT qz8_7 (a := 7) (by decide); have n8 := lv_neT qz8_8 (a := 8) (by decide); omega) (by decide) ?_
  refine gx_iconst (v := 0) C dX0_canHold_100 (by decide) ?_
  cases h
  exact gx_zret (Or.inl rfl) C dX0_canHold_101
theorem dX0_countOfKind_0 : decode cX0_countOfKind 0 = .ok (.iconst 0, 1) := by decide +kernel
theorem dX0_countOfKind_1 : decode cX0_countOfKind 1 = .ok (.istore_n 2, 1) := by decide +kernel
theorem dX0_countOfKind_2 : decode cX0_countOfKind 2 = .ok (.iconst 0, 1) := by decide +kernel
theorem dX0_countOfKind_3 : decode cX0_countOfKind 3 = .ok (.istore_n 3, 1) := by decide +kernel
theorem dX0_countOfKind_4 : decode cX0_countOfKind 4 = .ok (.iload_n 3, 1) := by decide +kernel
theorem dX0_countOfKind_5 : decode cX0_countOfKind 5 = .ok (.aload_n 0, 1) := by decide +kernel
theorem dX0_countOfKind_6 : decode cX0_countOfKind 6 = .ok (.getfield 42, 3) := by decide +kernel
theorem dX0_countOfKind_9 : decode cX0_countOfKind 9 = .ok (.if_icmp .ge 27, 3) := by decide +kernel
theorem dX0_countOfKind_12 : decode cX0_countOfKind 12 = .ok (.iload_n 2, 1) := by decide +kernel
theorem dX0_countOfKind_13 : decode cX0_countOfKind 13 = .ok (.aload_n 0, 1) := by decide +kernel
theorem dX0_countOfKind_14 : decode cX0_countOfKind 14 = .ok (.getfield 9, 3) := by decide +kernel
theorem dX0_countOfKind_17 : decode cX0_countOfKind 17 = .ok (.iload_n 3, 1) := by decide +kernel
theorem dX0_countOfKind_18 : decode cX0_countOfKind 18 = .ok (.iaload, 1) := by decide +kernel
theorem dX0_countOfKind_19 : decode cX0_countOfKind 19 = .ok (.iload_n 1, 1) := by decide +kernel
theorem dX0_countOfKind_20 : decode cX0_countOfKind 20 = .ok (.if_icmp .ne 7, 3) := by decide +kernel
theorem dX0_countOfKind_23 : decode cX0_countOfKind 23 = .ok (.iconst 1, 1) := by decide +kernel
theorem dX0_countOfKind_24 : decode cX0_countOfKind 24 = .ok (.goto 4, 3) := by decide +kernel
theorem dX0_countOfKind_27 : decode cX0_countOfKind 27 = .ok (.iconst 0, 1) := by decide +kernel
theorem dX0_countOfKind_28 : decode cX0_countOfKind 28 = .ok (.iadd, 1) := by decide +kernel
theorem dX0_countOfKind_29 : decode cX0_countOfKind 29 = .ok (.istore_n 2, 1) := by decide +kernel
theorem dX0_countOfKind_30 : decode cX0_countOfKind 30 = .ok (.iinc 3 1, 3) := by decide +kernel
theorem dX0_countOfKind_33 : decode cX0_countOfKind 33 = .ok (.goto (-29), 3) := by decide +kernel
theorem dX0_countOfKind_36 : decode cX0_countOfKind 36 = .ok (.iload_n 2, 1) := by decide +kernel
theorem dX0_countOfKind_37 : decode cX0_countOfKind 37 = .ok (.ireturn, 1) := by decide +kernel
def gm_X0_countOfKind_28 (fu : Nat) (K4 : Nat → Int32 → Int32 → Int32 → gx_H → Option (Int32 × gx_H)) (a0 : Nat) (x1 : Int32) (x3 : Int32) (sx0 : Int32) (sx1 : Int32) (X : gx_H) : Option (Int32 × gx_H) :=
  K4 a0 x1 (sx0 + sx1) (x3 + 1) X
set_option maxHeartbeats 1000000 in
set_option maxRecDepth 20000 in
theorem gt_X0_countOfKind_28 {p : Program} {l : Launch} {e : Env} {s : State} {m : MethodId} {args : Array Value} {below : List Frame} {meth : Method} {c : Code} {D : gx_D} {r : Int32} {X2 : gx_H}  (C : gx_C D gz_cl gz_at gz_tb gz_nb p s m meth c cX0_countOfKind 4 RX0 (some .int)) (fu : Nat) (K4 : Nat → Int32 → Int32 → Int32 → gx_H → Option (Int32 × gx_H)) (hK4 : ∀ (a0 : Nat) (x1 : Int32) (x2 : Int32) (x3 : Int32) (X : gx_H), K4 a0 x1 x2 x3 X = some (r, X2) → gx_W D gz_cl 4 p l e (gx_rm 0 0 0 0) s m args below meth c 0 0 (MQ below (gx_Q D gz_cl (some (gx_i r)) X2) args s 0 0 (gx_Z D)) X 4 [some (gx_r (some a0)), some (gx_i x1), some (gx_i x2), some (gx_i x3)] []) (a0 : Nat) (x1 : Int32) (x3 : Int32) (sx0 : Int32) (sx1 : Int32) (X : gx_H) (h : gm_X0_countOfKind_28 fu K4 a0 x1 x3 sx0 sx1 X = some (r, X2)) : gx_W D gz_cl 4 p l e (gx_rm 0 0 0 0) s m args below meth c 0 0 (MQ below (gx_Q D gz_cl (some (gx_i r)) X2) args s 0 0 (gx_Z D)) X 28 [some (gx_r (some a0)), some (gx_i x1), none, some (gx_i x3)] [gx_i sx1, gx_i sx0] := by
  unfold gm_X0_countOfKind_28 at h
  refine gx_iadd C dX0_countOfKind_28 ?_
  refine gx_istore_n (lv2 := [some (gx_r (some a0)), some (gx_i x1), some (gx_i (sx0 + sx1)), some (gx_i x3)]) C dX0_countOfKind_29 rfl (by decide) rfl ?_
  refine gx_iinc (v := (x3 + 1)) (lv2 := [some (gx_r (some a0)), some (gx_i x1), some (gx_i (sx0 + sx1)), some (gx_i (x3 + 1))]) C dX0_countOfKind_30 rfl rfl (by decide) rfl ?_
  refine gx_goto (tgt := 4) C dX0_countOfKind_33 (by decide) ?_
  exact hK4 a0 x1 (sx0 + sx1) (x3 + 1) X h
def gm_X0_countOfKind_4 (fu : Nat) : Nat → Nat → Int32 → Int32 → Int32 → gx_H → Option (Int32 × gx_H)
  | 0, _, _, _, _, _ => none
  | n + 1, a0, x1, x2, x3, X =>
    (gx_gi X a0 0 6).bind fun vz1 =>
    if vz1 ≤ x3 then (
    some (x2, X)) else (
    (gx_gd X a0 0 1).bind fun az3 =>
    (gx_gai X az3 0 x3).bind fun vz4 =>
    if vz4 = x1 then (
    gm_X0_countOfKind_28 fu (gm_X0_countOfKind_4 fu  n) a0 x1 x3 x2 (1 : Int32) X) else (
    gm_X0_countOfKind_28 fu (gm_X0_countOfKind_4 fu  n) a0 x1 x3 x2 (0 : Int32) X))
set_option maxHeartbeats 1000000 in
set_option maxRecDepth 20000 in
theorem gt_X0_countOfKind_4 {p : Program} {l : Launch} {e : Env} {s : State} {m : MethodId} {args : Array Value} {below : List Frame} {meth : Method} {c : Code} {D : gx_D} {r : Int32} {X2 : gx_H}  (C : gx_C D gz_cl gz_at gz_tb gz_nb p s m meth c cX0_countOfKind 4 RX0 (some .int)) (fu : Nat) : ∀ (n : Nat) (a0 : Nat) (x1 : Int32) (x2 : Int32) (x3 : Int32) (X : gx_H) , gm_X0_countOfKind_4 fu  n a0 x1 x2 x3 X = some (r, X2) → gx_W D gz_cl 4 p l e (gx_rm 0 0 0 0) s m args below meth c 0 0 (MQ below (gx_Q D gz_cl (some (gx_i r)) X2) args s 0 0 (gx_Z D)) X 4 [some (gx_r (some a0)), some (gx_i x1), some (gx_i x2), some (gx_i x3)] [] := by
  intro n
  induction n with
  | zero =>
    intro a0 x1 x2 x3 X h
    have h : none = some _ := h
    cases h
  | succ n ih =>
    intro a0 x1 x2 x3 X h
    rw [gm_X0_countOfKind_4] at h
    refine gx_iload_n C dX0_countOfKind_4 rfl rfl ?_
    refine gx_aload_n C dX0_countOfKind_5 rfl rfl ?_
    obtain ⟨vz1, evz1, h⟩ := gx_bd h
    refine gx_get C kcX0 6 (by decide) wl_204 (gx_gi_s evz1) dX0_countOfKind_6 ?_
    refine gx_icmp_ge (tgt := 36) C dX0_countOfKind_9 (by decide) (fun qz2 => ?_) (fun qz2 => ?_)
    · rw [if_pos qz2] at h
      refine gx_iload_n C dX0_countOfKind_36 rfl rfl ?_
      cases h
      exact gx_iret C dX0_countOfKind_37
    · rw [if_neg qz2] at h
      refine gx_iload_n C dX0_countOfKind_12 rfl rfl ?_
      refine gx_aload_n C dX0_countOfKind_13 rfl rfl ?_
      obtain ⟨az3, eaz3, h⟩ := gx_bd h
      refine gx_get C kcX0 1 (by decide) wl_182 (gx_gd_s eaz3) dX0_countOfKind_14 ?_
      refine gx_iload_n C dX0_countOfKind_17 rfl rfl ?_
      obtain ⟨vz4, evz4, h⟩ := gx_bd h
      refine gx_iald C (t := 0) rfl evz4 dX0_countOfKind_18 ?_
      refine gx_iload_n C dX0_countOfKind_19 rfl rfl ?_
      refine gx_icmp_ne (tgt := 27) C dX0_countOfKind_20 (by decide) (fun qz5 => ?_) (fun qz5 => ?_)
      · rw [if_neg qz5] at h
        refine gx_iconst (v := 0) C dX0_countOfKind_27 (by decide) ?_
        refine gx_sub (lv2 := [some (gx_r (some a0)), some (gx_i x1), none, some (gx_i x3)]) [true, true, false, true] rfl ?_
        exact gt_X0_countOfKind_28 C fu (gm_X0_countOfKind_4 fu  n) ih a0 x1 x3 x2 (0 : Int32) X h
      · rw [if_pos qz5] at h
        refine gx_iconst (v := 1) C dX0_countOfKind_23 (by decide) ?_
        refine gx_goto (tgt := 28) C dX0_countOfKind_24 (by decide) ?_
        refine gx_sub (lv2 := [some (gx_r (some a0)), some (gx_i x1), none, some (gx_i x3)]) [true, true, false, true] rfl ?_
        exact gt_X0_countOfKind_28 C fu (gm_X0_countOfKind_4 fu  n) ih a0 x1 x3 x2 (1 : Int32) X h
def gm_X0_countOfKind (fu : Nat) (this : Nat) (p_0 : Int32) (X : gx_H) : Option (Int32 × gx_H) :=
  gm_X0_countOfKind_4 fu  fu this p_0 (0 : Int32) (0 : Int32) X
set_option maxHeartbeats 1000000 in
set_option maxRecDepth 20000 in
theorem gc_X0_countOfKind {l : Launch} {D : gx_D} (fu : Nat) (this : Nat) (p_0 : Int32) (X : gx_H) (r : Int32) (X2 : gx_H) (h : gm_X0_countOfKind fu this p_0 X = some (r, X2)) : gx_M D gz_cl gz_at gz_tb gz_nb l yX0_countOfKind cX0_countOfKind 4 (some .int) 0 0 [gx_r (some this), gx_i p_0] X (some (gx_i r)) X2 0 0 := by
  unfold gm_X0_countOfKind at h
  refine gx_enter [some (gx_r (some this)), some (gx_i p_0), none, none] rfl (by decide) (Nat.le_of_ble_eq_true rfl) ?_
  intro p e s m below meth c C _
  refine gx_iconst (v := 0) C dX0_countOfKind_0 (by decide) ?_
  refine gx_istore_n (lv2 := [some (gx_r (some this)), some (gx_i p_0), some (gx_i (0 : Int32)), none]) C dX0_countOfKind_1 rfl (by decide) rfl ?_
  refine gx_iconst (v := 0) C dX0_countOfKind_2 (by decide) ?_
  refine gx_istore_n (lv2 := [some (gx_r (some this)), some (gx_i p_0), some (gx_i (0 : Int32)), some (gx_i (0 : Int32))]) C dX0_countOfKind_3 rfl (by decide) rfl ?_
  exact gt_X0_countOfKind_4 C fu  fu this p_0 (0 : Int32) (0 : Int32) X h
theorem dX0_countReached_0 : decode cX0_countReached 0 = .ok (.iconst 0, 1) := by decide +kernel
theorem dX0_countReached_1 : decode cX0_countReached 1 = .ok (.istore_n 1, 1) := by decide +kernel
theorem dX0_countReached_2 : decode cX0_countReached 2 = .ok (.iconst 0, 1) := by decide +kernel
theorem dX0_countReached_3 : decode cX0_countReached 3 = .ok (.istore_n 2, 1) := by decide +kernel
theorem dX0_countReached_4 : decode cX0_countReached 4 = .ok (.iload_n 2, 1) := by decide +kernel
theorem dX0_countReached_5 : decode cX0_countReached 5 = .ok (.aload_n 0, 1) := by decide +kernel
theorem dX0_countReached_6 : decode cX0_countReached 6 = .ok (.getfield 42, 3) := by decide +kernel
theorem dX0_countReached_9 : decode cX0_countReached 9 = .ok (.if_icmp .ge 28, 3) := by decide +kernel
theorem dX0_countReached_12 : decode cX0_countReached 12 = .ok (.iload_n 1, 1) := by decide +kernel
theorem dX0_countReached_13 : decode cX0_countReached 13 = .ok (.aload_n 0, 1) := by decide +kernel
theorem dX0_countReached_14 : decode cX0_countReached 14 = .ok (.getfield 27, 3) := by decide +kernel
theorem dX0_countReached_17 : decode cX0_countReached 17 = .ok (.iload_n 2, 1) := by decide +kernel
theorem dX0_countReached_18 : decode cX0_countReached 18 = .ok (.laload, 1) := by decide +kernel
theorem dX0_countReached_19 : decode cX0_countReached 19 = .ok (.lconst 0, 1) := by decide +kernel
theorem dX0_countReached_20 : decode cX0_countReached 20 = .ok (.lcmp, 1) := by decide +kernel
theorem dX0_countReached_21 : decode cX0_countReached 21 = .ok (.ifCond .eq 7, 3) := by decide +kernel
theorem dX0_countReached_24 : decode cX0_countReached 24 = .ok (.iconst 1, 1) := by decide +kernel
theorem dX0_countReached_25 : decode cX0_countReached 25 = .ok (.goto 4, 3) := by decide +kernel
theorem dX0_countReached_28 : decode cX0_countReached 28 = .ok (.iconst 0, 1) := by decide +kernel
theorem dX0_countReached_29 : decode cX0_countReached 29 = .ok (.iadd, 1) := by decide +kernel
theorem dX0_countReached_30 : decode cX0_countReached 30 = .ok (.istore_n 1, 1) := by decide +kernel
theorem dX0_countReached_31 : decode cX0_countReached 31 = .ok (.iinc 2 1, 3) := by decide +kernel
theorem dX0_countReached_34 : decode cX0_countReached 34 = .ok (.goto (-30), 3) := by decide +kernel
theorem dX0_countReached_37 : decode cX0_countReached 37 = .ok (.iload_n 1, 1) := by decide +kernel
theorem dX0_countReached_38 : decode cX0_countReached 38 = .ok (.ireturn, 1) := by decide +kernel
def gm_X0_countReached_29 (fu : Nat) (K4 : Nat → Int32 → Int32 → gx_H → Option (Int32 × gx_H)) (a0 : Nat) (x2 : Int32) (sx0 : Int32) (sx1 : Int32) (X : gx_H) : Option (Int32 × gx_H) :=
  K4 a0 (sx0 + sx1) (x2 + 1) X
set_option maxHeartbeats 1000000 in
set_option maxRecDepth 20000 in
theorem gt_X0_countReached_29 {p : Program} {l : Launch} {e : Env} {s : State} {m : MethodId} {args : Array Value} {below : List Frame} {meth : Method} {c : Code} {D : gx_D} {r : Int32} {X2 : gx_H}  (C : gx_C D gz_cl gz_at gz_tb gz_nb p s m meth c cX0_countReached 3 RX0 (some .int)) (fu : Nat) (K4 : Nat → Int32 → Int32 → gx_H → Option (Int32 × gx_H)) (hK4 : ∀ (a0 : Nat) (x1 : Int32) (x2 : Int32) (X : gx_H), K4 a0 x1 x2 X = some (r, X2) → gx_W D gz_cl 3 p l e (gx_rm 0 0 0 0) s m args below meth c 0 0 (MQ below (gx_Q D gz_cl (some (gx_i r)) X2) args s 0 0 (gx_Z D)) X 4 [some (gx_r (some a0)), some (gx_i x1), some (gx_i x2)] []) (a0 : Nat) (x2 : Int32) (sx0 : Int32) (sx1 : Int32) (X : gx_H) (h : gm_X0_countReached_29 fu K4 a0 x2 sx0 sx1 X = some (r, X2)) : gx_W D gz_cl 3 p l e (gx_rm 0 0 0 0) s m args below meth c 0 0 (MQ below (gx_Q D gz_cl (some (gx_i r)) X2) args s 0 0 (gx_Z D)) X 29 [some (gx_r (some a0)), none, some (gx_i x2)] [gx_i sx1, gx_i sx0] := by
  unfold gm_X0_countReached_29 at h
  refine gx_iadd C dX0_countReached_29 ?_
  refine gx_istore_n (lv2 := [some (gx_r (some a0)), some (gx_i (sx0 + sx1)), some (gx_i x2)]) C dX0_countReached_30 rfl (by decide) rfl ?_
  refine gx_iinc (v := (x2 + 1)) (lv2 := [some (gx_r (some a0)), some (gx_i (sx0 + sx1)), some (gx_i (x2 + 1))]) C dX0_countReached_31 rfl rfl (by decide) rfl ?_
  refine gx_goto (tgt := 4) C dX0_countReached_34 (by decide) ?_
  exact hK4 a0 (sx0 + sx1) (x2 + 1) X h
def gm_X0_countReached_4 (fu : Nat) : Nat → Nat → Int32 → Int32 → gx_H → Option (Int32 × gx_H)
  | 0, _, _, _, _ => none
  | n + 1, a0, x1, x2, X =>
    (gx_gi X a0 0 6).bind fun vz1 =>
    if vz1 ≤ x2 then (
    some (x1, X)) else (
    (gx_gd X a0 0 8).bind fun az3 =>
    (gx_gal X az3 1 x2).bind fun vz4 =>
    if (lg_cmp vz4 (0 : Int64)) = 0 then (
    gm_X0_countReached_29 fu (gm_X0_countReached_4 fu  n) a0 x2 x1 (0 : Int32) X) else (
    gm_X0_countReached_29 fu (gm_X0_countReached_4 fu  n) a0 x2 x1 (1 : Int32) X))
set_option maxHeartbeats 1000000 in
set_option maxRecDepth 20000 in
theorem gt_X0_countReached_4 {p : Program} {l : Launch} {e : Env} {s : State} {m : MethodId} {args : Array Value} {below : List Frame} {meth : Method} {c : Code} {D : gx_D} {r : Int32} {X2 : gx_H}  (C : gx_C D gz_cl gz_at gz_tb gz_nb p s m meth c cX0_countReached 3 RX0 (some .int)) (fu : Nat) : ∀ (n : Nat) (a0 : Nat) (x1 : Int32) (x2 : Int32) (X : gx_H) , gm_X0_countReached_4 fu  n a0 x1 x2 X = some (r, X2) → gx_W D gz_cl 3 p l e (gx_rm 0 0 0 0) s m args below meth c 0 0 (MQ below (gx_Q D gz_cl (some (gx_i r)) X2) args s 0 0 (gx_Z D)) X 4 [some (gx_r (some a0)), some (gx_i x1), some (gx_i x2)] [] := by
  intro n
  induction n with
  | zero =>
    intro a0 x1 x2 X h
    have h : none = some _ := h
    cases h
  | succ n ih =>
    intro a0 x1 x2 X h
    rw [gm_X0_countReached_4] at h
    refine gx_iload_n C dX0_countReached_4 rfl rfl ?_
    refine gx_aload_n C dX0_countReached_5 rfl rfl ?_
    obtain ⟨vz1, evz1, h⟩ := gx_bd h
    refine gx_get C kcX0 6 (by decide) wl_204 (gx_gi_s evz1) dX0_countReached_6 ?_
    refine gx_icmp_ge (tgt := 37) C dX0_countReached_9 (by decide) (fun qz2 => ?_) (fun qz2 => ?_)
    · rw [if_pos qz2] at h
      refine gx_iload_n C dX0_countReached_37 rfl rfl ?_
      cases h
      exact gx_iret C dX0_countReached_38
    · rw [if_neg qz2] at h
      refine gx_iload_n C dX0_countReached_12 rfl rfl ?_
      refine gx_aload_n C dX0_countReached_13 rfl rfl ?_
      obtain ⟨az3, eaz3, h⟩ := gx_bd h
      refine gx_get C kcX0 8 (by decide) wl_213 (gx_gd_s eaz3) dX0_countReached_14 ?_
      refine gx_iload_n C dX0_countReached_17 rfl rfl ?_
      obtain ⟨vz4, evz4, h⟩ := gx_bd h
      refine gx_lald C (t := 1) rfl evz4 dX0_countReached_18 ?_
      refine gx_lconst (v := 0) C dX0_countReached_19 (by decide) ?_
      refine gx_lcmp C dX0_countReached_20 ?_
      refine gx_if_eq (tgt := 28) C dX0_countReached_21 (by decide) (fun qz5 => ?_) (fun qz5 => ?_)
      · rw [if_pos qz5] at h
        refine gx_iconst (v := 0) C dX0_countReached_28 (by decide) ?_
        refine gx_sub (lv2 := [some (gx_r (some a0)), none, some (gx_i x2)]) [true, false, true] rfl ?_
        exact gt_X0_countReached_29 C fu (gm_X0_countReached_4 fu  n) ih a0 x2 x1 (0 : Int32) X h
      · rw [if_neg qz5] at h
        refine gx_iconst (v := 1) C dX0_countReached_24 (by decide) ?_
        refine gx_goto (tgt := 29) C dX0_countReached_25 (by decide) ?_
        refine gx_sub (lv2 := [some (gx_r (some a0)), none, some (gx_i x2)]) [true, false, true] rfl ?_
        exact gt_X0_countReached_29 C fu (gm_X0_countReached_4 fu  n) ih a0 x2 x1 (1 : Int32) X h
def gm_X0_countReached (fu : Nat) (this : Nat) (X : gx_H) : Option (Int32 × gx_H) :=
  gm_X0_countReached_4 fu  fu this (0 : Int32) (0 : Int32) X
set_option maxHeartbeats 1000000 in
set_option maxRecDepth 20000 in
theorem gc_X0_countReached {l : Launch} {D : gx_D} (fu : Nat) (this : Nat) (X : gx_H) (r : Int32) (X2 : gx_H) (h : gm_X0_countReached fu this X = some (r, X2)) : gx_M D gz_cl gz_at gz_tb gz_nb l yX0_countReached cX0_countReached 3 (some .int) 0 0 [gx_r (some this)] X (some (gx_i r)) X2 0 0 := by
  unfold gm_X0_countReached at h
  refine gx_enter [some (gx_r (some this)), none, none] rfl (by decide) (Nat.le_of_ble_eq_true rfl) ?_
  intro p e s m below meth c C _
  refine gx_iconst (v := 0) C dX0_countReached_0 (by decide) ?_
  refine gx_istore_n (lv2 := [some (gx_r (some this)), some (gx_i (0 : Int32)), none]) C dX0_countReached_1 rfl (by decide) rfl ?_
  refine gx_iconst (v := 0) C dX0_countReached_2 (by decide) ?_
  refine gx_istore_n (lv2 := [some (gx_r (some this)), some (gx_i (0 : Int32)), some (gx_i (0 : Int32))]) C dX0_countReached_3 rfl (by decide) rfl ?_
  exact gt_X0_countReached_4 C fu  fu this (0 : Int32) (0 : Int32) X h
theorem dX0_goesToNumber_0 : decode cX0_goesToNumber 0 = .ok (.aload_n 0, 1) := by decide +kernel
theorem dX0_goesToNumber_1 : decode cX0_goesToNumber 1 = .ok (.getfield 9, 3) := by decide +kernel
theorem dX0_goesToNumber_4 : decode cX0_goesToNumber 4 = .ok (.iload_n 1, 1) := by decide +kernel
theorem dX0_goesToNumber_5 : decode cX0_goesToNumber 5 = .ok (.iaload, 1) := by decide +kernel
theorem dX0_goesToNumber_6 : decode cX0_goesToNumber 6 = .ok (.iconst 1, 1) := by decide +kernel
theorem dX0_goesToNumber_7 : decode cX0_goesToNumber 7 = .ok (.if_icmp .eq 13, 3) := by decide +kernel
theorem dX0_goesToNumber_10 : decode cX0_goesToNumber 10 = .ok (.aload_n 0, 1) := by decide +kernel
theorem dX0_goesToNumber_11 : decode cX0_goesToNumber 11 = .ok (.getfield 9, 3) := by decide +kernel
theorem dX0_goesToNumber_14 : decode cX0_goesToNumber 14 = .ok (.iload_n 1, 1) := by decide +kernel
theorem dX0_goesToNumber_15 : decode cX0_goesToNumber 15 = .ok (.iaload, 1) := by decide +kernel
theorem dX0_goesToNumber_16 : decode cX0_goesToNumber 16 = .ok (.iconst 2, 1) := by decide +kernel
theorem dX0_goesToNumber_17 : decode cX0_goesToNumber 17 = .ok (.if_icmp .ne 7, 3) := by decide +kernel
theorem dX0_goesToNumber_20 : decode cX0_goesToNumber 20 = .ok (.iconst 1, 1) := by decide +kernel
theorem dX0_goesToNumber_21 : decode cX0_goesToNumber 21 = .ok (.goto 4, 3) := by decide +kernel
theorem dX0_goesToNumber_24 : decode cX0_goesToNumber 24 = .ok (.iconst 0, 1) := by decide +kernel
theorem dX0_goesToNumber_25 : decode cX0_goesToNumber 25 = .ok (.ireturn, 1) := by decide +kernel
def gm_X0_goesToNumber_20 (fu : Nat)  (X : gx_H) : Option (Int32 × gx_H) :=
  some ((1 : Int32), X)
set_option maxHeartbeats 1000000 in
set_option maxRecDepth 20000 in
theorem gt_X0_goesToNumber_20 {p : Program} {l : Launch} {e : Env} {s : State} {m : MethodId} {args : Array Value} {below : List Frame} {meth : Method} {c : Code} {D : gx_D} {r : Int32} {X2 : gx_H}  (C : gx_C D gz_cl gz_at gz_tb gz_nb p s m meth c cX0_goesToNumber 2 RX0 (some .boolean)) (fu : Nat)  (X : gx_H) (h : gm_X0_goesToNumber_20 fu   X = some (r, X2)) : gx_W D gz_cl 2 p l e (gx_rm 0 0 0 0) s m args below meth c 0 0 (MQ below (gx_Q D gz_cl (some (gx_i r)) X2) args s 0 0 (gx_Z D)) X 20 [none, none] [] := by
  unfold gm_X0_goesToNumber_20 at h
  refine gx_iconst (v := 1) C dX0_goesToNumber_20 (by decide) ?_
  refine gx_goto (tgt := 25) C dX0_goesToNumber_21 (by decide) ?_
  cases h
  exact gx_zret (Or.inr rfl) C dX0_goesToNumber_25
def gm_X0_goesToNumber (fu : Nat) (this : Nat) (p_0 : Int32) (X : gx_H) : Option (Int32 × gx_H) :=
  (gx_gd X this 0 1).bind fun az1 =>
  (gx_gai X az1 0 p_0).bind fun vz2 =>
  if vz2 = (1 : Int32) then (
  gm_X0_goesToNumber_20 fu   X) else (
  (gx_gd X this 0 1).bind fun az4 =>
  (gx_gai X az4 0 p_0).bind fun vz5 =>
  if vz5 = (2 : Int32) then (
  gm_X0_goesToNumber_20 fu   X) else (
  some ((0 : Int32), X)))
set_option maxHeartbeats 1000000 in
set_option maxRecDepth 20000 in
theorem gc_X0_goesToNumber {l : Launch} {D : gx_D} (fu : Nat) (this : Nat) (p_0 : Int32) (X : gx_H) (r : Int32) (X2 : gx_H) (h : gm_X0_goesToNumber fu this p_0 X = some (r, X2)) : gx_M D gz_cl gz_at gz_tb gz_nb l yX0_goesToNumber cX0_goesToNumber 2 (some .boolean) 0 0 [gx_r (some this), gx_i p_0] X (some (gx_i r)) X2 0 0 := by
  unfold gm_X0_goesToNumber at h
  refine gx_enter [some (gx_r (some this)), some (gx_i p_0)] rfl (by decide) (Nat.le_of_ble_eq_true rfl) ?_
  intro p e s m below meth c C _
  refine gx_aload_n C dX0_goesToNumber_0 rfl rfl ?_
  obtain ⟨az1, eaz1, h⟩ := gx_bd h
  refine gx_get C kcX0 1 (by decide) wl_182 (gx_gd_s eaz1) dX0_goesToNumber_1 ?_
  refine gx_iload_n C dX0_goesToNumber_4 rfl rfl ?_
  obtain ⟨vz2, evz2, h⟩ := gx_bd h
  refine gx_iald C (t := 0) rfl evz2 dX0_goesToNumber_5 ?_
  refine gx_iconst (v := 1) C dX0_goesToNumber_6 (by decide) ?_
  refine gx_icmp_eq (tgt := 20) C dX0_goesToNumber_7 (by decide) (fun qz3 => ?_) (fun qz3 => ?_)
  · rw [if_pos qz3] at h
    refine gx_sub (lv2 := [none, none]) [false, false] rfl ?_
    exact gt_X0_goesToNumber_20 C fu   X h
  · rw [if_neg qz3] at h
    refine gx_aload_n C dX0_goesToNumber_10 rfl rfl ?_
    obtain ⟨az4, eaz4, h⟩ := gx_bd h
    refine gx_get C kcX0 1 (by decide) wl_182 (gx_gd_s eaz4) dX0_goesToNumber_11 ?_
    refine gx_iload_n C dX0_goesToNumber_14 rfl rfl ?_
    obtain ⟨vz5, evz5, h⟩ := gx_bd h
    refine gx_iald C (t := 0) rfl evz5 dX0_goesToNumber_15 ?_
    refine gx_iconst (v := 2) C dX0_goesToNumber_16 (by decide) ?_
    refine gx_icmp_ne (tgt := 24) C dX0_goesToNumber_17 (by decide) (fun qz6 => ?_) (fun qz6 => ?_)
    · rw [if_neg qz6] at h
      refine gx_iconst (v := 0) C dX0_goesToNumber_24 (by decide) ?_
      cases h
      exact gx_zret (Or.inl rfl) C dX0_goesToNumber_25
    · rw [if_pos qz6] at h
      refine gx_sub (lv2 := [none, none]) [false, false] rfl ?_
      exact gt_X0_goesToNumber_20 C fu   X h
theorem dX0_forgetSets_0 : decode cX0_forgetSets 0 = .ok (.aload_n 0, 1) := by decide +kernel
theorem dX0_forgetSets_1 : decode cX0_forgetSets 1 = .ok (.lconst 0, 1) := by decide +kernel
theorem dX0_forgetSets_2 : decode cX0_forgetSets 2 = .ok (.putfield 56, 3) := by decide +kernel
theorem dX0_forgetSets_5 : decode cX0_forgetSets 5 = .ok (.aload_n 0, 1) := by decide +kernel
theorem dX0_forgetSets_6 : decode cX0_forgetSets 6 = .ok (.lconst 0, 1) := by decide +kernel
theorem dX0_forgetSets_7 : decode cX0_forgetSets 7 = .ok (.putfield 60, 3) := by decide +kernel
theorem dX0_forgetSets_10 : decode cX0_forgetSets 10 = .ok (.aload_n 0, 1) := by decide +kernel
theorem dX0_forgetSets_11 : decode cX0_forgetSets 11 = .ok (.lconst 0, 1) := by decide +kernel
theorem dX0_forgetSets_12 : decode cX0_forgetSets 12 = .ok (.putfield 63, 3) := by decide +kernel
theorem dX0_forgetSets_15 : decode cX0_forgetSets 15 = .ok (.aload_n 0, 1) := by decide +kernel
theorem dX0_forgetSets_16 : decode cX0_forgetSets 16 = .ok (.iconst 0, 1) := by decide +kernel
theorem dX0_forgetSets_17 : decode cX0_forgetSets 17 = .ok (.putfield 66, 3) := by decide +kernel
theorem dX0_forgetSets_20 : decode cX0_forgetSets 20 = .ok (.iconst 0, 1) := by decide +kernel
theorem dX0_forgetSets_21 : decode cX0_forgetSets 21 = .ok (.istore_n 1, 1) := by decide +kernel
theorem dX0_forgetSets_22 : decode cX0_forgetSets 22 = .ok (.iload_n 1, 1) := by decide +kernel
theorem dX0_forgetSets_23 : decode cX0_forgetSets 23 = .ok (.aload_n 0, 1) := by decide +kernel
theorem dX0_forgetSets_24 : decode cX0_forgetSets 24 = .ok (.getfield 42, 3) := by decide +kernel
theorem dX0_forgetSets_27 : decode cX0_forgetSets 27 = .ok (.if_icmp .ge 30, 3) := by decide +kernel
theorem dX0_forgetSets_30 : decode cX0_forgetSets 30 = .ok (.aload_n 0, 1) := by decide +kernel
theorem dX0_forgetSets_31 : decode cX0_forgetSets 31 = .ok (.getfield 27, 3) := by decide +kernel
theorem dX0_forgetSets_34 : decode cX0_forgetSets 34 = .ok (.iload_n 1, 1) := by decide +kernel
theorem dX0_forgetSets_35 : decode cX0_forgetSets 35 = .ok (.lconst 0, 1) := by decide +kernel
theorem dX0_forgetSets_36 : decode cX0_forgetSets 36 = .ok (.lastore, 1) := by decide +kernel
theorem dX0_forgetSets_37 : decode cX0_forgetSets 37 = .ok (.aload_n 0, 1) := by decide +kernel
theorem dX0_forgetSets_38 : decode cX0_forgetSets 38 = .ok (.getfield 31, 3) := by decide +kernel
theorem dX0_forgetSets_41 : decode cX0_forgetSets 41 = .ok (.iload_n 1, 1) := by decide +kernel
theorem dX0_forgetSets_42 : decode cX0_forgetSets 42 = .ok (.iconst 0, 1) := by decide +kernel
theorem dX0_forgetSets_43 : decode cX0_forgetSets 43 = .ok (.bastore, 1) := by decide +kernel
theorem dX0_forgetSets_44 : decode cX0_forgetSets 44 = .ok (.aload_n 0, 1) := by decide +kernel
theorem dX0_forgetSets_45 : decode cX0_forgetSets 45 = .ok (.getfield 35, 3) := by decide +kernel
theorem dX0_forgetSets_48 : decode cX0_forgetSets 48 = .ok (.iload_n 1, 1) := by decide +kernel
theorem dX0_forgetSets_49 : decode cX0_forgetSets 49 = .ok (.iconst 0, 1) := by decide +kernel
theorem dX0_forgetSets_50 : decode cX0_forgetSets 50 = .ok (.bastore, 1) := by decide +kernel
theorem dX0_forgetSets_51 : decode cX0_forgetSets 51 = .ok (.iinc 1 1, 3) := by decide +kernel
theorem dX0_forgetSets_54 : decode cX0_forgetSets 54 = .ok (.goto (-32), 3) := by decide +kernel
theorem dX0_forgetSets_57 : decode cX0_forgetSets 57 = .ok (.iconst 0, 1) := by decide +kernel
theorem dX0_forgetSets_58 : decode cX0_forgetSets 58 = .ok (.istore_n 1, 1) := by decide +kernel
theorem dX0_forgetSets_59 : decode cX0_forgetSets 59 = .ok (.iload_n 1, 1) := by decide +kernel
theorem dX0_forgetSets_60 : decode cX0_forgetSets 60 = .ok (.aload_n 0, 1) := by decide +kernel
theorem dX0_forgetSets_61 : decode cX0_forgetSets 61 = .ok (.getfield 42, 3) := by decide +kernel
theorem dX0_forgetSets_64 : decode cX0_forgetSets 64 = .ok (.if_icmp .ge 29, 3) := by decide +kernel
theorem dX0_forgetSets_67 : decode cX0_forgetSets 67 = .ok (.aload_n 0, 1) := by decide +kernel
theorem dX0_forgetSets_68 : decode cX0_forgetSets 68 = .ok (.iload_n 1, 1) := by decide +kernel
theorem dX0_forgetSets_69 : decode cX0_forgetSets 69 = .ok (.invokevirtual 70, 3) := by decide +kernel
theorem dX0_forgetSets_72 : decode cX0_forgetSets 72 = .ok (.ifCond .eq 15, 3) := by decide +kernel
theorem dX0_forgetSets_75 : decode cX0_forgetSets 75 = .ok (.aload_n 0, 1) := by decide +kernel
theorem dX0_forgetSets_76 : decode cX0_forgetSets 76 = .ok (.getfield 35, 3) := by decide +kernel
theorem dX0_forgetSets_79 : decode cX0_forgetSets 79 = .ok (.aload_n 0, 1) := by decide +kernel
theorem dX0_forgetSets_80 : decode cX0_forgetSets 80 = .ok (.getfield 15, 3) := by decide +kernel
theorem dX0_forgetSets_83 : decode cX0_forgetSets 83 = .ok (.iload_n 1, 1) := by decide +kernel
theorem dX0_forgetSets_84 : decode cX0_forgetSets 84 = .ok (.iaload, 1) := by decide +kernel
theorem dX0_forgetSets_85 : decode cX0_forgetSets 85 = .ok (.iconst 1, 1) := by decide +kernel
theorem dX0_forgetSets_86 : decode cX0_forgetSets 86 = .ok (.bastore, 1) := by decide +kernel
theorem dX0_forgetSets_87 : decode cX0_forgetSets 87 = .ok (.iinc 1 1, 3) := by decide +kernel
theorem dX0_forgetSets_90 : decode cX0_forgetSets 90 = .ok (.goto (-31), 3) := by decide +kernel
theorem dX0_forgetSets_93 : decode cX0_forgetSets 93 = .ok (.iconst 0, 1) := by decide +kernel
theorem dX0_forgetSets_94 : decode cX0_forgetSets 94 = .ok (.istore_n 1, 1) := by decide +kernel
theorem dX0_forgetSets_95 : decode cX0_forgetSets 95 = .ok (.iload_n 1, 1) := by decide +kernel
theorem dX0_forgetSets_96 : decode cX0_forgetSets 96 = .ok (.aload_n 0, 1) := by decide +kernel
theorem dX0_forgetSets_97 : decode cX0_forgetSets 97 = .ok (.getfield 45, 3) := by decide +kernel
theorem dX0_forgetSets_100 : decode cX0_forgetSets 100 = .ok (.if_icmp .ge 21, 3) := by decide +kernel
theorem dX0_forgetSets_103 : decode cX0_forgetSets 103 = .ok (.aload_n 0, 1) := by decide +kernel
theorem dX0_forgetSets_104 : decode cX0_forgetSets 104 = .ok (.getfield 35, 3) := by decide +kernel
theorem dX0_forgetSets_107 : decode cX0_forgetSets 107 = .ok (.aload_n 0, 1) := by decide +kernel
theorem dX0_forgetSets_108 : decode cX0_forgetSets 108 = .ok (.getfield 24, 3) := by decide +kernel
theorem dX0_forgetSets_111 : decode cX0_forgetSets 111 = .ok (.iload_n 1, 1) := by decide +kernel
theorem dX0_forgetSets_112 : decode cX0_forgetSets 112 = .ok (.iaload, 1) := by decide +kernel
theorem dX0_forgetSets_113 : decode cX0_forgetSets 113 = .ok (.iconst 1, 1) := by decide +kernel
theorem dX0_forgetSets_114 : decode cX0_forgetSets 114 = .ok (.bastore, 1) := by decide +kernel
theorem dX0_forgetSets_115 : decode cX0_forgetSets 115 = .ok (.iinc 1 1, 3) := by decide +kernel
theorem dX0_forgetSets_118 : decode cX0_forgetSets 118 = .ok (.goto (-23), 3) := by decide +kernel
theorem dX0_forgetSets_121 : decode cX0_forgetSets 121 = .ok (.return_, 1) := by decide +kernel
def gm_X0_forgetSets_87 (fu : Nat) (K59 : Nat → Int32 → gx_H → Option gx_H) (a0 : Nat) (x1 : Int32) (X : gx_H) : Option gx_H :=
  K59 a0 (x1 + 1) X
set_option maxHeartbeats 1000000 in
set_option maxRecDepth 20000 in
theorem gt_X0_forgetSets_87 {p : Program} {l : Launch} {e : Env} {s : State} {m : MethodId} {args : Array Value} {below : List Frame} {meth : Method} {c : Code} {D : gx_D} {X2 : gx_H}  (C : gx_C D gz_cl gz_at gz_tb gz_nb p s m meth c cX0_forgetSets 2 RX0 none) (fu : Nat) (K59 : Nat → Int32 → gx_H → Option gx_H) (hK59 : ∀ (a0 : Nat) (x1 : Int32) (X : gx_H), K59 a0 x1 X = some X2 → gx_W D gz_cl 2 p l e (gx_rm 1 21 0 0) s m args below meth c 0 0 (MQ below (gx_Q D gz_cl none X2) args s 0 0 (gx_Z D)) X 59 [some (gx_r (some a0)), some (gx_i x1)] []) (a0 : Nat) (x1 : Int32) (X : gx_H) (h : gm_X0_forgetSets_87 fu K59 a0 x1 X = some X2) : gx_W D gz_cl 2 p l e (gx_rm 1 21 0 0) s m args below meth c 0 0 (MQ below (gx_Q D gz_cl none X2) args s 0 0 (gx_Z D)) X 87 [some (gx_r (some a0)), some (gx_i x1)] [] := by
  unfold gm_X0_forgetSets_87 at h
  refine gx_iinc (v := (x1 + 1)) (lv2 := [some (gx_r (some a0)), some (gx_i (x1 + 1))]) C dX0_forgetSets_87 rfl rfl (by decide) rfl ?_
  refine gx_goto (tgt := 59) C dX0_forgetSets_90 (by decide) ?_
  exact hK59 a0 (x1 + 1) X h
def gm_X0_forgetSets_95 (fu : Nat) : Nat → Nat → Int32 → gx_H → Option gx_H
  | 0, _, _, _ => none
  | n + 1, a0, x1, X =>
    (gx_gi X a0 0 7).bind fun vz1 =>
    if vz1 ≤ x1 then (
    some X) else (
    (gx_gd X a0 0 10).bind fun az3 =>
    (gx_gd X a0 0 5).bind fun az4 =>
    (gx_gai X az4 0 x1).bind fun vz5 =>
    (gx_pai X az3 2 vz5 (vp_nar .boolean (1 : Int32))).bind fun Xz6 =>
    (gm_X0_forgetSets_95 fu  n) a0 (x1 + 1) Xz6)
set_option maxHeartbeats 1000000 in
set_option maxRecDepth 20000 in
theorem gt_X0_forgetSets_95 {p : Program} {l : Launch} {e : Env} {s : State} {m : MethodId} {args : Array Value} {below : List Frame} {meth : Method} {c : Code} {D : gx_D} {X2 : gx_H}  (C : gx_C D gz_cl gz_at gz_tb gz_nb p s m meth c cX0_forgetSets 2 RX0 none) (fu : Nat) : ∀ (n : Nat) (a0 : Nat) (x1 : Int32) (X : gx_H) , gm_X0_forgetSets_95 fu  n a0 x1 X = some X2 → gx_W D gz_cl 2 p l e (gx_rm 1 21 0 0) s m args below meth c 0 0 (MQ below (gx_Q D gz_cl none X2) args s 0 0 (gx_Z D)) X 95 [some (gx_r (some a0)), some (gx_i x1)] [] := by
  intro n
  induction n with
  | zero =>
    intro a0 x1 X h
    have h : none = some _ := h
    cases h
  | succ n ih =>
    intro a0 x1 X h
    rw [gm_X0_forgetSets_95] at h
    refine gx_iload_n C dX0_forgetSets_95 rfl rfl ?_
    refine gx_aload_n C dX0_forgetSets_96 rfl rfl ?_
    obtain ⟨vz1, evz1, h⟩ := gx_bd h
    refine gx_get C kcX0 7 (by decide) wl_209 (gx_gi_s evz1) dX0_forgetSets_97 ?_
    refine gx_icmp_ge (tgt := 121) C dX0_forgetSets_100 (by decide) (fun qz2 => ?_) (fun qz2 => ?_)
    · rw [if_pos qz2] at h
      cases h
      exact gx_vret C dX0_forgetSets_121
    · rw [if_neg qz2] at h
      refine gx_aload_n C dX0_forgetSets_103 rfl rfl ?_
      obtain ⟨az3, eaz3, h⟩ := gx_bd h
      refine gx_get C kcX0 10 (by decide) wl_219 (gx_gd_s eaz3) dX0_forgetSets_104 ?_
      refine gx_aload_n C dX0_forgetSets_107 rfl rfl ?_
      obtain ⟨az4, eaz4, h⟩ := gx_bd h
      refine gx_get C kcX0 5 (by decide) wl_200 (gx_gd_s eaz4) dX0_forgetSets_108 ?_
      refine gx_iload_n C dX0_forgetSets_111 rfl rfl ?_
      obtain ⟨vz5, evz5, h⟩ := gx_bd h
      refine gx_iald C (t := 0) rfl evz5 dX0_forgetSets_112 ?_
      refine gx_iconst (v := 1) C dX0_forgetSets_113 (by decide) ?_
      obtain ⟨Xz6, eXz6, h⟩ := gx_bd h
      refine gx_zast C (t := 2) rfl eXz6 dX0_forgetSets_114 ?_
      refine gx_iinc (v := (x1 + 1)) (lv2 := [some (gx_r (some a0)), some (gx_i (x1 + 1))]) C dX0_forgetSets_115 rfl rfl (by decide) rfl ?_
      refine gx_goto (tgt := 95) C dX0_forgetSets_118 (by decide) ?_
      exact ih a0 (x1 + 1) Xz6 h
def gm_X0_forgetSets_59 (fu : Nat) : Nat → Nat → Int32 → gx_H → Option gx_H
  | 0, _, _, _ => none
  | n + 1, a0, x1, X =>
    (gx_gi X a0 0 6).bind fun vz7 =>
    if vz7 ≤ x1 then (
    gm_X0_forgetSets_95 fu  fu a0 (0 : Int32) X) else (
    gx_ob X a0 0 <|
    gx_b2 (gm_X0_goesToNumber fu a0 x1 X) fun vz11 Xz10 =>
    if vz11 = 0 then (
    gm_X0_forgetSets_87 fu (gm_X0_forgetSets_59 fu  n) a0 x1 Xz10) else (
    (gx_gd Xz10 a0 0 10).bind fun az13 =>
    (gx_gd Xz10 a0 0 2).bind fun az14 =>
    (gx_gai Xz10 az14 0 x1).bind fun vz15 =>
    (gx_pai Xz10 az13 2 vz15 (vp_nar .boolean (1 : Int32))).bind fun Xz16 =>
    gm_X0_forgetSets_87 fu (gm_X0_forgetSets_59 fu  n) a0 x1 Xz16))
set_option maxHeartbeats 1000000 in
set_option maxRecDepth 20000 in
theorem gt_X0_forgetSets_59 {p : Program} {l : Launch} {e : Env} {s : State} {m : MethodId} {args : Array Value} {below : List Frame} {meth : Method} {c : Code} {D : gx_D} {X2 : gx_H}  (C : gx_C D gz_cl gz_at gz_tb gz_nb p s m meth c cX0_forgetSets 2 RX0 none) (fu : Nat) : ∀ (n : Nat) (a0 : Nat) (x1 : Int32) (X : gx_H) , gm_X0_forgetSets_59 fu  n a0 x1 X = some X2 → gx_W D gz_cl 2 p l e (gx_rm 1 21 0 0) s m args below meth c 0 0 (MQ below (gx_Q D gz_cl none X2) args s 0 0 (gx_Z D)) X 59 [some (gx_r (some a0)), some (gx_i x1)] [] := by
  intro n
  induction n with
  | zero =>
    intro a0 x1 X h
    have h : none = some _ := h
    cases h
  | succ n ih =>
    intro a0 x1 X h
    rw [gm_X0_forgetSets_59] at h
    refine gx_iload_n C dX0_forgetSets_59 rfl rfl ?_
    refine gx_aload_n C dX0_forgetSets_60 rfl rfl ?_
    obtain ⟨vz7, evz7, h⟩ := gx_bd h
    refine gx_get C kcX0 6 (by decide) wl_204 (gx_gi_s evz7) dX0_forgetSets_61 ?_
    refine gx_icmp_ge (tgt := 93) C dX0_forgetSets_64 (by decide) (fun qz8 => ?_) (fun qz8 => ?_)
    · rw [if_pos qz8] at h
      refine gx_iconst (v := 0) C dX0_forgetSets_93 (by decide) ?_
      refine gx_istore_n (lv2 := [some (gx_r (some a0)), some (gx_i (0 : Int32))]) C dX0_forgetSets_94 rfl (by decide) rfl ?_
      exact gt_X0_forgetSets_95 C fu  fu a0 (0 : Int32) X h
    · rw [if_neg qz8] at h
      refine gx_aload_n C dX0_forgetSets_67 rfl rfl ?_
      refine gx_iload_n C dX0_forgetSets_68 rfl rfl ?_
      obtain ⟨hoz9, h⟩ := gx_obs h
      obtain ⟨vz11, Xz10, eXz10, h⟩ := gx_bd2 h
      refine gx_callV (As := [gx_i x1]) (st := []) (stk2 := [gx_i vz11]) C cd_X0_goesToNumber wl_318 ws_X0_goesToNumber wl_317 rfl hoz9 (gc_X0_goesToNumber fu a0 x1 X vz11 Xz10 eXz10) rfl ⟨Nat.le_of_ble_eq_true rfl, Nat.le_of_ble_eq_true rfl⟩ ⟨Nat.le_of_ble_eq_true rfl, Nat.le_of_ble_eq_true rfl⟩ (Nat.le_of_ble_eq_true rfl) rfl rfl dX0_forgetSets_69 ?_
      refine gx_if_eq (tgt := 87) C dX0_forgetSets_72 (by decide) (fun qz12 => ?_) (fun qz12 => ?_)
      · rw [if_pos qz12] at h
        exact gt_X0_forgetSets_87 C fu (gm_X0_forgetSets_59 fu  n) ih a0 x1 Xz10 h
      · rw [if_neg qz12] at h
        refine gx_aload_n C dX0_forgetSets_75 rfl rfl ?_
        obtain ⟨az13, eaz13, h⟩ := gx_bd h
        refine gx_get C kcX0 10 (by decide) wl_219 (gx_gd_s eaz13) dX0_forgetSets_76 ?_
        refine gx_aload_n C dX0_forgetSets_79 rfl rfl ?_
        obtain ⟨az14, eaz14, h⟩ := gx_bd h
        refine gx_get C kcX0 2 (by decide) wl_187 (gx_gd_s eaz14) dX0_forgetSets_80 ?_
        refine gx_iload_n C dX0_forgetSets_83 rfl rfl ?_
        obtain ⟨vz15, evz15, h⟩ := gx_bd h
        refine gx_iald C (t := 0) rfl evz15 dX0_forgetSets_84 ?_
        refine gx_iconst (v := 1) C dX0_forgetSets_85 (by decide) ?_
        obtain ⟨Xz16, eXz16, h⟩ := gx_bd h
        refine gx_zast C (t := 2) rfl eXz16 dX0_forgetSets_86 ?_
        exact gt_X0_forgetSets_87 C fu (gm_X0_forgetSets_59 fu  n) ih a0 x1 Xz16 h
def gm_X0_forgetSets_22 (fu : Nat) : Nat → Nat → Int32 → gx_H → Option gx_H
  | 0, _, _, _ => none
  | n + 1, a0, x1, X =>
    (gx_gi X a0 0 6).bind fun vz17 =>
    if vz17 ≤ x1 then (
    gm_X0_forgetSets_59 fu  fu a0 (0 : Int32) X) else (
    (gx_gd X a0 0 8).bind fun az19 =>
    (gx_pal X az19 1 x1 (0 : Int64)).bind fun Xz20 =>
    (gx_gd Xz20 a0 0 9).bind fun az21 =>
    (gx_pai Xz20 az21 2 x1 (vp_nar .boolean (0 : Int32))).bind fun Xz22 =>
    (gx_gd Xz22 a0 0 10).bind fun az23 =>
    (gx_pai Xz22 az23 2 x1 (vp_nar .boolean (0 : Int32))).bind fun Xz24 =>
    (gm_X0_forgetSets_22 fu  n) a0 (x1 + 1) Xz24)
set_option maxHeartbeats 1000000 in
set_option maxRecDepth 20000 in
theorem gt_X0_forgetSets_22 {p : Program} {l : Launch} {e : Env} {s : State} {m : MethodId} {args : Array Value} {below : List Frame} {meth : Method} {c : Code} {D : gx_D} {X2 : gx_H}  (C : gx_C D gz_cl gz_at gz_tb gz_nb p s m meth c cX0_forgetSets 2 RX0 none) (fu : Nat) : ∀ (n : Nat) (a0 : Nat) (x1 : Int32) (X : gx_H) , gm_X0_forgetSets_22 fu  n a0 x1 X = some X2 → gx_W D gz_cl 2 p l e (gx_rm 1 21 0 0) s m args below meth c 0 0 (MQ below (gx_Q D gz_cl none X2) args s 0 0 (gx_Z D)) X 22 [some (gx_r (some a0)), some (gx_i x1)] [] := by
  intro n
  induction n with
  | zero =>
    intro a0 x1 X h
    have h : none = some _ := h
    cases h
  | succ n ih =>
    intro a0 x1 X h
    rw [gm_X0_forgetSets_22] at h
    refine gx_iload_n C dX0_forgetSets_22 rfl rfl ?_
    refine gx_aload_n C dX0_forgetSets_23 rfl rfl ?_
    obtain ⟨vz17, evz17, h⟩ := gx_bd h
    refine gx_get C kcX0 6 (by decide) wl_204 (gx_gi_s evz17) dX0_forgetSets_24 ?_
    refine gx_icmp_ge (tgt := 57) C dX0_forgetSets_27 (by decide) (fun qz18 => ?_) (fun qz18 => ?_)
    · rw [if_pos qz18] at h
      refine gx_iconst (v := 0) C dX0_forgetSets_57 (by decide) ?_
      refine gx_istore_n (lv2 := [some (gx_r (some a0)), some (gx_i (0 : Int32))]) C dX0_forgetSets_58 rfl (by decide) rfl ?_
      exact gt_X0_forgetSets_59 C fu  fu a0 (0 : Int32) X h
    · rw [if_neg qz18] at h
      refine gx_aload_n C dX0_forgetSets_30 rfl rfl ?_
      obtain ⟨az19, eaz19, h⟩ := gx_bd h
      refine gx_get C kcX0 8 (by decide) wl_213 (gx_gd_s eaz19) dX0_forgetSets_31 ?_
      refine gx_iload_n C dX0_forgetSets_34 rfl rfl ?_
      refine gx_lconst (v := 0) C dX0_forgetSets_35 (by decide) ?_
      obtain ⟨Xz20, eXz20, h⟩ := gx_bd h
      refine gx_last C (t := 1) rfl eXz20 dX0_forgetSets_36 ?_
      refine gx_aload_n C dX0_forgetSets_37 rfl rfl ?_
      obtain ⟨az21, eaz21, h⟩ := gx_bd h
      refine gx_get C kcX0 9 (by decide) wl_217 (gx_gd_s eaz21) dX0_forgetSets_38 ?_
      refine gx_iload_n C dX0_forgetSets_41 rfl rfl ?_
      refine gx_iconst (v := 0) C dX0_forgetSets_42 (by decide) ?_
      obtain ⟨Xz22, eXz22, h⟩ := gx_bd h
      refine gx_zast C (t := 2) rfl eXz22 dX0_forgetSets_43 ?_
      refine gx_aload_n C dX0_forgetSets_44 rfl rfl ?_
      obtain ⟨az23, eaz23, h⟩ := gx_bd h
      refine gx_get C kcX0 10 (by decide) wl_219 (gx_gd_s eaz23) dX0_forgetSets_45 ?_
      refine gx_iload_n C dX0_forgetSets_48 rfl rfl ?_
      refine gx_iconst (v := 0) C dX0_forgetSets_49 (by decide) ?_
      obtain ⟨Xz24, eXz24, h⟩ := gx_bd h
      refine gx_zast C (t := 2) rfl eXz24 dX0_forgetSets_50 ?_
      refine gx_iinc (v := (x1 + 1)) (lv2 := [some (gx_r (some a0)), some (gx_i (x1 + 1))]) C dX0_forgetSets_51 rfl rfl (by decide) rfl ?_
      refine gx_goto (tgt := 22) C dX0_forgetSets_54 (by decide) ?_
      exact ih a0 (x1 + 1) Xz24 h
def gm_X0_forgetSets (fu : Nat) (this : Nat) (X : gx_H) : Option gx_H :=
  (gx_pf X this 0 11 (.long (0 : Int64))).bind fun Xz25 =>
  (gx_pf Xz25 this 0 12 (.long (0 : Int64))).bind fun Xz26 =>
  (gx_pf Xz26 this 0 13 (.long (0 : Int64))).bind fun Xz27 =>
  (gx_pf Xz27 this 0 14 (.int (0 : Int32))).bind fun Xz28 =>
  gm_X0_forgetSets_22 fu  fu this (0 : Int32) Xz28
set_option maxHeartbeats 1000000 in
set_option maxRecDepth 20000 in
theorem gc_X0_forgetSets {l : Launch} {D : gx_D} (fu : Nat) (this : Nat) (X : gx_H) (X2 : gx_H) (h : gm_X0_forgetSets fu this X = some X2) : gx_M D gz_cl gz_at gz_tb gz_nb l yX0_forgetSets cX0_forgetSets 2 none 1 21 [gx_r (some this)] X none X2 0 0 := by
  unfold gm_X0_forgetSets at h
  refine gx_enter [some (gx_r (some this)), none] rfl (by decide) (Nat.le_of_ble_eq_true rfl) ?_
  intro p e s m below meth c C _
  refine gx_aload_n C dX0_forgetSets_0 rfl rfl ?_
  refine gx_lconst (v := 0) C dX0_forgetSets_1 (by decide) ?_
  obtain ⟨Xz25, eXz25, h⟩ := gx_bd h
  refine gx_put C kcX0 11 (by decide) rfl wl_221 ⟨rfl, rfl⟩ eXz25 dX0_forgetSets_2 ?_
  refine gx_aload_n C dX0_forgetSets_5 rfl rfl ?_
  refine gx_lconst (v := 0) C dX0_forgetSets_6 (by decide) ?_
  obtain ⟨Xz26, eXz26, h⟩ := gx_bd h
  refine gx_put C kcX0 12 (by decide) rfl wl_224 ⟨rfl, rfl⟩ eXz26 dX0_forgetSets_7 ?_
  refine gx_aload_n C dX0_forgetSets_10 rfl rfl ?_
  refine gx_lconst (v := 0) C dX0_forgetSets_11 (by decide) ?_
  obtain ⟨Xz27, eXz27, h⟩ := gx_bd h
  refine gx_put C kcX0 13 (by decide) rfl wl_227 ⟨rfl, rfl⟩ eXz27 dX0_forgetSets_12 ?_
  refine gx_aload_n C dX0_forgetSets_15 rfl rfl ?_
  refine gx_iconst (v := 0) C dX0_forgetSets_16 (by decide) ?_
  obtain ⟨Xz28, eXz28, h⟩ := gx_bd h
  refine gx_put C kcX0 14 (by decide) rfl wl_230 (gx_nz (Or.inl rfl)) eXz28 dX0_forgetSets_17 ?_
  refine gx_iconst (v := 0) C dX0_forgetSets_20 (by decide) ?_
  refine gx_istore_n (lv2 := [some (gx_r (some this)), some (gx_i (0 : Int32))]) C dX0_forgetSets_21 rfl (by decide) rfl ?_
  exact gt_X0_forgetSets_22 C fu  fu this (0 : Int32) Xz28 h
theorem dX0_init_0 : decode cX0_init 0 = .ok (.aload_n 0, 1) := by decide +kernel
theorem dX0_init_1 : decode cX0_init 1 = .ok (.invokespecial 3, 3) := by decide +kernel
theorem dX0_init_4 : decode cX0_init 4 = .ok (.aload_n 0, 1) := by decide +kernel
theorem dX0_init_5 : decode cX0_init 5 = .ok (.sipush 200, 3) := by decide +kernel
theorem dX0_init_8 : decode cX0_init 8 = .ok (.newarray .int, 2) := by decide +kernel
theorem dX0_init_10 : decode cX0_init 10 = .ok (.putfield 9, 3) := by decide +kernel
theorem dX0_init_13 : decode cX0_init 13 = .ok (.aload_n 0, 1) := by decide +kernel
theorem dX0_init_14 : decode cX0_init 14 = .ok (.sipush 200, 3) := by decide +kernel
theorem dX0_init_17 : decode cX0_init 17 = .ok (.newarray .int, 2) := by decide +kernel
theorem dX0_init_19 : decode cX0_init 19 = .ok (.putfield 15, 3) := by decide +kernel
theorem dX0_init_22 : decode cX0_init 22 = .ok (.aload_n 0, 1) := by decide +kernel
theorem dX0_init_23 : decode cX0_init 23 = .ok (.bipush 6, 2) := by decide +kernel
theorem dX0_init_25 : decode cX0_init 25 = .ok (.newarray .int, 2) := by decide +kernel
theorem dX0_init_27 : decode cX0_init 27 = .ok (.putfield 18, 3) := by decide +kernel
theorem dX0_init_30 : decode cX0_init 30 = .ok (.aload_n 0, 1) := by decide +kernel
theorem dX0_init_31 : decode cX0_init 31 = .ok (.bipush 6, 2) := by decide +kernel
theorem dX0_init_33 : decode cX0_init 33 = .ok (.newarray .int, 2) := by decide +kernel
theorem dX0_init_35 : decode cX0_init 35 = .ok (.putfield 21, 3) := by decide +kernel
theorem dX0_init_38 : decode cX0_init 38 = .ok (.aload_n 0, 1) := by decide +kernel
theorem dX0_init_39 : decode cX0_init 39 = .ok (.bipush 6, 2) := by decide +kernel
theorem dX0_init_41 : decode cX0_init 41 = .ok (.newarray .int, 2) := by decide +kernel
theorem dX0_init_43 : decode cX0_init 43 = .ok (.putfield 24, 3) := by decide +kernel
theorem dX0_init_46 : decode cX0_init 46 = .ok (.aload_n 0, 1) := by decide +kernel
theorem dX0_init_47 : decode cX0_init 47 = .ok (.sipush 200, 3) := by decide +kernel
theorem dX0_init_50 : decode cX0_init 50 = .ok (.newarray .long, 2) := by decide +kernel
theorem dX0_init_52 : decode cX0_init 52 = .ok (.putfield 27, 3) := by decide +kernel
theorem dX0_init_55 : decode cX0_init 55 = .ok (.aload_n 0, 1) := by decide +kernel
theorem dX0_init_56 : decode cX0_init 56 = .ok (.sipush 200, 3) := by decide +kernel
theorem dX0_init_59 : decode cX0_init 59 = .ok (.newarray .boolean, 2) := by decide +kernel
theorem dX0_init_61 : decode cX0_init 61 = .ok (.putfield 31, 3) := by decide +kernel
theorem dX0_init_64 : decode cX0_init 64 = .ok (.aload_n 0, 1) := by decide +kernel
theorem dX0_init_65 : decode cX0_init 65 = .ok (.sipush 200, 3) := by decide +kernel
theorem dX0_init_68 : decode cX0_init 68 = .ok (.newarray .boolean, 2) := by decide +kernel
theorem dX0_init_70 : decode cX0_init 70 = .ok (.putfield 35, 3) := by decide +kernel
theorem dX0_init_73 : decode cX0_init 73 = .ok (.aload_n 0, 1) := by decide +kernel
theorem dX0_init_74 : decode cX0_init 74 = .ok (.iload_n 1, 1) := by decide +kernel
theorem dX0_init_75 : decode cX0_init 75 = .ok (.putfield 38, 3) := by decide +kernel
theorem dX0_init_78 : decode cX0_init 78 = .ok (.return_, 1) := by decide +kernel
def gm_X0_init (fu : Nat) (this : Nat) (p_0 : Int32) (X : gx_H) : Option (Unit × gx_H × Nat × Nat) :=
  gx_ad 1 200 <|
  (gx_pf (gx_nw X (.inl (0, 200, .inl fun _ => 0))) this 0 1 (.ref X.2)).bind fun Xz2 =>
  gx_ad 1 200 <|
  (gx_pf (gx_nw Xz2 (.inl (0, 200, .inl fun _ => 0))) this 0 2 (.ref Xz2.2)).bind fun Xz4 =>
  gx_ad 1 6 <|
  (gx_pf (gx_nw Xz4 (.inl (0, 6, .inl fun _ => 0))) this 0 3 (.ref Xz4.2)).bind fun Xz6 =>
  gx_ad 1 6 <|
  (gx_pf (gx_nw Xz6 (.inl (0, 6, .inl fun _ => 0))) this 0 4 (.ref Xz6.2)).bind fun Xz8 =>
  gx_ad 1 6 <|
  (gx_pf (gx_nw Xz8 (.inl (0, 6, .inl fun _ => 0))) this 0 5 (.ref Xz8.2)).bind fun Xz10 =>
  gx_ad 1 200 <|
  (gx_pf (gx_nw Xz10 (.inl (1, 200, .inr (.inl fun _ => 0)))) this 0 8 (.ref Xz10.2)).bind fun Xz12 =>
  gx_ad 1 200 <|
  (gx_pf (gx_nw Xz12 (.inl (2, 200, .inl fun _ => 0))) this 0 9 (.ref Xz12.2)).bind fun Xz14 =>
  gx_ad 1 200 <|
  (gx_pf (gx_nw Xz14 (.inl (2, 200, .inl fun _ => 0))) this 0 10 (.ref Xz14.2)).bind fun Xz16 =>
  (gx_pf Xz16 this 0 0 (.int p_0)).bind fun Xz17 =>
  some ((), Xz17, 0, 0)
set_option maxHeartbeats 1000000 in
set_option maxRecDepth 20000 in
theorem gc_X0_init {l : Launch} {D : gx_D} (fu : Nat) (this : Nat) (p_0 : Int32) (X : gx_H) (X2 : gx_H) (tc ts : Nat) (h : gm_X0_init fu this p_0 X = some ((), X2, tc, ts)) : gx_M D gz_cl gz_at gz_tb gz_nb l yX0_init cX0_init 2 none 1 20 [gx_r (some this), gx_i p_0] X none X2 tc ts := by
  unfold gm_X0_init at h
  refine gx_enter [some (gx_r (some this)), some (gx_i p_0)] rfl (by decide) (Nat.le_of_ble_eq_true rfl) ?_
  intro p e s m below meth c C hin
  have h1 : 0 + tc = tc := Nat.zero_add tc
  have h2 : 0 + ts = ts := Nat.zero_add ts
  refine gx_aload_n C dX0_init_0 rfl rfl ?_
  refine gx_objInit C wl_178 wl_15 wl_16 dX0_init_1 (Nat.le_of_ble_eq_true rfl) (Nat.le_of_ble_eq_true rfl) ?_
  refine gx_aload_n C dX0_init_4 rfl rfl ?_
  refine gx_sipush (v := 200) C dX0_init_5 (by decide) ?_
  obtain ⟨cz1, sz1, h, ecz1, esz1⟩ := gx_add h
  refine gx_newa (t := 0) (N' := 200) (a0 := (200, .inl fun _ => 0)) C rfl rfl (fun _ _ q => q) wl_60 (fun _ => rfl) (by decide) (by decide) (by decide) (show 0 + 1 ≤ tc by omega) (show 0 + 200 ≤ ts by omega) dX0_init_8 ?_
  obtain ⟨Xz2, eXz2, h⟩ := gx_bd h
  refine gx_putF C kcX0 1 (by decide) rfl hin rfl wl_182 ⟨rfl, rfl⟩ eXz2 dX0_init_10 ?_
  refine gx_aload_n C dX0_init_13 rfl rfl ?_
  refine gx_sipush (v := 200) C dX0_init_14 (by decide) ?_
  obtain ⟨cz3, sz3, h, ecz3, esz3⟩ := gx_add h
  refine gx_newa (t := 0) (N' := 200) (a0 := (200, .inl fun _ => 0)) C rfl rfl (fun _ _ q => q) wl_60 (fun _ => rfl) (by decide) (by decide) (by decide) (show 0 + 1 + 1 ≤ tc by omega) (show 0 + 200 + 200 ≤ ts by omega) dX0_init_17 ?_
  obtain ⟨Xz4, eXz4, h⟩ := gx_bd h
  refine gx_putF C kcX0 2 (by decide) rfl hin rfl wl_187 ⟨rfl, rfl⟩ eXz4 dX0_init_19 ?_
  refine gx_aload_n C dX0_init_22 rfl rfl ?_
  refine gx_bipush (v := 6) C dX0_init_23 (by decide) ?_
  obtain ⟨cz5, sz5, h, ecz5, esz5⟩ := gx_add h
  refine gx_newa (t := 0) (N' := 6) (a0 := (6, .inl fun _ => 0)) C rfl rfl (fun _ _ q => q) wl_60 (fun _ => rfl) (by decide) (by decide) (by decide) (show 0 + 1 + 1 + 1 ≤ tc by omega) (show 0 + 200 + 200 + 6 ≤ ts by omega) dX0_init_25 ?_
  obtain ⟨Xz6, eXz6, h⟩ := gx_bd h
  refine gx_putF C kcX0 3 (by decide) rfl hin rfl wl_192 ⟨rfl, rfl⟩ eXz6 dX0_init_27 ?_
  refine gx_aload_n C dX0_init_30 rfl rfl ?_
  refine gx_bipush (v := 6) C dX0_init_31 (by decide) ?_
  obtain ⟨cz7, sz7, h, ecz7, esz7⟩ := gx_add h
  refine gx_newa (t := 0) (N' := 6) (a0 := (6, .inl fun _ => 0)) C rfl rfl (fun _ _ q => q) wl_60 (fun _ => rfl) (by decide) (by decide) (by decide) (show 0 + 1 + 1 + 1 + 1 ≤ tc by omega) (show 0 + 200 + 200 + 6 + 6 ≤ ts by omega) dX0_init_33 ?_
  obtain ⟨Xz8, eXz8, h⟩ := gx_bd h
  refine gx_putF C kcX0 4 (by decide) rfl hin rfl wl_196 ⟨rfl, rfl⟩ eXz8 dX0_init_35 ?_
  refine gx_aload_n C dX0_init_38 rfl rfl ?_
  refine gx_bipush (v := 6) C dX0_init_39 (by decide) ?_
  obtain ⟨cz9, sz9, h, ecz9, esz9⟩ := gx_add h
  refine gx_newa (t := 0) (N' := 6) (a0 := (6, .inl fun _ => 0)) C rfl rfl (fun _ _ q => q) wl_60 (fun _ => rfl) (by decide) (by decide) (by decide) (show 0 + 1 + 1 + 1 + 1 + 1 ≤ tc by omega) (show 0 + 200 + 200 + 6 + 6 + 6 ≤ ts by omega) dX0_init_41 ?_
  obtain ⟨Xz10, eXz10, h⟩ := gx_bd h
  refine gx_putF C kcX0 5 (by decide) rfl hin rfl wl_200 ⟨rfl, rfl⟩ eXz10 dX0_init_43 ?_
  refine gx_aload_n C dX0_init_46 rfl rfl ?_
  refine gx_sipush (v := 200) C dX0_init_47 (by decide) ?_
  obtain ⟨cz11, sz11, h, ecz11, esz11⟩ := gx_add h
  refine gx_newa (t := 1) (N' := 200) (a0 := (200, .inr (.inl fun _ => 0))) C rfl rfl (fun _ _ q => q) wl_40 (fun _ => rfl) (by decide) (by decide) (by decide) (show 0 + 1 + 1 + 1 + 1 + 1 + 1 ≤ tc by omega) (show 0 + 200 + 200 + 6 + 6 + 6 + 200 ≤ ts by omega) dX0_init_50 ?_
  obtain ⟨Xz12, eXz12, h⟩ := gx_bd h
  refine gx_putF C kcX0 8 (by decide) rfl hin rfl wl_213 ⟨rfl, rfl⟩ eXz12 dX0_init_52 ?_
  refine gx_aload_n C dX0_init_55 rfl rfl ?_
  refine gx_sipush (v := 200) C dX0_init_56 (by decide) ?_
  obtain ⟨cz13, sz13, h, ecz13, esz13⟩ := gx_add h
  refine gx_newa (t := 2) (N' := 200) (a0 := (200, .inl fun _ => 0)) C rfl rfl (fun _ _ q => q) wl_39 (fun _ => rfl) (by decide) (by decide) (by decide) (show 0 + 1 + 1 + 1 + 1 + 1 + 1 + 1 ≤ tc by omega) (show 0 + 200 + 200 + 6 + 6 + 6 + 200 + 200 ≤ ts by omega) dX0_init_59 ?_
  obtain ⟨Xz14, eXz14, h⟩ := gx_bd h
  refine gx_putF C kcX0 9 (by decide) rfl hin rfl wl_217 ⟨rfl, rfl⟩ eXz14 dX0_init_61 ?_
  refine gx_aload_n C dX0_init_64 rfl rfl ?_
  refine gx_sipush (v := 200) C dX0_init_65 (by decide) ?_
  obtain ⟨cz15, sz15, h, ecz15, esz15⟩ := gx_add h
  refine gx_newa (t := 2) (N' := 200) (a0 := (200, .inl fun _ => 0)) C rfl rfl (fun _ _ q => q) wl_39 (fun _ => rfl) (by decide) (by decide) (by decide) (show 0 + 1 + 1 + 1 + 1 + 1 + 1 + 1 + 1 ≤ tc by omega) (show 0 + 200 + 200 + 6 + 6 + 6 + 200 + 200 + 200 ≤ ts by omega) dX0_init_68 ?_
  obtain ⟨Xz16, eXz16, h⟩ := gx_bd h
  refine gx_putF C kcX0 10 (by decide) rfl hin rfl wl_219 ⟨rfl, rfl⟩ eXz16 dX0_init_70 ?_
  refine gx_aload_n C dX0_init_73 rfl rfl ?_
  refine gx_iload_n C dX0_init_74 rfl rfl ?_
  obtain ⟨Xz17, eXz17, h⟩ := gx_bd h
  refine gx_putF C kcX0 0 (by decide) rfl hin rfl wl_179 ⟨rfl, rfl⟩ eXz17 dX0_init_75 ?_
  cases h
  exact gx_widen (by omega) (by omega) (gx_vret C dX0_init_78)
