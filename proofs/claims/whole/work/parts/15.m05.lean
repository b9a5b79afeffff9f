/-! methods: X5_handler, X5_init, X5_look, X5_settledBody, X5_may, X5_of, X5_range, X5_set, X5_size, X5_take, X5_way, X6_change -/
theorem dX5_handler_0 : decode cX5_handler 0 = .ok (.aload_n 0, 1) := by decide +kernel
theorem dX5_handler_1 : decode cX5_handler 1 = .ok (.getfield 35, 3) := by decide +kernel
theorem dX5_handler_4 : decode cX5_handler 4 = .ok (.iload_n 1, 1) := by decide +kernel
theorem dX5_handler_5 : decode cX5_handler 5 = .ok (.invokevirtual 85, 3) := by decide +kernel
theorem dX5_handler_8 : decode cX5_handler 8 = .ok (.astore 5, 2) := by decide +kernel
theorem dX5_handler_10 : decode cX5_handler 10 = .ok (.aload 5, 2) := by decide +kernel
theorem dX5_handler_12 : decode cX5_handler 12 = .ok (.ifnull 15, 3) := by decide +kernel
theorem dX5_handler_15 : decode cX5_handler 15 = .ok (.aload 5, 2) := by decide +kernel
theorem dX5_handler_17 : decode cX5_handler 17 = .ok (.iload_n 2, 1) := by decide +kernel
theorem dX5_handler_18 : decode cX5_handler 18 = .ok (.iload_n 3, 1) := by decide +kernel
theorem dX5_handler_19 : decode cX5_handler 19 = .ok (.iload 4, 2) := by decide +kernel
theorem dX5_handler_21 : decode cX5_handler 21 = .ok (.invokevirtual 98, 3) := by decide +kernel
theorem dX5_handler_24 : decode cX5_handler 24 = .ok (.ifCond .ne 5, 3) := by decide +kernel
theorem dX5_handler_27 : decode cX5_handler 27 = .ok (.iconst 0, 1) := by decide +kernel
theorem dX5_handler_28 : decode cX5_handler 28 = .ok (.ireturn, 1) := by decide +kernel
theorem dX5_handler_29 : decode cX5_handler 29 = .ok (.aload 5, 2) := by decide +kernel
theorem dX5_handler_31 : decode cX5_handler 31 = .ok (.iload_n 2, 1) := by decide +kernel
theorem dX5_handler_32 : decode cX5_handler 32 = .ok (.iload_n 3, 1) := by decide +kernel
theorem dX5_handler_33 : decode cX5_handler 33 = .ok (.iload 4, 2) := by decide +kernel
theorem dX5_handler_35 : decode cX5_handler 35 = .ok (.invokevirtual 101, 3) := by decide +kernel
theorem dX5_handler_38 : decode cX5_handler 38 = .ok (.aload_n 0, 1) := by decide +kernel
theorem dX5_handler_39 : decode cX5_handler 39 = .ok (.invokevirtual 64, 3) := by decide +kernel
theorem dX5_handler_42 : decode cX5_handler 42 = .ok (.iconst 1, 1) := by decide +kernel
theorem dX5_handler_43 : decode cX5_handler 43 = .ok (.ireturn, 1) := by decide +kernel
def gm_X5_handler (fu : Nat) (this : Nat) (p_0 : Int32) (p_1 : Int32) (p_2 : Int32) (p_3 : Int32) (X : gx_H) : Option (Int32 × gx_H) :=
  (gx_gd X this 5 3).bind fun az1 =>
  gx_ob X az1 3 <|
  gx_b2 (gm_X3_body fu az1 p_0 X) fun oz4 Xz3 =>
  gx_nl oz4 (
  some ((0 : Int32), Xz3)) fun az6 =>
  gx_ob Xz3 az6 0 <|
  gx_b2 (gm_X0_canHandle fu az6 p_1 p_2 p_3 Xz3) fun vz9 Xz8 =>
  if vz9 = 0 then (
  some ((0 : Int32), Xz8)) else (
  gx_ob Xz8 az6 0 <|
  (gm_X0_addHandler fu az6 p_1 p_2 p_3 Xz8).bind fun Xz12 =>
  gx_ob Xz12 this 5 <|
  (gm_X5_noteChange fu this Xz12).bind fun Xz14 =>
  some ((1 : Int32), Xz14))
set_option maxHeartbeats 1000000 in
set_option maxRecDepth 20000 in
theorem gc_X5_handler {l : Launch} {D : gx_D} (fu : Nat) (this : Nat) (p_0 : Int32) (p_1 : Int32) (p_2 : Int32) (p_3 : Int32) (X : gx_H) (r : Int32) (X2 : gx_H) (h : gm_X5_handler fu this p_0 p_1 p_2 p_3 X = some (r, X2)) : gx_M D gz_cl gz_at gz_tb gz_nb l yX5_handler cX5_handler 6 (some .boolean) 2 44 [gx_r (some this), gx_i p_0, gx_i p_1, gx_i p_2, gx_i p_3] X (some (gx_i r)) X2 0 0 := by
  unfold gm_X5_handler at h
  refine gx_enter [some (gx_r (some this)), some (gx_i p_0), some (gx_i p_1), some (gx_i p_2), some (gx_i p_3), none] rfl (by decide) (Nat.le_of_ble_eq_true rfl) ?_
  intro p e s m below meth c C _
  refine gx_aload_n C dX5_handler_0 rfl rfl ?_
  obtain ⟨az1, eaz1, h⟩ := gx_bd h
  refine gx_get C kcX5 3 (by decide) wl_98 (gx_gd_s eaz1) dX5_handler_1 ?_
  refine gx_iload_n C dX5_handler_4 rfl rfl ?_
  obtain ⟨hoz2, h⟩ := gx_obs h
  obtain ⟨oz4, Xz3, eXz3, h⟩ := gx_bd2 h
  refine gx_callV (As := [gx_i p_0]) (st := []) (stk2 := [gx_r oz4]) C cd_X3_body wl_275 ws_X3_body wl_274 rfl hoz2 (gc_X3_body fu az1 p_0 X oz4 Xz3 eXz3) rfl ⟨Nat.le_of_ble_eq_true rfl, Nat.le_of_ble_eq_true rfl⟩ ⟨Nat.le_of_ble_eq_true rfl, Nat.le_of_ble_eq_true rfl⟩ (Nat.le_of_ble_eq_true rfl) rfl rfl dX5_handler_5 ?_
  refine gx_astore (lv2 := [some (gx_r (some this)), some (gx_i p_0), some (gx_i p_1), some (gx_i p_2), some (gx_i p_3), some (gx_r oz4)]) C dX5_handler_8 (by decide) rfl ?_
  refine gx_aload C dX5_handler_10 rfl ?_
  refine gx_ifnull (tgt := 27) C dX5_handler_12 (by decide) (fun qz5 => ?_) (fun az6 qz5 => ?_)
  · subst qz5
    have h := gx_nl_n h
    refine gx_iconst (v := 0) C dX5_handler_27 (by decide) ?_
    cases h
    exact gx_zret (Or.inl rfl) C dX5_handler_28
  · subst qz5
    have h := gx_nl_s h
    refine gx_aload C dX5_handler_15 rfl ?_
    refine gx_iload_n C dX5_handler_17 rfl rfl ?_
    refine gx_iload_n C dX5_handler_18 rfl rfl ?_
    refine gx_iload C dX5_handler_19 rfl ?_
    obtain ⟨hoz7, h⟩ := gx_obs h
    obtain ⟨vz9, Xz8, eXz8, h⟩ := gx_bd2 h
    refine gx_callV (As := [gx_i p_1, gx_i p_2, gx_i p_3]) (st := []) (stk2 := [gx_i vz9]) C cd_X0_canHandle wl_293 ws_X0_canHandle wl_292 rfl hoz7 (gc_X0_canHandle fu az6 p_1 p_2 p_3 Xz3 vz9 Xz8 eXz8) rfl ⟨Nat.le_of_ble_eq_true rfl, Nat.le_of_ble_eq_true rfl⟩ ⟨Nat.le_of_ble_eq_true rfl, Nat.le_of_ble_eq_true rfl⟩ (Nat.le_of_ble_eq_true rfl) rfl rfl dX5_handler_21 ?_
    refine gx_if_ne (tgt := 29) C dX5_handler_24 (by decide) (fun qz10 => ?_) (fun qz10 => ?_)
    · rw [if_neg qz10] at h
      refine gx_aload C dX5_handler_29 rfl ?_
      refine gx_iload_n C dX5_handler_31 rfl rfl ?_
      refine gx_iload_n C dX5_handler_32 rfl rfl ?_
      refine gx_iload C dX5_handler_33 rfl ?_
      obtain ⟨hoz11, h⟩ := gx_obs h
      obtain ⟨Xz12, eXz12, h⟩ := gx_bd h
      refine gx_callV (As := [gx_i p_1, gx_i p_2, gx_i p_3]) (st := []) (stk2 := []) C cd_X0_addHandler wl_297 ws_X0_addHandler wl_296 rfl hoz11 (gc_X0_addHandler fu az6 p_1 p_2 p_3 Xz8 Xz12 eXz12) rfl ⟨Nat.le_of_ble_eq_true rfl, Nat.le_of_ble_eq_true rfl⟩ ⟨Nat.le_of_ble_eq_true rfl, Nat.le_of_ble_eq_true rfl⟩ (Nat.le_of_ble_eq_true rfl) rfl rfl dX5_handler_35 ?_
      refine gx_aload_n C dX5_handler_38 rfl rfl ?_
      obtain ⟨hoz13, h⟩ := gx_obs h
      obtain ⟨Xz14, eXz14, h⟩ := gx_bd h
      refine gx_callV (As := []) (st := []) (stk2 := []) C cd_X5_noteChange wl_159 ws_X5_noteChange wl_157 rfl hoz13 (gc_X5_noteChange fu this Xz12 Xz14 eXz14) rfl ⟨Nat.le_of_ble_eq_true rfl, Nat.le_of_ble_eq_true rfl⟩ ⟨Nat.le_of_ble_eq_true rfl, Nat.le_of_ble_eq_true rfl⟩ (Nat.le_of_ble_eq_true rfl) rfl rfl dX5_handler_39 ?_
      refine gx_iconst (v := 1) C dX5_handler_42 (by decide) ?_
      cases h
      exact gx_zret (Or.inr rfl) C dX5_handler_43
    · rw [if_pos qz10] at h
      refine gx_iconst (v := 0) C dX5_handler_27 (by decide) ?_
      cases h
      exact gx_zret (Or.inl rfl) C dX5_handler_28
theorem dX5_init_0 : decode cX5_init 0 = .ok (.aload_n 0, 1) := by decide +kernel
theorem dX5_init_1 : decode cX5_init 1 = .ok (.invokespecial 1, 3) := by decide +kernel
theorem dX5_init_4 : decode cX5_init 4 = .ok (.aload_n 0, 1) := by decide +kernel
theorem dX5_init_5 : decode cX5_init 5 = .ok (.new 7, 3) := by decide +kernel
theorem dX5_init_8 : decode cX5_init 8 = .ok (.dup, 1) := by decide +kernel
theorem dX5_init_9 : decode cX5_init 9 = .ok (.invokespecial 9, 3) := by decide +kernel
theorem dX5_init_12 : decode cX5_init 12 = .ok (.putfield 10, 3) := by decide +kernel
theorem dX5_init_15 : decode cX5_init 15 = .ok (.aload_n 0, 1) := by decide +kernel
theorem dX5_init_16 : decode cX5_init 16 = .ok (.new 16, 3) := by decide +kernel
theorem dX5_init_19 : decode cX5_init 19 = .ok (.dup, 1) := by decide +kernel
theorem dX5_init_20 : decode cX5_init 20 = .ok (.aload_n 0, 1) := by decide +kernel
theorem dX5_init_21 : decode cX5_init 21 = .ok (.getfield 10, 3) := by decide +kernel
theorem dX5_init_24 : decode cX5_init 24 = .ok (.invokespecial 18, 3) := by decide +kernel
theorem dX5_init_27 : decode cX5_init 27 = .ok (.putfield 21, 3) := by decide +kernel
theorem dX5_init_30 : decode cX5_init 30 = .ok (.aload_n 0, 1) := by decide +kernel
theorem dX5_init_31 : decode cX5_init 31 = .ok (.new 25, 3) := by decide +kernel
theorem dX5_init_34 : decode cX5_init 34 = .ok (.dup, 1) := by decide +kernel
theorem dX5_init_35 : decode cX5_init 35 = .ok (.aload_n 0, 1) := by decide +kernel
theorem dX5_init_36 : decode cX5_init 36 = .ok (.getfield 10, 3) := by decide +kernel
theorem dX5_init_39 : decode cX5_init 39 = .ok (.invokespecial 27, 3) := by decide +kernel
theorem dX5_init_42 : decode cX5_init 42 = .ok (.putfield 28, 3) := by decide +kernel
theorem dX5_init_45 : decode cX5_init 45 = .ok (.aload_n 0, 1) := by decide +kernel
theorem dX5_init_46 : decode cX5_init 46 = .ok (.new 32, 3) := by decide +kernel
theorem dX5_init_49 : decode cX5_init 49 = .ok (.dup, 1) := by decide +kernel
theorem dX5_init_50 : decode cX5_init 50 = .ok (.invokespecial 34, 3) := by decide +kernel
theorem dX5_init_53 : decode cX5_init 53 = .ok (.putfield 35, 3) := by decide +kernel
theorem dX5_init_56 : decode cX5_init 56 = .ok (.aload_n 0, 1) := by decide +kernel
theorem dX5_init_57 : decode cX5_init 57 = .ok (.new 32, 3) := by decide +kernel
theorem dX5_init_60 : decode cX5_init 60 = .ok (.dup, 1) := by decide +kernel
theorem dX5_init_61 : decode cX5_init 61 = .ok (.invokespecial 34, 3) := by decide +kernel
theorem dX5_init_64 : decode cX5_init 64 = .ok (.putfield 39, 3) := by decide +kernel
theorem dX5_init_67 : decode cX5_init 67 = .ok (.return_, 1) := by decide +kernel
def gm_X5_init (fu : Nat) (this : Nat) (X : gx_H) : Option (Unit × gx_H × Nat × Nat) :=
  gx_ad 1 4 <|
  gx_b4 (gm_X4_init fu X.2 (gx_nw X (.inr (4, [.null, .null, .int 0, .int 0])))) fun _u Xz2 cz3 sz3 => gx_ad cz3 sz3 <|
  (gx_pf Xz2 this 5 0 (.ref X.2)).bind fun Xz5 =>
  gx_ad 1 4 <|
  (gx_gd (gx_nw Xz5 (.inr (1, [.null, .null, .int 0, .int 0]))) this 5 0).bind fun az7 =>
  gx_b4 (gm_X1_init fu Xz5.2 az7 (gx_nw Xz5 (.inr (1, [.null, .null, .int 0, .int 0])))) fun _u Xz8 cz9 sz9 => gx_ad cz9 sz9 <|
  (gx_pf Xz8 this 5 1 (.ref Xz5.2)).bind fun Xz11 =>
  gx_ad 1 2 <|
  (gx_gd (gx_nw Xz11 (.inr (2, [.null, .null]))) this 5 0).bind fun az13 =>
  gx_b4 (gm_X2_init fu Xz11.2 az13 (gx_nw Xz11 (.inr (2, [.null, .null])))) fun _u Xz14 cz15 sz15 => gx_ad cz15 sz15 <|
  (gx_pf Xz14 this 5 2 (.ref Xz11.2)).bind fun Xz17 =>
  gx_ad 1 3 <|
  gx_b4 (gm_X3_init fu Xz17.2 (gx_nw Xz17 (.inr (3, [.null, .int 0, .int 0])))) fun _u Xz19 cz20 sz20 => gx_ad cz20 sz20 <|
  (gx_pf Xz19 this 5 3 (.ref Xz17.2)).bind fun Xz22 =>
  gx_ad 1 3 <|
  gx_b4 (gm_X3_init fu Xz22.2 (gx_nw Xz22 (.inr (3, [.null, .int 0, .int 0])))) fun _u Xz24 cz25 sz25 => gx_ad cz25 sz25 <|
  (gx_pf Xz24 this 5 4 (.ref Xz22.2)).bind fun Xz27 =>
  some ((), Xz27, 0, 0)
set_option maxHeartbeats 1000000 in
set_option maxRecDepth 20000 in
theorem gc_X5_init {l : Launch} {D : gx_D} (fu : Nat) (this : Nat) (X : gx_H) (X2 : gx_H) (tc ts : Nat) (h : gm_X5_init fu this X = some ((), X2, tc, ts)) : gx_M D gz_cl gz_at gz_tb gz_nb l yX5_init cX5_init 1 none 2 41 [gx_r (some this)] X none X2 tc ts := by
  unfold gm_X5_init at h
  refine gx_enter [some (gx_r (some this))] rfl (by decide) (Nat.le_of_ble_eq_true rfl) ?_
  intro p e s m below meth c C hin
  have h1 : 0 + tc = tc := Nat.zero_add tc
  have h2 : 0 + ts = ts := Nat.zero_add ts
  refine gx_aload_n C dX5_init_0 rfl rfl ?_
  refine gx_objInit C wl_14 wl_15 wl_16 dX5_init_1 (Nat.le_of_ble_eq_true rfl) (Nat.le_of_ble_eq_true rfl) ?_
  refine gx_aload_n C dX5_init_4 rfl rfl ?_
  obtain ⟨cz1, sz1, h, ecz1, esz1⟩ := gx_add h
  refine gx_new C kcX4 [.null, .null, .int 0, .int 0] wl_17 wl_18 wl_2 dfX4 (show 0 + 1 ≤ tc by omega) (show 0 + 4 ≤ ts by omega) dX5_init_5 ?_
  refine gx_dup C dX5_init_8 rfl ?_
  obtain ⟨⟨⟩, Xz2, cz3, sz3, eXz2, h⟩ := gx_bd4 h
  obtain ⟨cz4, sz4, h, ecz4, esz4⟩ := gx_add h
  refine gx_callIN (As := []) (st := [gx_r (some X.2), gx_r (some this)]) (stk2 := [gx_r (some X.2), gx_r (some this)]) C cd_X4_init wl_20 rfl wn_19 (gc_X4_init fu X.2 (gx_nw X (.inr (4, [.null, .null, .int 0, .int 0]))) Xz2 cz3 sz3 eXz2) rfl ⟨Nat.le_of_ble_eq_true rfl, Nat.le_of_ble_eq_true rfl⟩ ⟨show 0 + 1 + cz3 ≤ tc by omega, show 0 + 4 + sz3 ≤ ts by omega⟩ (Nat.le_of_ble_eq_true rfl) rfl rfl dX5_init_9 ?_
  obtain ⟨Xz5, eXz5, h⟩ := gx_bd h
  refine gx_putF C kcX5 0 (by decide) rfl hin rfl wl_95 ⟨rfl, rfl⟩ eXz5 dX5_init_12 ?_
  refine gx_aload_n C dX5_init_15 rfl rfl ?_
  obtain ⟨cz6, sz6, h, ecz6, esz6⟩ := gx_add h
  refine gx_new C kcX1 [.null, .null, .int 0, .int 0] wl_41 wl_42 wl_3 dfX1 (show 0 + 1 + cz3 + 1 ≤ tc by omega) (show 0 + 4 + sz3 + 4 ≤ ts by omega) dX5_init_16 ?_
  refine gx_dup C dX5_init_19 rfl ?_
  refine gx_aload_n C dX5_init_20 rfl rfl ?_
  obtain ⟨az7, eaz7, h⟩ := gx_bd h
  refine gx_get C kcX5 0 (by decide) wl_95 (gx_gd_s eaz7) dX5_init_21 ?_
  obtain ⟨⟨⟩, Xz8, cz9, sz9, eXz8, h⟩ := gx_bd4 h
  obtain ⟨cz10, sz10, h, ecz10, esz10⟩ := gx_add h
  refine gx_callI (As := [gx_r (some az7)]) (st := [gx_r (some Xz5.2), gx_r (some this)]) (stk2 := [gx_r (some Xz5.2), gx_r (some this)]) C cd_X1_init wl_44 rfl wl_43 (gc_X1_init fu Xz5.2 az7 (gx_nw Xz5 (.inr (1, [.null, .null, .int 0, .int 0]))) Xz8 cz9 sz9 eXz8) rfl ⟨Nat.le_of_ble_eq_true rfl, Nat.le_of_ble_eq_true rfl⟩ ⟨show 0 + 1 + cz3 + 1 + cz9 ≤ tc by omega, show 0 + 4 + sz3 + 4 + sz9 ≤ ts by omega⟩ (Nat.le_of_ble_eq_true rfl) rfl rfl dX5_init_24 ?_
  obtain ⟨Xz11, eXz11, h⟩ := gx_bd h
  refine gx_putF C kcX5 1 (by decide) rfl hin rfl wl_96 ⟨rfl, rfl⟩ eXz11 dX5_init_27 ?_
  refine gx_aload_n C dX5_init_30 rfl rfl ?_
  obtain ⟨cz12, sz12, h, ecz12, esz12⟩ := gx_add h
  refine gx_new C kcX2 [.null, .null] wl_61 wl_62 wl_4 dfX2 (show 0 + 1 + cz3 + 1 + cz9 + 1 ≤ tc by omega) (show 0 + 4 + sz3 + 4 + sz9 + 2 ≤ ts by omega) dX5_init_31 ?_
  refine gx_dup C dX5_init_34 rfl ?_
  refine gx_aload_n C dX5_init_35 rfl rfl ?_
  obtain ⟨az13, eaz13, h⟩ := gx_bd h
  refine gx_get C kcX5 0 (by decide) wl_95 (gx_gd_s eaz13) dX5_init_36 ?_
  obtain ⟨⟨⟩, Xz14, cz15, sz15, eXz14, h⟩ := gx_bd4 h
  obtain ⟨cz16, sz16, h, ecz16, esz16⟩ := gx_add h
  refine gx_callI (As := [gx_r (some az13)]) (st := [gx_r (some Xz11.2), gx_r (some this)]) (stk2 := [gx_r (some Xz11.2), gx_r (some this)]) C cd_X2_init wl_64 rfl wl_63 (gc_X2_init fu Xz11.2 az13 (gx_nw Xz11 (.inr (2, [.null, .null]))) Xz14 cz15 sz15 eXz14) rfl ⟨Nat.le_of_ble_eq_true rfl, Nat.le_of_ble_eq_true rfl⟩ ⟨show 0 + 1 + cz3 + 1 + cz9 + 1 + cz15 ≤ tc by omega, show 0 + 4 + sz3 + 4 + sz9 + 2 + sz15 ≤ ts by omega⟩ (Nat.le_of_ble_eq_true rfl) rfl rfl dX5_init_39 ?_
  obtain ⟨Xz17, eXz17, h⟩ := gx_bd h
  refine gx_putF C kcX5 2 (by decide) rfl hin rfl wl_97 ⟨rfl, rfl⟩ eXz17 dX5_init_42 ?_
  refine gx_aload_n C dX5_init_45 rfl rfl ?_
  obtain ⟨cz18, sz18, h, ecz18, esz18⟩ := gx_add h
  refine gx_new C kcX3 [.null, .int 0, .int 0] wl_74 wl_75 wl_5 dfX3 (show 0 + 1 + cz3 + 1 + cz9 + 1 + cz15 + 1 ≤ tc by omega) (show 0 + 4 + sz3 + 4 + sz9 + 2 + sz15 + 3 ≤ ts by omega) dX5_init_46 ?_
  refine gx_dup C dX5_init_49 rfl ?_
  obtain ⟨⟨⟩, Xz19, cz20, sz20, eXz19, h⟩ := gx_bd4 h
  obtain ⟨cz21, sz21, h, ecz21, esz21⟩ := gx_add h
  refine gx_callIN (As := []) (st := [gx_r (some Xz17.2), gx_r (some this)]) (stk2 := [gx_r (some Xz17.2), gx_r (some this)]) C cd_X3_init wl_77 rfl wn_76 (gc_X3_init fu Xz17.2 (gx_nw Xz17 (.inr (3, [.null, .int 0, .int 0]))) Xz19 cz20 sz20 eXz19) rfl ⟨Nat.le_of_ble_eq_true rfl, Nat.le_of_ble_eq_true rfl⟩ ⟨show 0 + 1 + cz3 + 1 + cz9 + 1 + cz15 + 1 + cz20 ≤ tc by omega, show 0 + 4 + sz3 + 4 + sz9 + 2 + sz15 + 3 + sz20 ≤ ts by omega⟩ (Nat.le_of_ble_eq_true rfl) rfl rfl dX5_init_50 ?_
  obtain ⟨Xz22, eXz22, h⟩ := gx_bd h
  refine gx_put C kcX5 3 (by decide) rfl wl_98 ⟨rfl, rfl⟩ eXz22 dX5_init_53 ?_
  refine gx_aload_n C dX5_init_56 rfl rfl ?_
  obtain ⟨cz23, sz23, h, ecz23, esz23⟩ := gx_add h
  refine gx_new C kcX3 [.null, .int 0, .int 0] wl_74 wl_75 wl_5 dfX3 (show 0 + 1 + cz3 + 1 + cz9 + 1 + cz15 + 1 + cz20 + 1 ≤ tc by omega) (show 0 + 4 + sz3 + 4 + sz9 + 2 + sz15 + 3 + sz20 + 3 ≤ ts by omega) dX5_init_57 ?_
  refine gx_dup C dX5_init_60 rfl ?_
  obtain ⟨⟨⟩, Xz24, cz25, sz25, eXz24, h⟩ := gx_bd4 h
  obtain ⟨cz26, sz26, h, ecz26, esz26⟩ := gx_add h
  refine gx_callIN (As := []) (st := [gx_r (some Xz22.2), gx_r (some this)]) (stk2 := [gx_r (some Xz22.2), gx_r (some this)]) C cd_X3_init wl_77 rfl wn_76 (gc_X3_init fu Xz22.2 (gx_nw Xz22 (.inr (3, [.null, .int 0, .int 0]))) Xz24 cz25 sz25 eXz24) rfl ⟨Nat.le_of_ble_eq_true rfl, Nat.le_of_ble_eq_true rfl⟩ ⟨show 0 + 1 + cz3 + 1 + cz9 + 1 + cz15 + 1 + cz20 + 1 + cz25 ≤ tc by omega, show 0 + 4 + sz3 + 4 + sz9 + 2 + sz15 + 3 + sz20 + 3 + sz25 ≤ ts by omega⟩ (Nat.le_of_ble_eq_true rfl) rfl rfl dX5_init_61 ?_
  obtain ⟨Xz27, eXz27, h⟩ := gx_bd h
  refine gx_put C kcX5 4 (by decide) rfl wl_99 ⟨rfl, rfl⟩ eXz27 dX5_init_64 ?_
  cases h
  exact gx_widen (by omega) (by omega) (gx_vret C dX5_init_67)
theorem dX5_look_0 : decode cX5_look 0 = .ok (.iload_n 1, 1) := by decide +kernel
theorem dX5_look_1 : decode cX5_look 1 = .ok (.tableswitch 115 0 6 #[43, 51, 59, 67, 80, 88, 107], 43) := by decide +kernel
theorem dX5_look_44 : decode cX5_look 44 = .ok (.aload_n 0, 1) := by decide +kernel
theorem dX5_look_45 : decode cX5_look 45 = .ok (.getfield 10, 3) := by decide +kernel
theorem dX5_look_48 : decode cX5_look 48 = .ok (.getfield 185, 3) := by decide +kernel
theorem dX5_look_51 : decode cX5_look 51 = .ok (.ireturn, 1) := by decide +kernel
theorem dX5_look_52 : decode cX5_look 52 = .ok (.aload_n 0, 1) := by decide +kernel
theorem dX5_look_53 : decode cX5_look 53 = .ok (.getfield 10, 3) := by decide +kernel
theorem dX5_look_56 : decode cX5_look 56 = .ok (.getfield 188, 3) := by decide +kernel
theorem dX5_look_59 : decode cX5_look 59 = .ok (.ireturn, 1) := by decide +kernel
theorem dX5_look_60 : decode cX5_look 60 = .ok (.aload_n 0, 1) := by decide +kernel
theorem dX5_look_61 : decode cX5_look 61 = .ok (.getfield 35, 3) := by decide +kernel
theorem dX5_look_64 : decode cX5_look 64 = .ok (.getfield 191, 3) := by decide +kernel
theorem dX5_look_67 : decode cX5_look 67 = .ok (.ireturn, 1) := by decide +kernel
theorem dX5_look_68 : decode cX5_look 68 = .ok (.aload_n 0, 1) := by decide +kernel
theorem dX5_look_69 : decode cX5_look 69 = .ok (.getfield 49, 3) := by decide +kernel
theorem dX5_look_72 : decode cX5_look 72 = .ok (.ifCond .eq 7, 3) := by decide +kernel
theorem dX5_look_75 : decode cX5_look 75 = .ok (.iconst 1, 1) := by decide +kernel
theorem dX5_look_76 : decode cX5_look 76 = .ok (.goto 4, 3) := by decide +kernel
theorem dX5_look_79 : decode cX5_look 79 = .ok (.iconst 0, 1) := by decide +kernel
theorem dX5_look_80 : decode cX5_look 80 = .ok (.ireturn, 1) := by decide +kernel
theorem dX5_look_81 : decode cX5_look 81 = .ok (.aload_n 0, 1) := by decide +kernel
theorem dX5_look_82 : decode cX5_look 82 = .ok (.getfield 35, 3) := by decide +kernel
theorem dX5_look_85 : decode cX5_look 85 = .ok (.invokevirtual 194, 3) := by decide +kernel
theorem dX5_look_88 : decode cX5_look 88 = .ok (.ireturn, 1) := by decide +kernel
theorem dX5_look_89 : decode cX5_look 89 = .ok (.aload_n 0, 1) := by decide +kernel
theorem dX5_look_90 : decode cX5_look 90 = .ok (.getfield 49, 3) := by decide +kernel
theorem dX5_look_93 : decode cX5_look 93 = .ok (.ifCond .eq 13, 3) := by decide +kernel
theorem dX5_look_96 : decode cX5_look 96 = .ok (.aload_n 0, 1) := by decide +kernel
theorem dX5_look_97 : decode cX5_look 97 = .ok (.getfield 39, 3) := by decide +kernel
theorem dX5_look_100 : decode cX5_look 100 = .ok (.invokevirtual 194, 3) := by decide +kernel
theorem dX5_look_103 : decode cX5_look 103 = .ok (.goto 4, 3) := by decide +kernel
theorem dX5_look_106 : decode cX5_look 106 = .ok (.iconst (-1), 1) := by decide +kernel
theorem dX5_look_107 : decode cX5_look 107 = .ok (.ireturn, 1) := by decide +kernel
theorem dX5_look_108 : decode cX5_look 108 = .ok (.aload_n 0, 1) := by decide +kernel
theorem dX5_look_109 : decode cX5_look 109 = .ok (.getfield 10, 3) := by decide +kernel
theorem dX5_look_112 : decode cX5_look 112 = .ok (.invokevirtual 197, 3) := by decide +kernel
theorem dX5_look_115 : decode cX5_look 115 = .ok (.ireturn, 1) := by decide +kernel
theorem dX5_look_116 : decode cX5_look 116 = .ok (.iconst (-1), 1) := by decide +kernel
theorem dX5_look_117 : decode cX5_look 117 = .ok (.ireturn, 1) := by decide +kernel
def gm_X5_look (fu : Nat) (this : Nat) (p_0 : Int32) (X : gx_H) : Option (Int32 × gx_H) :=
  if p_0 = (0 : Int32) then (
  (gx_gd X this 5 0).bind fun az2 =>
  (gx_gi X az2 4 2).bind fun vz3 =>
  some (vz3, X)) else (
  if p_0 = (1 : Int32) then (
  (gx_gd X this 5 0).bind fun az4 =>
  (gx_gi X az4 4 3).bind fun vz5 =>
  some (vz5, X)) else (
  if p_0 = (2 : Int32) then (
  (gx_gd X this 5 3).bind fun az6 =>
  (gx_gi X az6 3 1).bind fun vz7 =>
  some (vz7, X)) else (
  if p_0 = (3 : Int32) then (
  (gx_gi X this 5 5).bind fun vz8 =>
  if vz8 = 0 then (
  some ((0 : Int32), X)) else (
  some ((1 : Int32), X))) else (
  if p_0 = (4 : Int32) then (
  (gx_gd X this 5 3).bind fun az10 =>
  gx_ob X az10 3 <|
  gx_b2 (gm_X3_countInstructions fu az10 X) fun vz13 Xz12 =>
  some (vz13, Xz12)) else (
  if p_0 = (5 : Int32) then (
  (gx_gi X this 5 5).bind fun vz14 =>
  if vz14 = 0 then (
  some ((-1 : Int32), X)) else (
  (gx_gd X this 5 4).bind fun az16 =>
  gx_ob X az16 3 <|
  gx_b2 (gm_X3_countInstructions fu az16 X) fun vz19 Xz18 =>
  some (vz19, Xz18))) else (
  if p_0 = (6 : Int32) then (
  (gx_gd X this 5 0).bind fun az20 =>
  gx_ob X az20 4 <|
  gx_b2 (gm_X4_countAlways fu az20 X) fun vz23 Xz22 =>
  some (vz23, Xz22)) else (
  some ((-1 : Int32), X))))))))
set_option maxHeartbeats 1000000 in
set_option maxRecDepth 20000 in
theorem gc_X5_look {l : Launch} {D : gx_D} (fu : Nat) (this : Nat) (p_0 : Int32) (X : gx_H) (r : Int32) (X2 : gx_H) (h : gm_X5_look fu this p_0 X = some (r, X2)) : gx_M D gz_cl gz_at gz_tb gz_nb l yX5_look cX5_look 2 (some .int) 2 44 [gx_r (some this), gx_i p_0] X (some (gx_i r)) X2 0 0 := by
  unfold gm_X5_look at h
  refine gx_enter [some (gx_r (some this)), some (gx_i p_0)] rfl (by decide) (Nat.le_of_ble_eq_true rfl) ?_
  intro p e s m below meth c C _
  refine gx_iload_n C dX5_look_0 rfl rfl ?_
  by_cases qz1_0 : p_0 = (0 : Int32)
  · rw [if_pos qz1_0] at h
    refine gx_swIn (tgt := 44) (off := 43) C dX5_look_1 (by rw [qz1_0]; decide) (by rw [qz1_0]; decide) (by rw [qz1_0]; decide) (by decide) ?_
    refine gx_aload_n C dX5_look_44 rfl rfl ?_
    obtain ⟨az2, eaz2, h⟩ := gx_bd h
    refine gx_get C kcX5 0 (by decide) wl_95 (gx_gd_s eaz2) dX5_look_45 ?_
    obtain ⟨vz3, evz3, h⟩ := gx_bd h
    refine gx_get C kcX4 2 (by decide) wl_27 (gx_gi_s evz3) dX5_look_48 ?_
    cases h
    exact gx_iret C dX5_look_51
  rw [if_neg qz1_0] at h
  by_cases qz1_1 : p_0 = (1 : Int32)
  · rw [if_pos qz1_1] at h
    refine gx_swIn (tgt := 52) (off := 51) C dX5_look_1 (by rw [qz1_1]; decide) (by rw [qz1_1]; decide) (by rw [qz1_1]; decide) (by decide) ?_
    refine gx_aload_n C dX5_look_52 rfl rfl ?_
    obtain ⟨az4, eaz4, h⟩ := gx_bd h
    refine gx_get C kcX5 0 (by decide) wl_95 (gx_gd_s eaz4) dX5_look_53 ?_
    obtain ⟨vz5, evz5, h⟩ := gx_bd h
    refine gx_get C kcX4 3 (by decide) wl_29 (gx_gi_s evz5) dX5_look_56 ?_
    cases h
    exact gx_iret C dX5_look_59
  rw [if_neg qz1_1] at h
  by_cases qz1_2 : p_0 = (2 : Int32)
  · rw [if_pos qz1_2] at h
    refine gx_swIn (tgt := 60) (off := 59) C dX5_look_1 (by rw [qz1_2]; decide) (by rw [qz1_2]; decide) (by rw [qz1_2]; decide) (by decide) ?_
    refine gx_aload_n C dX5_look_60 rfl rfl ?_
    obtain ⟨az6, eaz6, h⟩ := gx_bd h
    refine gx_get C kcX5 3 (by decide) wl_98 (gx_gd_s eaz6) dX5_look_61 ?_
    obtain ⟨vz7, evz7, h⟩ := gx_bd h
    refine gx_get C kcX3 1 (by decide) wl_84 (gx_gi_s evz7) dX5_look_64 ?_
    cases h
    exact gx_iret C dX5_look_67
  rw [if_neg qz1_2] at h
  by_cases qz1_3 : p_0 = (3 : Int32)
  · rw [if_pos qz1_3] at h
    refine gx_swIn (tgt := 68) (off := 67) C dX5_look_1 (by rw [qz1_3]; decide) (by rw [qz1_3]; decide) (by rw [qz1_3]; decide) (by decide) ?_
    refine gx_aload_n C dX5_look_68 rfl rfl ?_
    obtain ⟨vz8, evz8, h⟩ := gx_bd h
    refine gx_get C kcX5 5 (by decide) wl_100 (gx_gi_s evz8) dX5_look_69 ?_
    refine gx_if_eq (tgt := 79) C dX5_look_72 (by decide) (fun qz9 => ?_) (fun qz9 => ?_)
    · rw [if_pos qz9] at h
      refine gx_iconst (v := 0) C dX5_look_79 (by decide) ?_
      cases h
      exact gx_iret C dX5_look_80
    · rw [if_neg qz9] at h
      refine gx_iconst (v := 1) C dX5_look_75 (by decide) ?_
      refine gx_goto (tgt := 80) C dX5_look_76 (by decide) ?_
      cases h
      exact gx_iret C dX5_look_80
  rw [if_neg qz1_3] at h
  by_cases qz1_4 : p_0 = (4 : Int32)
  · rw [if_pos qz1_4] at h
    refine gx_swIn (tgt := 81) (off := 80) C dX5_look_1 (by rw [qz1_4]; decide) (by rw [qz1_4]; decide) (by rw [qz1_4]; decide) (by decide) ?_
    refine gx_aload_n C dX5_look_81 rfl rfl ?_
    obtain ⟨az10, eaz10, h⟩ := gx_bd h
    refine gx_get C kcX5 3 (by decide) wl_98 (gx_gd_s eaz10) dX5_look_82 ?_
    obtain ⟨hoz11, h⟩ := gx_obs h
    obtain ⟨vz13, Xz12, eXz12, h⟩ := gx_bd2 h
    refine gx_callV (As := []) (st := []) (stk2 := [gx_i vz13]) C cd_X3_countInstructions wl_482 ws_X3_countInstructions wl_481 rfl hoz11 (gc_X3_countInstructions fu az10 X vz13 Xz12 eXz12) rfl ⟨Nat.le_of_ble_eq_true rfl, Nat.le_of_ble_eq_true rfl⟩ ⟨Nat.le_of_ble_eq_true rfl, Nat.le_of_ble_eq_true rfl⟩ (Nat.le_of_ble_eq_true rfl) rfl rfl dX5_look_85 ?_
    cases h
    exact gx_iret C dX5_look_88
  rw [if_neg qz1_4] at h
  by_cases qz1_5 : p_0 = (5 : Int32)
  · rw [if_pos qz1_5] at h
    refine gx_swIn (tgt := 89) (off := 88) C dX5_look_1 (by rw [qz1_5]; decide) (by rw [qz1_5]; decide) (by rw [qz1_5]; decide) (by decide) ?_
    refine gx_aload_n C dX5_look_89 rfl rfl ?_
    obtain ⟨vz14, evz14, h⟩ := gx_bd h
    refine gx_get C kcX5 5 (by decide) wl_100 (gx_gi_s evz14) dX5_look_90 ?_
    refine gx_if_eq (tgt := 106) C dX5_look_93 (by decide) (fun qz15 => ?_) (fun qz15 => ?_)
    · rw [if_pos qz15] at h
      refine gx_iconst (v := -1) C dX5_look_106 (by decide) ?_
      cases h
      exact gx_iret C dX5_look_107
    · rw [if_neg qz15] at h
      refine gx_aload_n C dX5_look_96 rfl rfl ?_
      obtain ⟨az16, eaz16, h⟩ := gx_bd h
      refine gx_get C kcX5 4 (by decide) wl_99 (gx_gd_s eaz16) dX5_look_97 ?_
      obtain ⟨hoz17, h⟩ := gx_obs h
      obtain ⟨vz19, Xz18, eXz18, h⟩ := gx_bd2 h
      refine gx_callV (As := []) (st := []) (stk2 := [gx_i vz19]) C cd_X3_countInstructions wl_482 ws_X3_countInstructions wl_481 rfl hoz17 (gc_X3_countInstructions fu az16 X vz19 Xz18 eXz18) rfl ⟨Nat.le_of_ble_eq_true rfl, Nat.le_of_ble_eq_true rfl⟩ ⟨Nat.le_of_ble_eq_true rfl, Nat.le_of_ble_eq_true rfl⟩ (Nat.le_of_ble_eq_true rfl) rfl rfl dX5_look_100 ?_
      refine gx_goto (tgt := 107) C dX5_look_103 (by decide) ?_
      cases h
      exact gx_iret C dX5_look_107
  rw [if_neg qz1_5] at h
  by_cases qz1_6 : p_0 = (6 : Int32)
  · rw [if_pos qz1_6] at h
    refine gx_swIn (tgt := 108) (off := 107) C dX5_look_1 (by rw [qz1_6]; decide) (by rw [qz1_6]; decide) (by rw [qz1_6]; decide) (by decide) ?_
    refine gx_aload_n C dX5_look_108 rfl rfl ?_
    obtain ⟨az20, eaz20, h⟩ := gx_bd h
    refine gx_get C kcX5 0 (by decide) wl_95 (gx_gd_s eaz20) dX5_look_109 ?_
    obtain ⟨hoz21, h⟩ := gx_obs h
    obtain ⟨vz23, Xz22, eXz22, h⟩ := gx_bd2 h
    refine gx_callV (As := []) (st := []) (stk2 := [gx_i vz23]) C cd_X4_countAlways wl_487 ws_X4_countAlways wl_486 rfl hoz21 (gc_X4_countAlways fu az20 X vz23 Xz22 eXz22) rfl ⟨Nat.le_of_ble_eq_true rfl, Nat.le_of_ble_eq_true rfl⟩ ⟨Nat.le_of_ble_eq_true rfl, Nat.le_of_ble_eq_true rfl⟩ (Nat.le_of_ble_eq_true rfl) rfl rfl dX5_look_112 ?_
    cases h
    exact gx_iret C dX5_look_115
  rw [if_neg qz1_6] at h
  refine gx_swOut (tgt := 116) C dX5_look_1 (by have n0 := lv_neT qz1_0 (a := 0) (by decide); have n1 := lv_neT qz1_1 (a := 1) (by decide); have n2 := lv_neT qz1_2 (a := 2) (by decide); have n3 := lv_neT qz1_3 (a := 3) (by decide); have n4 := lv_neT qz1_4 (a := 4) (by decide); have n5 := lv_neT qz1_5 (a := 5) (by decide); have n6 := lv_neT qz1_6 (a := 6) (by decide); omega) (by decide) ?_
  refine gx_iconst (v := -1) C dX5_look_116 (by decide) ?_
  cases h
  exact gx_iret C dX5_look_117
theorem dX5_settledBody_0 : decode cX5_settledBody 0 = .ok (.aload_n 0, 1) := by decide +kernel
theorem dX5_settledBody_1 : decode cX5_settledBody 1 = .ok (.iload_n 1, 1) := by decide +kernel
theorem dX5_settledBody_2 : decode cX5_settledBody 2 = .ok (.invokevirtual 116, 3) := by decide +kernel
theorem dX5_settledBody_5 : decode cX5_settledBody 5 = .ok (.astore_n 3, 1) := by decide +kernel
theorem dX5_settledBody_6 : decode cX5_settledBody 6 = .ok (.aload_n 3, 1) := by decide +kernel
theorem dX5_settledBody_7 : decode cX5_settledBody 7 = .ok (.ifnonnull 7, 3) := by decide +kernel
theorem dX5_settledBody_10 : decode cX5_settledBody 10 = .ok (.aconst_null, 1) := by decide +kernel
theorem dX5_settledBody_11 : decode cX5_settledBody 11 = .ok (.goto 8, 3) := by decide +kernel
theorem dX5_settledBody_14 : decode cX5_settledBody 14 = .ok (.aload_n 3, 1) := by decide +kernel
theorem dX5_settledBody_15 : decode cX5_settledBody 15 = .ok (.iload_n 2, 1) := by decide +kernel
theorem dX5_settledBody_16 : decode cX5_settledBody 16 = .ok (.invokevirtual 85, 3) := by decide +kernel
theorem dX5_settledBody_19 : decode cX5_settledBody 19 = .ok (.astore 4, 2) := by decide +kernel
theorem dX5_settledBody_21 : decode cX5_settledBody 21 = .ok (.aload 4, 2) := by decide +kernel
theorem dX5_settledBody_23 : decode cX5_settledBody 23 = .ok (.ifnull 11, 3) := by decide +kernel
theorem dX5_settledBody_26 : decode cX5_settledBody 26 = .ok (.aload_n 0, 1) := by decide +kernel
theorem dX5_settledBody_27 : decode cX5_settledBody 27 = .ok (.getfield 21, 3) := by decide +kernel
theorem dX5_settledBody_30 : decode cX5_settledBody 30 = .ok (.aload_n 3, 1) := by decide +kernel
theorem dX5_settledBody_31 : decode cX5_settledBody 31 = .ok (.invokevirtual 104, 3) := by decide +kernel
theorem dX5_settledBody_34 : decode cX5_settledBody 34 = .ok (.aload 4, 2) := by decide +kernel
theorem dX5_settledBody_36 : decode cX5_settledBody 36 = .ok (.areturn, 1) := by decide +kernel
def gm_X5_settledBody_19 (fu : Nat) (a0 : Nat) (o3 : Option Nat) (so0 : Option Nat) (X : gx_H) : Option (Option Nat × gx_H) :=
  gx_nl so0 (
  some (none, X)) fun az2 =>
  (gx_gd X a0 5 1).bind fun az3 =>
  (o3).bind fun az4 =>
  gx_ob X az3 1 <|
  (gm_X1_settle fu az3 az4 X).bind fun Xz6 =>
  some ((some az2), Xz6)
set_option maxHeartbeats 1000000 in
set_option maxRecDepth 20000 in
theorem gt_X5_settledBody_19 {p : Program} {l : Launch} {e : Env} {s : State} {m : MethodId} {args : Array Value} {below : List Frame} {meth : Method} {c : Code} {D : gx_D} {r : Option Nat} {X2 : gx_H}  (C : gx_C D gz_cl gz_at gz_tb gz_nb p s m meth c cX5_settledBody 5 RX5 (some (.object "GuardFlow$Body"))) (fu : Nat) (a0 : Nat) (o3 : Option Nat) (so0 : Option Nat) (X : gx_H) (h : gm_X5_settledBody_19 fu  a0 o3 so0 X = some (r, X2)) : gx_W D gz_cl 5 p l e (gx_rm 5 126 0 0) s m args below meth c 0 0 (MQ below (gx_Q D gz_cl (some (gx_r r)) X2) args s 0 0 (gx_Z D)) X 19 [some (gx_r (some a0)), none, none, some (gx_r o3), none] [gx_r so0] := by
  unfold gm_X5_settledBody_19 at h
  refine gx_astore (lv2 := [some (gx_r (some a0)), none, none, some (gx_r o3), some (gx_r so0)]) C dX5_settledBody_19 (by decide) rfl ?_
  refine gx_aload C dX5_settledBody_21 rfl ?_
  refine gx_ifnull (tgt := 34) C dX5_settledBody_23 (by decide) (fun qz1 => ?_) (fun az2 qz1 => ?_)
  · subst qz1
    have h := gx_nl_n h
    refine gx_aload C dX5_settledBody_34 rfl ?_
    cases h
    exact gx_aret C dX5_settledBody_36
  · subst qz1
    have h := gx_nl_s h
    refine gx_aload_n C dX5_settledBody_26 rfl rfl ?_
    obtain ⟨az3, eaz3, h⟩ := gx_bd h
    refine gx_get C kcX5 1 (by decide) wl_96 (gx_gd_s eaz3) dX5_settledBody_27 ?_
    refine gx_aload_n C dX5_settledBody_30 rfl rfl ?_
    obtain ⟨az4, eaz4, h⟩ := gx_bd h
    subst eaz4
    obtain ⟨hoz5, h⟩ := gx_obs h
    obtain ⟨Xz6, eXz6, h⟩ := gx_bd h
    refine gx_callV (As := [gx_r (some az4)]) (st := []) (stk2 := []) C cd_X1_settle wl_305 ws_X1_settle wl_304 rfl hoz5 (gc_X1_settle fu az3 az4 X Xz6 eXz6) rfl ⟨Nat.le_of_ble_eq_true rfl, Nat.le_of_ble_eq_true rfl⟩ ⟨Nat.le_of_ble_eq_true rfl, Nat.le_of_ble_eq_true rfl⟩ (Nat.le_of_ble_eq_true rfl) rfl rfl dX5_settledBody_31 ?_
    refine gx_aload C dX5_settledBody_34 rfl ?_
    cases h
    exact gx_aret C dX5_settledBody_36
def gm_X5_settledBody (fu : Nat) (this : Nat) (p_0 : Int32) (p_1 : Int32) (X : gx_H) : Option (Option Nat × gx_H) :=
  gx_ob X this 5 <|
  gx_b2 (gm_X5_programOf fu this p_0 X) fun oz9 Xz8 =>
  gx_nl oz9 (
  gm_X5_settledBody_19 fu  this none none Xz8) fun az11 =>
  gx_ob Xz8 az11 3 <|
  gx_b2 (gm_X3_body fu az11 p_1 Xz8) fun oz14 Xz13 =>
  gm_X5_settledBody_19 fu  this (some az11) oz14 Xz13
set_option maxHeartbeats 1000000 in
set_option maxRecDepth 20000 in
theorem gc_X5_settledBody {l : Launch} {D : gx_D} (fu : Nat) (this : Nat) (p_0 : Int32) (p_1 : Int32) (X : gx_H) (r : Option Nat) (X2 : gx_H) (h : gm_X5_settledBody fu this p_0 p_1 X = some (r, X2)) : gx_M D gz_cl gz_at gz_tb gz_nb l yX5_settledBody cX5_settledBody 5 (some (.object "GuardFlow$Body")) 5 126 [gx_r (some this), gx_i p_0, gx_i p_1] X (some (gx_r r)) X2 0 0 := by
  unfold gm_X5_settledBody at h
  refine gx_enter [some (gx_r (some this)), some (gx_i p_0), some (gx_i p_1), none, none] rfl (by decide) (Nat.le_of_ble_eq_true rfl) ?_
  intro p e s m below meth c C _
  refine gx_aload_n C dX5_settledBody_0 rfl rfl ?_
  refine gx_iload_n C dX5_settledBody_1 rfl rfl ?_
  obtain ⟨hoz7, h⟩ := gx_obs h
  obtain ⟨oz9, Xz8, eXz8, h⟩ := gx_bd2 h
  refine gx_callV (As := [gx_i p_0]) (st := []) (stk2 := [gx_r oz9]) C cd_X5_programOf wl_426 ws_X5_programOf wl_424 rfl hoz7 (gc_X5_programOf fu this p_0 X oz9 Xz8 eXz8) rfl ⟨Nat.le_of_ble_eq_true rfl, Nat.le_of_ble_eq_true rfl⟩ ⟨Nat.le_of_ble_eq_true rfl, Nat.le_of_ble_eq_true rfl⟩ (Nat.le_of_ble_eq_true rfl) rfl rfl dX5_settledBody_2 ?_
  refine gx_astore_n (lv2 := [some (gx_r (some this)), some (gx_i p_0), some (gx_i p_1), some (gx_r oz9), none]) C dX5_settledBody_5 rfl (by decide) rfl ?_
  refine gx_aload_n C dX5_settledBody_6 rfl rfl ?_
  refine gx_ifnonnull (tgt := 14) C dX5_settledBody_7 (by decide) (fun az11 qz10 => ?_) (fun qz10 => ?_)
  · subst qz10
    have h := gx_nl_s h
    refine gx_aload_n C dX5_settledBody_14 rfl rfl ?_
    refine gx_iload_n C dX5_settledBody_15 rfl rfl ?_
    obtain ⟨hoz12, h⟩ := gx_obs h
    obtain ⟨oz14, Xz13, eXz13, h⟩ := gx_bd2 h
    refine gx_callV (As := [gx_i p_1]) (st := []) (stk2 := [gx_r oz14]) C cd_X3_body wl_275 ws_X3_body wl_274 rfl hoz12 (gc_X3_body fu az11 p_1 Xz8 oz14 Xz13 eXz13) rfl ⟨Nat.le_of_ble_eq_true rfl, Nat.le_of_ble_eq_true rfl⟩ ⟨Nat.le_of_ble_eq_true rfl, Nat.le_of_ble_eq_true rfl⟩ (Nat.le_of_ble_eq_true rfl) rfl rfl dX5_settledBody_16 ?_
    refine gx_sub (lv2 := [some (gx_r (some this)), none, none, some (gx_r (some az11)), none]) [true, false, false, true, false] rfl ?_
    exact gt_X5_settledBody_19 C fu  this (some az11) oz14 Xz13 h
  · subst qz10
    have h := gx_nl_n h
    refine gx_null C dX5_settledBody_10 ?_
    refine gx_goto (tgt := 19) C dX5_settledBody_11 (by decide) ?_
    refine gx_sub (lv2 := [some (gx_r (some this)), none, none, some (gx_r none), none]) [true, false, false, true, false] rfl ?_
    exact gt_X5_settledBody_19 C fu  this none none Xz8 h
theorem dX5_may_0 : decode cX5_may 0 = .ok (.aload_n 0, 1) := by decide +kernel
theorem dX5_may_1 : decode cX5_may 1 = .ok (.iload_n 1, 1) := by decide +kernel
theorem dX5_may_2 : decode cX5_may 2 = .ok (.iload_n 2, 1) := by decide +kernel
theorem dX5_may_3 : decode cX5_may 3 = .ok (.invokevirtual 124, 3) := by decide +kernel
theorem dX5_may_6 : decode cX5_may 6 = .ok (.astore 4, 2) := by decide +kernel
theorem dX5_may_8 : decode cX5_may 8 = .ok (.aload 4, 2) := by decide +kernel
theorem dX5_may_10 : decode cX5_may 10 = .ok (.ifnull 12, 3) := by decide +kernel
theorem dX5_may_13 : decode cX5_may 13 = .ok (.aload 4, 2) := by decide +kernel
theorem dX5_may_15 : decode cX5_may 15 = .ok (.iload_n 3, 1) := by decide +kernel
theorem dX5_may_16 : decode cX5_may 16 = .ok (.invokevirtual 88, 3) := by decide +kernel
theorem dX5_may_19 : decode cX5_may 19 = .ok (.ifCond .ne 7, 3) := by decide +kernel
theorem dX5_may_22 : decode cX5_may 22 = .ok (.lconst 0, 1) := by decide +kernel
theorem dX5_may_23 : decode cX5_may 23 = .ok (.goto 10, 3) := by decide +kernel
theorem dX5_may_26 : decode cX5_may 26 = .ok (.aload 4, 2) := by decide +kernel
theorem dX5_may_28 : decode cX5_may 28 = .ok (.getfield 142, 3) := by decide +kernel
theorem dX5_may_31 : decode cX5_may 31 = .ok (.iload_n 3, 1) := by decide +kernel
theorem dX5_may_32 : decode cX5_may 32 = .ok (.laload, 1) := by decide +kernel
theorem dX5_may_33 : decode cX5_may 33 = .ok (.lreturn, 1) := by decide +kernel
def gm_X5_may_22 (fu : Nat)  (X : gx_H) : Option (Int64 × gx_H) :=
  some ((0 : Int64), X)
set_option maxHeartbeats 1000000 in
set_option maxRecDepth 20000 in
theorem gt_X5_may_22 {p : Program} {l : Launch} {e : Env} {s : State} {m : MethodId} {args : Array Value} {below : List Frame} {meth : Method} {c : Code} {D : gx_D} {r : Int64} {X2 : gx_H}  (C : gx_C D gz_cl gz_at gz_tb gz_nb p s m meth c cX5_may 5 RX5 (some .long)) (fu : Nat)  (X : gx_H) (h : gm_X5_may_22 fu   X = some (r, X2)) : gx_W D gz_cl 5 p l e (gx_rm 6 150 0 0) s m args below meth c 0 0 (MQ below (gx_Q D gz_cl (some (gx_l r)) X2) args s 0 0 (gx_Z D)) X 22 [none, none, none, none, none] [] := by
  unfold gm_X5_may_22 at h
  refine gx_lconst (v := 0) C dX5_may_22 (by decide) ?_
  refine gx_goto (tgt := 33) C dX5_may_23 (by decide) ?_
  cases h
  exact gx_lret C dX5_may_33
def gm_X5_may (fu : Nat) (this : Nat) (p_0 : Int32) (p_1 : Int32) (p_2 : Int32) (X : gx_H) : Option (Int64 × gx_H) :=
  gx_ob X this 5 <|
  gx_b2 (gm_X5_settledBody fu this p_0 p_1 X) fun oz3 Xz2 =>
  gx_nl oz3 (
  gm_X5_may_22 fu   Xz2) fun az5 =>
  gx_ob Xz2 az5 0 <|
  gx_b2 (gm_X0_hasInstruction fu az5 p_2 Xz2) fun vz8 Xz7 =>
  if vz8 = 0 then (
  gm_X5_may_22 fu   Xz7) else (
  (gx_gd Xz7 az5 0 8).bind fun az10 =>
  (gx_gal Xz7 az10 1 p_2).bind fun vz11 =>
  some (vz11, Xz7))
set_option maxHeartbeats 1000000 in
set_option maxRecDepth 20000 in
theorem gc_X5_may {l : Launch} {D : gx_D} (fu : Nat) (this : Nat) (p_0 : Int32) (p_1 : Int32) (p_2 : Int32) (X : gx_H) (r : Int64) (X2 : gx_H) (h : gm_X5_may fu this p_0 p_1 p_2 X = some (r, X2)) : gx_M D gz_cl gz_at gz_tb gz_nb l yX5_may cX5_may 5 (some .long) 6 150 [gx_r (some this), gx_i p_0, gx_i p_1, gx_i p_2] X (some (gx_l r)) X2 0 0 := by
  unfold gm_X5_may at h
  refine gx_enter [some (gx_r (some this)), some (gx_i p_0), some (gx_i p_1), some (gx_i p_2), none] rfl (by decide) (Nat.le_of_ble_eq_true rfl) ?_
  intro p e s m below meth c C _
  refine gx_aload_n C dX5_may_0 rfl rfl ?_
  refine gx_iload_n C dX5_may_1 rfl rfl ?_
  refine gx_iload_n C dX5_may_2 rfl rfl ?_
  obtain ⟨hoz1, h⟩ := gx_obs h
  obtain ⟨oz3, Xz2, eXz2, h⟩ := gx_bd2 h
  refine gx_callV (As := [gx_i p_0, gx_i p_1]) (st := []) (stk2 := [gx_r oz3]) C cd_X5_settledBody wl_440 ws_X5_settledBody wl_438 rfl hoz1 (gc_X5_settledBody fu this p_0 p_1 X oz3 Xz2 eXz2) rfl ⟨Nat.le_of_ble_eq_true rfl, Nat.le_of_ble_eq_true rfl⟩ ⟨Nat.le_of_ble_eq_true rfl, Nat.le_of_ble_eq_true rfl⟩ (Nat.le_of_ble_eq_true rfl) rfl rfl dX5_may_3 ?_
  refine gx_astore (lv2 := [some (gx_r (some this)), some (gx_i p_0), some (gx_i p_1), some (gx_i p_2), some (gx_r oz3)]) C dX5_may_6 (by decide) rfl ?_
  refine gx_aload C dX5_may_8 rfl ?_
  refine gx_ifnull (tgt := 22) C dX5_may_10 (by decide) (fun qz4 => ?_) (fun az5 qz4 => ?_)
  · subst qz4
    have h := gx_nl_n h
    refine gx_sub (lv2 := [none, none, none, none, none]) [false, false, false, false, false] rfl ?_
    exact gt_X5_may_22 C fu   Xz2 h
  · subst qz4
    have h := gx_nl_s h
    refine gx_aload C dX5_may_13 rfl ?_
    refine gx_iload_n C dX5_may_15 rfl rfl ?_
    obtain ⟨hoz6, h⟩ := gx_obs h
    obtain ⟨vz8, Xz7, eXz7, h⟩ := gx_bd2 h
    refine gx_callV (As := [gx_i p_2]) (st := []) (stk2 := [gx_i vz8]) C cd_X0_hasInstruction wl_279 ws_X0_hasInstruction wl_278 rfl hoz6 (gc_X0_hasInstruction fu az5 p_2 Xz2 vz8 Xz7 eXz7) rfl ⟨Nat.le_of_ble_eq_true rfl, Nat.le_of_ble_eq_true rfl⟩ ⟨Nat.le_of_ble_eq_true rfl, Nat.le_of_ble_eq_true rfl⟩ (Nat.le_of_ble_eq_true rfl) rfl rfl dX5_may_16 ?_
    refine gx_if_ne (tgt := 26) C dX5_may_19 (by decide) (fun qz9 => ?_) (fun qz9 => ?_)
    · rw [if_neg qz9] at h
      refine gx_aload C dX5_may_26 rfl ?_
      obtain ⟨az10, eaz10, h⟩ := gx_bd h
      refine gx_get C kcX0 8 (by decide) wl_215 (gx_gd_s eaz10) dX5_may_28 ?_
      refine gx_iload_n C dX5_may_31 rfl rfl ?_
      obtain ⟨vz11, evz11, h⟩ := gx_bd h
      refine gx_lald C (t := 1) rfl evz11 dX5_may_32 ?_
      cases h
      exact gx_lret C dX5_may_33
    · rw [if_pos qz9] at h
      refine gx_sub (lv2 := [none, none, none, none, none]) [false, false, false, false, false] rfl ?_
      exact gt_X5_may_22 C fu   Xz7 h
theorem dX5_of_0 : decode cX5_of 0 = .ok (.aload_n 0, 1) := by decide +kernel
theorem dX5_of_1 : decode cX5_of 1 = .ok (.iload_n 1, 1) := by decide +kernel
theorem dX5_of_2 : decode cX5_of 2 = .ok (.iload_n 2, 1) := by decide +kernel
theorem dX5_of_3 : decode cX5_of 3 = .ok (.invokevirtual 124, 3) := by decide +kernel
theorem dX5_of_6 : decode cX5_of 6 = .ok (.astore 5, 2) := by decide +kernel
theorem dX5_of_8 : decode cX5_of 8 = .ok (.aload 5, 2) := by decide +kernel
theorem dX5_of_10 : decode cX5_of 10 = .ok (.ifnull 12, 3) := by decide +kernel
theorem dX5_of_13 : decode cX5_of 13 = .ok (.aload 5, 2) := by decide +kernel
theorem dX5_of_15 : decode cX5_of 15 = .ok (.iload_n 3, 1) := by decide +kernel
theorem dX5_of_16 : decode cX5_of 16 = .ok (.invokevirtual 88, 3) := by decide +kernel
theorem dX5_of_19 : decode cX5_of 19 = .ok (.ifCond .ne 5, 3) := by decide +kernel
theorem dX5_of_22 : decode cX5_of 22 = .ok (.iconst (-1), 1) := by decide +kernel
theorem dX5_of_23 : decode cX5_of 23 = .ok (.ireturn, 1) := by decide +kernel
theorem dX5_of_24 : decode cX5_of 24 = .ok (.iload 4, 2) := by decide +kernel
theorem dX5_of_26 : decode cX5_of 26 = .ok (.tableswitch 95 0 4 #[34, 42, 50, 65, 84], 34) := by decide +kernel
theorem dX5_of_60 : decode cX5_of 60 = .ok (.aload 5, 2) := by decide +kernel
theorem dX5_of_62 : decode cX5_of 62 = .ok (.getfield 128, 3) := by decide +kernel
theorem dX5_of_65 : decode cX5_of 65 = .ok (.iload_n 3, 1) := by decide +kernel
theorem dX5_of_66 : decode cX5_of 66 = .ok (.iaload, 1) := by decide +kernel
theorem dX5_of_67 : decode cX5_of 67 = .ok (.ireturn, 1) := by decide +kernel
theorem dX5_of_68 : decode cX5_of 68 = .ok (.aload 5, 2) := by decide +kernel
theorem dX5_of_70 : decode cX5_of 70 = .ok (.getfield 132, 3) := by decide +kernel
theorem dX5_of_73 : decode cX5_of 73 = .ok (.iload_n 3, 1) := by decide +kernel
theorem dX5_of_74 : decode cX5_of 74 = .ok (.iaload, 1) := by decide +kernel
theorem dX5_of_75 : decode cX5_of 75 = .ok (.ireturn, 1) := by decide +kernel
theorem dX5_of_76 : decode cX5_of 76 = .ok (.aload 5, 2) := by decide +kernel
theorem dX5_of_78 : decode cX5_of 78 = .ok (.iload_n 3, 1) := by decide +kernel
theorem dX5_of_79 : decode cX5_of 79 = .ok (.invokevirtual 135, 3) := by decide +kernel
theorem dX5_of_82 : decode cX5_of 82 = .ok (.ifCond .eq 7, 3) := by decide +kernel
theorem dX5_of_85 : decode cX5_of 85 = .ok (.iconst 1, 1) := by decide +kernel
theorem dX5_of_86 : decode cX5_of 86 = .ok (.goto 4, 3) := by decide +kernel
theorem dX5_of_89 : decode cX5_of 89 = .ok (.iconst 0, 1) := by decide +kernel
theorem dX5_of_90 : decode cX5_of 90 = .ok (.ireturn, 1) := by decide +kernel
theorem dX5_of_91 : decode cX5_of 91 = .ok (.aload_n 0, 1) := by decide +kernel
theorem dX5_of_92 : decode cX5_of 92 = .ok (.getfield 10, 3) := by decide +kernel
theorem dX5_of_95 : decode cX5_of 95 = .ok (.aload 5, 2) := by decide +kernel
theorem dX5_of_97 : decode cX5_of 97 = .ok (.iload_n 3, 1) := by decide +kernel
theorem dX5_of_98 : decode cX5_of 98 = .ok (.invokevirtual 138, 3) := by decide +kernel
theorem dX5_of_101 : decode cX5_of 101 = .ok (.ifCond .eq 7, 3) := by decide +kernel
theorem dX5_of_104 : decode cX5_of 104 = .ok (.iconst 1, 1) := by decide +kernel
theorem dX5_of_105 : decode cX5_of 105 = .ok (.goto 4, 3) := by decide +kernel
theorem dX5_of_108 : decode cX5_of 108 = .ok (.iconst 0, 1) := by decide +kernel
theorem dX5_of_109 : decode cX5_of 109 = .ok (.ireturn, 1) := by decide +kernel
theorem dX5_of_110 : decode cX5_of 110 = .ok (.aload 5, 2) := by decide +kernel
theorem dX5_of_112 : decode cX5_of 112 = .ok (.getfield 142, 3) := by decide +kernel
theorem dX5_of_115 : decode cX5_of 115 = .ok (.iload_n 3, 1) := by decide +kernel
theorem dX5_of_116 : decode cX5_of 116 = .ok (.laload, 1) := by decide +kernel
theorem dX5_of_117 : decode cX5_of 117 = .ok (.invokestatic 146, 3) := by decide +kernel
theorem dX5_of_120 : decode cX5_of 120 = .ok (.ireturn, 1) := by decide +kernel
theorem dX5_of_121 : decode cX5_of 121 = .ok (.iconst (-1), 1) := by decide +kernel
theorem dX5_of_122 : decode cX5_of 122 = .ok (.ireturn, 1) := by decide +kernel
def gm_X5_of (fu : Nat) (this : Nat) (p_0 : Int32) (p_1 : Int32) (p_2 : Int32) (p_3 : Int32) (X : gx_H) : Option (Int32 × gx_H) :=
  gx_ob X this 5 <|
  gx_b2 (gm_X5_settledBody fu this p_0 p_1 X) fun oz3 Xz2 =>
  gx_nl oz3 (
  some ((-1 : Int32), Xz2)) fun az5 =>
  gx_ob Xz2 az5 0 <|
  gx_b2 (gm_X0_hasInstruction fu az5 p_2 Xz2) fun vz8 Xz7 =>
  if vz8 = 0 then (
  some ((-1 : Int32), Xz7)) else (
  if p_3 = (0 : Int32) then (
  (gx_gd Xz7 az5 0 1).bind fun az11 =>
  (gx_gai Xz7 az11 0 p_2).bind fun vz12 =>
  some (vz12, Xz7)) else (
  if p_3 = (1 : Int32) then (
  (gx_gd Xz7 az5 0 2).bind fun az13 =>
  (gx_gai Xz7 az13 0 p_2).bind fun vz14 =>
  some (vz14, Xz7)) else (
  if p_3 = (2 : Int32) then (
  gx_ob Xz7 az5 0 <|
  gx_b2 (gm_X0_isGuarded fu az5 p_2 Xz7) fun vz17 Xz16 =>
  if vz17 = 0 then (
  some ((0 : Int32), Xz16)) else (
  some ((1 : Int32), Xz16))) else (
  if p_3 = (3 : Int32) then (
  (gx_gd Xz7 this 5 0).bind fun az19 =>
  gx_ob Xz7 az19 4 <|
  gx_b2 (gm_X4_needsGuard fu az19 az5 p_2 Xz7) fun vz22 Xz21 =>
  if vz22 = 0 then (
  some ((0 : Int32), Xz21)) else (
  some ((1 : Int32), Xz21))) else (
  if p_3 = (4 : Int32) then (
  (gx_gd Xz7 az5 0 8).bind fun az24 =>
  (gx_gal Xz7 az24 1 p_2).bind fun vz25 =>
  gx_b2 (gm_J13_bitCount_95d88 fu vz25 Xz7) fun vz27 Xz26 =>
  some (vz27, Xz26)) else (
  some ((-1 : Int32), Xz7)))))))
set_option maxHeartbeats 1000000 in
set_option maxRecDepth 20000 in
theorem gc_X5_of {l : Launch} {D : gx_D} (fu : Nat) (this : Nat) (p_0 : Int32) (p_1 : Int32) (p_2 : Int32) (p_3 : Int32) (X : gx_H) (r : Int32) (X2 : gx_H) (h : gm_X5_of fu this p_0 p_1 p_2 p_3 X = some (r, X2)) : gx_M D gz_cl gz_at gz_tb gz_nb l yX5_of cX5_of 6 (some .int) 6 150 [gx_r (some this), gx_i p_0, gx_i p_1, gx_i p_2, gx_i p_3] X (some (gx_i r)) X2 0 0 := by
  unfold gm_X5_of at h
  refine gx_enter [some (gx_r (some this)), some (gx_i p_0), some (gx_i p_1), some (gx_i p_2), some (gx_i p_3), none] rfl (by decide) (Nat.le_of_ble_eq_true rfl) ?_
  intro p e s m below meth c C _
  refine gx_aload_n C dX5_of_0 rfl rfl ?_
  refine gx_iload_n C dX5_of_1 rfl rfl ?_
  refine gx_iload_n C dX5_of_2 rfl rfl ?_
  obtain ⟨hoz1, h⟩ := gx_obs h
  obtain ⟨oz3, Xz2, eXz2, h⟩ := gx_bd2 h
  refine gx_callV (As := [gx_i p_0, gx_i p_1]) (st := []) (stk2 := [gx_r oz3]) C cd_X5_settledBody wl_440 ws_X5_settledBody wl_438 rfl hoz1 (gc_X5_settledBody fu this p_0 p_1 X oz3 Xz2 eXz2) rfl ⟨Nat.le_of_ble_eq_true rfl, Nat.le_of_ble_eq_true rfl⟩ ⟨Nat.le_of_ble_eq_true rfl, Nat.le_of_ble_eq_true rfl⟩ (Nat.le_of_ble_eq_true rfl) rfl rfl dX5_of_3 ?_
  refine gx_astore (lv2 := [some (gx_r (some this)), some (gx_i p_0), some (gx_i p_1), some (gx_i p_2), some (gx_i p_3), some (gx_r oz3)]) C dX5_of_6 (by decide) rfl ?_
  refine gx_aload C dX5_of_8 rfl ?_
  refine gx_ifnull (tgt := 22) C dX5_of_10 (by decide) (fun qz4 => ?_) (fun az5 qz4 => ?_)
  · subst qz4
    have h := gx_nl_n h
    refine gx_iconst (v := -1) C dX5_of_22 (by decide) ?_
    cases h
    exact gx_iret C dX5_of_23
  · subst qz4
    have h := gx_nl_s h
    refine gx_aload C dX5_of_13 rfl ?_
    refine gx_iload_n C dX5_of_15 rfl rfl ?_
    obtain ⟨hoz6, h⟩ := gx_obs h
    obtain ⟨vz8, Xz7, eXz7, h⟩ := gx_bd2 h
    refine gx_callV (As := [gx_i p_2]) (st := []) (stk2 := [gx_i vz8]) C cd_X0_hasInstruction wl_279 ws_X0_hasInstruction wl_278 rfl hoz6 (gc_X0_hasInstruction fu az5 p_2 Xz2 vz8 Xz7 eXz7) rfl ⟨Nat.le_of_ble_eq_true rfl, Nat.le_of_ble_eq_true rfl⟩ ⟨Nat.le_of_ble_eq_true rfl, Nat.le_of_ble_eq_true rfl⟩ (Nat.le_of_ble_eq_true rfl) rfl rfl dX5_of_16 ?_
    refine gx_if_ne (tgt := 24) C dX5_of_19 (by decide) (fun qz9 => ?_) (fun qz9 => ?_)
    · rw [if_neg qz9] at h
      refine gx_iload C dX5_of_24 rfl ?_
      by_cases qz10_0 : p_3 = (0 : Int32)
      · rw [if_pos qz10_0] at h
        refine gx_swIn (tgt := 60) (off := 34) C dX5_of_26 (by rw [qz10_0]; decide) (by rw [qz10_0]; decide) (by rw [qz10_0]; decide) (by decide) ?_
        refine gx_aload C dX5_of_60 rfl ?_
        obtain ⟨az11, eaz11, h⟩ := gx_bd h
        refine gx_get C kcX0 1 (by decide) wl_185 (gx_gd_s eaz11) dX5_of_62 ?_
        refine gx_iload_n C dX5_of_65 rfl rfl ?_
        obtain ⟨vz12, evz12, h⟩ := gx_bd h
        refine gx_iald C (t := 0) rfl evz12 dX5_of_66 ?_
        cases h
        exact gx_iret C dX5_of_67
      rw [if_neg qz10_0] at h
      by_cases qz10_1 : p_3 = (1 : Int32)
      · rw [if_pos qz10_1] at h
        refine gx_swIn (tgt := 68) (off := 42) C dX5_of_26 (by rw [qz10_1]; decide) (by rw [qz10_1]; decide) (by rw [qz10_1]; decide) (by decide) ?_
        refine gx_aload C dX5_of_68 rfl ?_
        obtain ⟨az13, eaz13, h⟩ := gx_bd h
        refine gx_get C kcX0 2 (by decide) wl_190 (gx_gd_s eaz13) dX5_of_70 ?_
        refine gx_iload_n C dX5_of_73 rfl rfl ?_
        obtain ⟨vz14, evz14, h⟩ := gx_bd h
        refine gx_iald C (t := 0) rfl evz14 dX5_of_74 ?_
        cases h
        exact gx_iret C dX5_of_75
      rw [if_neg qz10_1] at h
      by_cases qz10_2 : p_3 = (2 : Int32)
      · rw [if_pos qz10_2] at h
        refine gx_swIn (tgt := 76) (off := 50) C dX5_of_26 (by rw [qz10_2]; decide) (by rw [qz10_2]; decide) (by rw [qz10_2]; decide) (by decide) ?_
        refine gx_aload C dX5_of_76 rfl ?_
        refine gx_iload_n C dX5_of_78 rfl rfl ?_
        obtain ⟨hoz15, h⟩ := gx_obs h
        obtain ⟨vz17, Xz16, eXz16, h⟩ := gx_bd2 h
        refine gx_callV (As := [gx_i p_2]) (st := []) (stk2 := [gx_i vz17]) C cd_X0_isGuarded wl_349 ws_X0_isGuarded wl_432 rfl hoz15 (gc_X0_isGuarded fu az5 p_2 Xz7 vz17 Xz16 eXz16) rfl ⟨Nat.le_of_ble_eq_true rfl, Nat.le_of_ble_eq_true rfl⟩ ⟨Nat.le_of_ble_eq_true rfl, Nat.le_of_ble_eq_true rfl⟩ (Nat.le_of_ble_eq_true rfl) rfl rfl dX5_of_79 ?_
        refine gx_if_eq (tgt := 89) C dX5_of_82 (by decide) (fun qz18 => ?_) (fun qz18 => ?_)
        · rw [if_pos qz18] at h
          refine gx_iconst (v := 0) C dX5_of_89 (by decide) ?_
          cases h
          exact gx_iret C dX5_of_90
        · rw [if_neg qz18] at h
          refine gx_iconst (v := 1) C dX5_of_85 (by decide) ?_
          refine gx_goto (tgt := 90) C dX5_of_86 (by decide) ?_
          cases h
          exact gx_iret C dX5_of_90
      rw [if_neg qz10_2] at h
      by_cases qz10_3 : p_3 = (3 : Int32)
      · rw [if_pos qz10_3] at h
        refine gx_swIn (tgt := 91) (off := 65) C dX5_of_26 (by rw [qz10_3]; decide) (by rw [qz10_3]; decide) (by rw [qz10_3]; decide) (by decide) ?_
        refine gx_aload_n C dX5_of_91 rfl rfl ?_
        obtain ⟨az19, eaz19, h⟩ := gx_bd h
        refine gx_get C kcX5 0 (by decide) wl_95 (gx_gd_s eaz19) dX5_of_92 ?_
        refine gx_aload C dX5_of_95 rfl ?_
        refine gx_iload_n C dX5_of_97 rfl rfl ?_
        obtain ⟨hoz20, h⟩ := gx_obs h
        obtain ⟨vz22, Xz21, eXz21, h⟩ := gx_bd2 h
        refine gx_callV (As := [gx_r (some az5), gx_i p_2]) (st := []) (stk2 := [gx_i vz22]) C cd_X4_needsGuard wl_387 ws_X4_needsGuard wl_442 rfl hoz20 (gc_X4_needsGuard fu az19 az5 p_2 Xz7 vz22 Xz21 eXz21) rfl ⟨Nat.le_of_ble_eq_true rfl, Nat.le_of_ble_eq_true rfl⟩ ⟨Nat.le_of_ble_eq_true rfl, Nat.le_of_ble_eq_true rfl⟩ (Nat.le_of_ble_eq_true rfl) rfl rfl dX5_of_98 ?_
        refine gx_if_eq (tgt := 108) C dX5_of_101 (by decide) (fun qz23 => ?_) (fun qz23 => ?_)
        · rw [if_pos qz23] at h
          refine gx_iconst (v := 0) C dX5_of_108 (by decide) ?_
          cases h
          exact gx_iret C dX5_of_109
        · rw [if_neg qz23] at h
          refine gx_iconst (v := 1) C dX5_of_104 (by decide) ?_
          refine gx_goto (tgt := 109) C dX5_of_105 (by decide) ?_
          cases h
          exact gx_iret C dX5_of_109
      rw [if_neg qz10_3] at h
      by_cases qz10_4 : p_3 = (4 : Int32)
      · rw [if_pos qz10_4] at h
        refine gx_swIn (tgt := 110) (off := 84) C dX5_of_26 (by rw [qz10_4]; decide) (by rw [qz10_4]; decide) (by rw [qz10_4]; decide) (by decide) ?_
        refine gx_aload C dX5_of_110 rfl ?_
        obtain ⟨az24, eaz24, h⟩ := gx_bd h
        refine gx_get C kcX0 8 (by decide) wl_215 (gx_gd_s eaz24) dX5_of_112 ?_
        refine gx_iload_n C dX5_of_115 rfl rfl ?_
        obtain ⟨vz25, evz25, h⟩ := gx_bd h
        refine gx_lald C (t := 1) rfl evz25 dX5_of_116 ?_
        obtain ⟨vz27, Xz26, eXz26, h⟩ := gx_bd2 h
        refine gx_callS (As := [gx_l vz25]) (st := []) (stk2 := [gx_i vz27]) C cd_J13_bitCount_95d88 wl_444 wl_443 (gc_J13_bitCount_95d88 fu vz25 Xz7 vz27 Xz26 eXz26) rfl ⟨Nat.le_of_ble_eq_true rfl, Nat.le_of_ble_eq_true rfl⟩ ⟨Nat.le_of_ble_eq_true rfl, Nat.le_of_ble_eq_true rfl⟩ (Nat.le_of_ble_eq_true rfl) rfl rfl dX5_of_117 ?_
        cases h
        exact gx_iret C dX5_of_120
      rw [if_neg qz10_4] at h
      refine gx_swOut (tgt := 121) C dX5_of_26 (by have n0 := lv_neT qz10_0 (a := 0) (by decide); have n1 := lv_neT qz10_1 (a := 1) (by decide); have n2 := lv_neT qz10_2 (a := 2) (by decide); have n3 := lv_neT qz10_3 (a := 3) (by decide); have n4 := lv_neT qz10_4 (a := 4) (by decide); omega) (by decide) ?_
      refine gx_iconst (v := -1) C dX5_of_121 (by decide) ?_
      cases h
      exact gx_iret C dX5_of_122
    · rw [if_pos qz9] at h
      refine gx_iconst (v := -1) C dX5_of_22 (by decide) ?_
      cases h
      exact gx_iret C dX5_of_23
theorem dX5_range_0 : decode cX5_range 0 = .ok (.aload_n 0, 1) := by decide +kernel
theorem dX5_range_1 : decode cX5_range 1 = .ok (.iload_n 1, 1) := by decide +kernel
theorem dX5_range_2 : decode cX5_range 2 = .ok (.invokevirtual 116, 3) := by decide +kernel
theorem dX5_range_5 : decode cX5_range 5 = .ok (.astore 5, 2) := by decide +kernel
theorem dX5_range_7 : decode cX5_range 7 = .ok (.aload 5, 2) := by decide +kernel
theorem dX5_range_9 : decode cX5_range 9 = .ok (.ifnonnull 7, 3) := by decide +kernel
theorem dX5_range_12 : decode cX5_range 12 = .ok (.aconst_null, 1) := by decide +kernel
theorem dX5_range_13 : decode cX5_range 13 = .ok (.goto 9, 3) := by decide +kernel
theorem dX5_range_16 : decode cX5_range 16 = .ok (.aload 5, 2) := by decide +kernel
theorem dX5_range_18 : decode cX5_range 18 = .ok (.iload_n 2, 1) := by decide +kernel
theorem dX5_range_19 : decode cX5_range 19 = .ok (.invokevirtual 85, 3) := by decide +kernel
theorem dX5_range_22 : decode cX5_range 22 = .ok (.astore 6, 2) := by decide +kernel
theorem dX5_range_24 : decode cX5_range 24 = .ok (.aload 6, 2) := by decide +kernel
theorem dX5_range_26 : decode cX5_range 26 = .ok (.ifnull 16, 3) := by decide +kernel
theorem dX5_range_29 : decode cX5_range 29 = .ok (.iload_n 3, 1) := by decide +kernel
theorem dX5_range_30 : decode cX5_range 30 = .ok (.ifCond .lt 12, 3) := by decide +kernel
theorem dX5_range_33 : decode cX5_range 33 = .ok (.iload_n 3, 1) := by decide +kernel
theorem dX5_range_34 : decode cX5_range 34 = .ok (.aload 6, 2) := by decide +kernel
theorem dX5_range_36 : decode cX5_range 36 = .ok (.getfield 165, 3) := by decide +kernel
theorem dX5_range_39 : decode cX5_range 39 = .ok (.if_icmp .lt 5, 3) := by decide +kernel
theorem dX5_range_42 : decode cX5_range 42 = .ok (.iconst (-1), 1) := by decide +kernel
theorem dX5_range_43 : decode cX5_range 43 = .ok (.ireturn, 1) := by decide +kernel
theorem dX5_range_44 : decode cX5_range 44 = .ok (.iload 4, 2) := by decide +kernel
theorem dX5_range_46 : decode cX5_range 46 = .ok (.tableswitch 50 0 2 #[26, 34, 42], 26) := by decide +kernel
theorem dX5_range_72 : decode cX5_range 72 = .ok (.aload 6, 2) := by decide +kernel
theorem dX5_range_74 : decode cX5_range 74 = .ok (.getfield 176, 3) := by decide +kernel
theorem dX5_range_77 : decode cX5_range 77 = .ok (.iload_n 3, 1) := by decide +kernel
theorem dX5_range_78 : decode cX5_range 78 = .ok (.iaload, 1) := by decide +kernel
theorem dX5_range_79 : decode cX5_range 79 = .ok (.ireturn, 1) := by decide +kernel
theorem dX5_range_80 : decode cX5_range 80 = .ok (.aload 6, 2) := by decide +kernel
theorem dX5_range_82 : decode cX5_range 82 = .ok (.getfield 179, 3) := by decide +kernel
theorem dX5_range_85 : decode cX5_range 85 = .ok (.iload_n 3, 1) := by decide +kernel
theorem dX5_range_86 : decode cX5_range 86 = .ok (.iaload, 1) := by decide +kernel
theorem dX5_range_87 : decode cX5_range 87 = .ok (.ireturn, 1) := by decide +kernel
theorem dX5_range_88 : decode cX5_range 88 = .ok (.aload 6, 2) := by decide +kernel
theorem dX5_range_90 : decode cX5_range 90 = .ok (.getfield 182, 3) := by decide +kernel
theorem dX5_range_93 : decode cX5_range 93 = .ok (.iload_n 3, 1) := by decide +kernel
theorem dX5_range_94 : decode cX5_range 94 = .ok (.iaload, 1) := by decide +kernel
theorem dX5_range_95 : decode cX5_range 95 = .ok (.ireturn, 1) := by decide +kernel
theorem dX5_range_96 : decode cX5_range 96 = .ok (.iconst (-1), 1) := by decide +kernel
theorem dX5_range_97 : decode cX5_range 97 = .ok (.ireturn, 1) := by decide +kernel
def gm_X5_range_22 (fu : Nat) (x3 : Int32) (x4 : Int32) (so0 : Option Nat) (X : gx_H) : Option (Int32 × gx_H) :=
  gx_nl so0 (
  some ((-1 : Int32), X)) fun az2 =>
  if x3 < 0 then (
  some ((-1 : Int32), X)) else (
  (gx_gi X az2 0 7).bind fun vz4 =>
  if x3 < vz4 then (
  if x4 = (0 : Int32) then (
  (gx_gd X az2 0 3).bind fun az7 =>
  (gx_gai X az7 0 x3).bind fun vz8 =>
  some (vz8, X)) else (
  if x4 = (1 : Int32) then (
  (gx_gd X az2 0 4).bind fun az9 =>
  (gx_gai X az9 0 x3).bind fun vz10 =>
  some (vz10, X)) else (
  if x4 = (2 : Int32) then (
  (gx_gd X az2 0 5).bind fun az11 =>
  (gx_gai X az11 0 x3).bind fun vz12 =>
  some (vz12, X)) else (
  some ((-1 : Int32), X))))) else (
  some ((-1 : Int32), X)))
set_option maxHeartbeats 1000000 in
set_option maxRecDepth 20000 in
theorem gt_X5_range_22 {p : Program} {l : Launch} {e : Env} {s : State} {m : MethodId} {args : Array Value} {below : List Frame} {meth : Method} {c : Code} {D : gx_D} {r : Int32} {X2 : gx_H}  (C : gx_C D gz_cl gz_at gz_tb gz_nb p s m meth c cX5_range 7 RX5 (some .int)) (fu : Nat) (x3 : Int32) (x4 : Int32) (so0 : Option Nat) (X : gx_H) (h : gm_X5_range_22 fu  x3 x4 so0 X = some (r, X2)) : gx_W D gz_cl 7 p l e (gx_rm 1 21 0 0) s m args below meth c 0 0 (MQ below (gx_Q D gz_cl (some (gx_i r)) X2) args s 0 0 (gx_Z D)) X 22 [none, none, none, some (gx_i x3), some (gx_i x4), none, none] [gx_r so0] := by
  unfold gm_X5_range_22 at h
  refine gx_astore (lv2 := [none, none, none, some (gx_i x3), some (gx_i x4), none, some (gx_r so0)]) C dX5_range_22 (by decide) rfl ?_
  refine gx_aload C dX5_range_24 rfl ?_
  refine gx_ifnull (tgt := 42) C dX5_range_26 (by decide) (fun qz1 => ?_) (fun az2 qz1 => ?_)
  · subst qz1
    have h := gx_nl_n h
    refine gx_iconst (v := -1) C dX5_range_42 (by decide) ?_
    cases h
    exact gx_iret C dX5_range_43
  · subst qz1
    have h := gx_nl_s h
    refine gx_iload_n C dX5_range_29 rfl rfl ?_
    refine gx_if_lt (tgt := 42) C dX5_range_30 (by decide) (fun qz3 => ?_) (fun qz3 => ?_)
    · rw [if_pos qz3] at h
      refine gx_iconst (v := -1) C dX5_range_42 (by decide) ?_
      cases h
      exact gx_iret C dX5_range_43
    · rw [if_neg qz3] at h
      refine gx_iload_n C dX5_range_33 rfl rfl ?_
      refine gx_aload C dX5_range_34 rfl ?_
      obtain ⟨vz4, evz4, h⟩ := gx_bd h
      refine gx_get C kcX0 7 (by decide) wl_212 (gx_gi_s evz4) dX5_range_36 ?_
      refine gx_icmp_lt (tgt := 44) C dX5_range_39 (by decide) (fun qz5 => ?_) (fun qz5 => ?_)
      · rw [if_pos qz5] at h
        refine gx_iload C dX5_range_44 rfl ?_
        by_cases qz6_0 : x4 = (0 : Int32)
        · rw [if_pos qz6_0] at h
          refine gx_swIn (tgt := 72) (off := 26) C dX5_range_46 (by rw [qz6_0]; decide) (by rw [qz6_0]; decide) (by rw [qz6_0]; decide) (by decide) ?_
          refine gx_aload C dX5_range_72 rfl ?_
          obtain ⟨az7, eaz7, h⟩ := gx_bd h
          refine gx_get C kcX0 3 (by decide) wl_195 (gx_gd_s eaz7) dX5_range_74 ?_
          refine gx_iload_n C dX5_range_77 rfl rfl ?_
          obtain ⟨vz8, evz8, h⟩ := gx_bd h
          refine gx_iald C (t := 0) rfl evz8 dX5_range_78 ?_
          cases h
          exact gx_iret C dX5_range_79
        rw [if_neg qz6_0] at h
        by_cases qz6_1 : x4 = (1 : Int32)
        · rw [if_pos qz6_1] at h
          refine gx_swIn (tgt := 80) (off := 34) C dX5_range_46 (by rw [qz6_1]; decide) (by rw [qz6_1]; decide) (by rw [qz6_1]; decide) (by decide) ?_
          refine gx_aload C dX5_range_80 rfl ?_
          obtain ⟨az9, eaz9, h⟩ := gx_bd h
          refine gx_get C kcX0 4 (by decide) wl_199 (gx_gd_s eaz9) dX5_range_82 ?_
          refine gx_iload_n C dX5_range_85 rfl rfl ?_
          obtain ⟨vz10, evz10, h⟩ := gx_bd h
          refine gx_iald C (t := 0) rfl evz10 dX5_range_86 ?_
          cases h
          exact gx_iret C dX5_range_87
        rw [if_neg qz6_1] at h
        by_cases qz6_2 : x4 = (2 : Int32)
        · rw [if_pos qz6_2] at h
          refine gx_swIn (tgt := 88) (off := 42) C dX5_range_46 (by rw [qz6_2]; decide) (by rw [qz6_2]; decide) (by rw [qz6_2]; decide) (by decide) ?_
          refine gx_aload C dX5_range_88 rfl ?_
          obtain ⟨az11, eaz11, h⟩ := gx_bd h
          refine gx_get C kcX0 5 (by decide) wl_203 (gx_gd_s eaz11) dX5_range_90 ?_
          refine gx_iload_n C dX5_range_93 rfl rfl ?_
          obtain ⟨vz12, evz12, h⟩ := gx_bd h
          refine gx_iald C (t := 0) rfl evz12 dX5_range_94 ?_
          cases h
          exact gx_iret C dX5_range_95
        rw [if_neg qz6_2] at h
        refine gx_swOut (tgt := 96) C dX5_range_46 (by have n0 := lv_neT qz6_0 (a := 0) (by decide); have n1 := lv_neT qz6_1 (a := 1) (by decide); have n2 := lv_neT qz6_2 (a := 2) (by decide); omega) (by decide) ?_
        refine gx_iconst (v := -1) C dX5_range_96 (by decide) ?_
        cases h
        exact gx_iret C dX5_range_97
      · rw [if_neg qz5] at h
        refine gx_iconst (v := -1) C dX5_range_42 (by decide) ?_
        cases h
        exact gx_iret C dX5_range_43
def gm_X5_range (fu : Nat) (this : Nat) (p_0 : Int32) (p_1 : Int32) (p_2 : Int32) (p_3 : Int32) (X : gx_H) : Option (Int32 × gx_H) :=
  gx_ob X this 5 <|
  gx_b2 (gm_X5_programOf fu this p_0 X) fun oz15 Xz14 =>
  gx_nl oz15 (
  gm_X5_range_22 fu  p_2 p_3 none Xz14) fun az17 =>
  gx_ob Xz14 az17 3 <|
  gx_b2 (gm_X3_body fu az17 p_1 Xz14) fun oz20 Xz19 =>
  gm_X5_range_22 fu  p_2 p_3 oz20 Xz19
set_option maxHeartbeats 1000000 in
set_option maxRecDepth 20000 in
theorem gc_X5_range {l : Launch} {D : gx_D} (fu : Nat) (this : Nat) (p_0 : Int32) (p_1 : Int32) (p_2 : Int32) (p_3 : Int32) (X : gx_H) (r : Int32) (X2 : gx_H) (h : gm_X5_range fu this p_0 p_1 p_2 p_3 X = some (r, X2)) : gx_M D gz_cl gz_at gz_tb gz_nb l yX5_range cX5_range 7 (some .int) 1 21 [gx_r (some this), gx_i p_0, gx_i p_1, gx_i p_2, gx_i p_3] X (some (gx_i r)) X2 0 0 := by
  unfold gm_X5_range at h
  refine gx_enter [some (gx_r (some this)), some (gx_i p_0), some (gx_i p_1), some (gx_i p_2), some (gx_i p_3), none, none] rfl (by decide) (Nat.le_of_ble_eq_true rfl) ?_
  intro p e s m below meth c C _
  refine gx_aload_n C dX5_range_0 rfl rfl ?_
  refine gx_iload_n C dX5_range_1 rfl rfl ?_
  obtain ⟨hoz13, h⟩ := gx_obs h
  obtain ⟨oz15, Xz14, eXz14, h⟩ := gx_bd2 h
  refine gx_callV (As := [gx_i p_0]) (st := []) (stk2 := [gx_r oz15]) C cd_X5_programOf wl_426 ws_X5_programOf wl_424 rfl hoz13 (gc_X5_programOf fu this p_0 X oz15 Xz14 eXz14) rfl ⟨Nat.le_of_ble_eq_true rfl, Nat.le_of_ble_eq_true rfl⟩ ⟨Nat.le_of_ble_eq_true rfl, Nat.le_of_ble_eq_true rfl⟩ (Nat.le_of_ble_eq_true rfl) rfl rfl dX5_range_2 ?_
  refine gx_astore (lv2 := [some (gx_r (some this)), some (gx_i p_0), some (gx_i p_1), some (gx_i p_2), some (gx_i p_3), some (gx_r oz15), none]) C dX5_range_5 (by decide) rfl ?_
  refine gx_aload C dX5_range_7 rfl ?_
  refine gx_ifnonnull (tgt := 16) C dX5_range_9 (by decide) (fun az17 qz16 => ?_) (fun qz16 => ?_)
  · subst qz16
    have h := gx_nl_s h
    refine gx_aload C dX5_range_16 rfl ?_
    refine gx_iload_n C dX5_range_18 rfl rfl ?_
    obtain ⟨hoz18, h⟩ := gx_obs h
    obtain ⟨oz20, Xz19, eXz19, h⟩ := gx_bd2 h
    refine gx_callV (As := [gx_i p_1]) (st := []) (stk2 := [gx_r oz20]) C cd_X3_body wl_275 ws_X3_body wl_274 rfl hoz18 (gc_X3_body fu az17 p_1 Xz14 oz20 Xz19 eXz19) rfl ⟨Nat.le_of_ble_eq_true rfl, Nat.le_of_ble_eq_true rfl⟩ ⟨Nat.le_of_ble_eq_true rfl, Nat.le_of_ble_eq_true rfl⟩ (Nat.le_of_ble_eq_true rfl) rfl rfl dX5_range_19 ?_
    refine gx_sub (lv2 := [none, none, none, some (gx_i p_2), some (gx_i p_3), none, none]) [false, false, false, true, true, false, false] rfl ?_
    exact gt_X5_range_22 C fu  p_2 p_3 oz20 Xz19 h
  · subst qz16
    have h := gx_nl_n h
    refine gx_null C dX5_range_12 ?_
    refine gx_goto (tgt := 22) C dX5_range_13 (by decide) ?_
    refine gx_sub (lv2 := [none, none, none, some (gx_i p_2), some (gx_i p_3), none, none]) [false, false, false, true, true, false, false] rfl ?_
    exact gt_X5_range_22 C fu  p_2 p_3 none Xz14 h
theorem dX5_set_0 : decode cX5_set 0 = .ok (.aload_n 0, 1) := by decide +kernel
theorem dX5_set_1 : decode cX5_set 1 = .ok (.iload_n 1, 1) := by decide +kernel
theorem dX5_set_2 : decode cX5_set 2 = .ok (.iload_n 2, 1) := by decide +kernel
theorem dX5_set_3 : decode cX5_set 3 = .ok (.invokevirtual 124, 3) := by decide +kernel
theorem dX5_set_6 : decode cX5_set 6 = .ok (.astore 4, 2) := by decide +kernel
theorem dX5_set_8 : decode cX5_set 8 = .ok (.aload 4, 2) := by decide +kernel
theorem dX5_set_10 : decode cX5_set 10 = .ok (.ifnonnull 5, 3) := by decide +kernel
theorem dX5_set_13 : decode cX5_set 13 = .ok (.lconst 0, 1) := by decide +kernel
theorem dX5_set_14 : decode cX5_set 14 = .ok (.lreturn, 1) := by decide +kernel
theorem dX5_set_15 : decode cX5_set 15 = .ok (.iload_n 3, 1) := by decide +kernel
theorem dX5_set_16 : decode cX5_set 16 = .ok (.tableswitch 46 0 2 #[28, 34, 40], 28) := by decide +kernel
theorem dX5_set_44 : decode cX5_set 44 = .ok (.aload 4, 2) := by decide +kernel
theorem dX5_set_46 : decode cX5_set 46 = .ok (.getfield 152, 3) := by decide +kernel
theorem dX5_set_49 : decode cX5_set 49 = .ok (.lreturn, 1) := by decide +kernel
theorem dX5_set_50 : decode cX5_set 50 = .ok (.aload 4, 2) := by decide +kernel
theorem dX5_set_52 : decode cX5_set 52 = .ok (.getfield 156, 3) := by decide +kernel
theorem dX5_set_55 : decode cX5_set 55 = .ok (.lreturn, 1) := by decide +kernel
theorem dX5_set_56 : decode cX5_set 56 = .ok (.aload 4, 2) := by decide +kernel
theorem dX5_set_58 : decode cX5_set 58 = .ok (.getfield 159, 3) := by decide +kernel
theorem dX5_set_61 : decode cX5_set 61 = .ok (.lreturn, 1) := by decide +kernel
theorem dX5_set_62 : decode cX5_set 62 = .ok (.lconst 0, 1) := by decide +kernel
theorem dX5_set_63 : decode cX5_set 63 = .ok (.lreturn, 1) := by decide +kernel
def gm_X5_set (fu : Nat) (this : Nat) (p_0 : Int32) (p_1 : Int32) (p_2 : Int32) (X : gx_H) : Option (Int64 × gx_H) :=
  gx_ob X this 5 <|
  gx_b2 (gm_X5_settledBody fu this p_0 p_1 X) fun oz3 Xz2 =>
  gx_nl oz3 (
  some ((0 : Int64), Xz2)) fun az5 =>
  if p_2 = (0 : Int32) then (
  (gx_gl Xz2 az5 0 11).bind fun vz7 =>
  some (vz7, Xz2)) else (
  if p_2 = (1 : Int32) then (
  (gx_gl Xz2 az5 0 12).bind fun vz8 =>
  some (vz8, Xz2)) else (
  if p_2 = (2 : Int32) then (
  (gx_gl Xz2 az5 0 13).bind fun vz9 =>
  some (vz9, Xz2)) else (
  some ((0 : Int64), Xz2))))
set_option maxHeartbeats 1000000 in
set_option maxRecDepth 20000 in
theorem gc_X5_set {l : Launch} {D : gx_D} (fu : Nat) (this : Nat) (p_0 : Int32) (p_1 : Int32) (p_2 : Int32) (X : gx_H) (r : Int64) (X2 : gx_H) (h : gm_X5_set fu this p_0 p_1 p_2 X = some (r, X2)) : gx_M D gz_cl gz_at gz_tb gz_nb l yX5_set cX5_set 5 (some .long) 6 150 [gx_r (some this), gx_i p_0, gx_i p_1, gx_i p_2] X (some (gx_l r)) X2 0 0 := by
  unfold gm_X5_set at h
  refine gx_enter [some (gx_r (some this)), some (gx_i p_0), some (gx_i p_1), some (gx_i p_2), none] rfl (by decide) (Nat.le_of_ble_eq_true rfl) ?_
  intro p e s m below meth c C _
  refine gx_aload_n C dX5_set_0 rfl rfl ?_
  refine gx_iload_n C dX5_set_1 rfl rfl ?_
  refine gx_iload_n C dX5_set_2 rfl rfl ?_
  obtain ⟨hoz1, h⟩ := gx_obs h
  obtain ⟨oz3, Xz2, eXz2, h⟩ := gx_bd2 h
  refine gx_callV (As := [gx_i p_0, gx_i p_1]) (st := []) (stk2 := [gx_r oz3]) C cd_X5_settledBody wl_440 ws_X5_settledBody wl_438 rfl hoz1 (gc_X5_settledBody fu this p_0 p_1 X oz3 Xz2 eXz2) rfl ⟨Nat.le_of_ble_eq_true rfl, Nat.le_of_ble_eq_true rfl⟩ ⟨Nat.le_of_ble_eq_true rfl, Nat.le_of_ble_eq_true rfl⟩ (Nat.le_of_ble_eq_true rfl) rfl rfl dX5_set_3 ?_
  refine gx_astore (lv2 := [some (gx_r (some this)), some (gx_i p_0), some (gx_i p_1), some (gx_i p_2), some (gx_r oz3)]) C dX5_set_6 (by decide) rfl ?_
  refine gx_aload C dX5_set_8 rfl ?_
  refine gx_ifnonnull (tgt := 15) C dX5_set_10 (by decide) (fun az5 qz4 => ?_) (fun qz4 => ?_)
  · subst qz4
    have h := gx_nl_s h
    refine gx_iload_n C dX5_set_15 rfl rfl ?_
    by_cases qz6_0 : p_2 = (0 : Int32)
    · rw [if_pos qz6_0] at h
      refine gx_swIn (tgt := 44) (off := 28) C dX5_set_16 (by rw [qz6_0]; decide) (by rw [qz6_0]; decide) (by rw [qz6_0]; decide) (by decide) ?_
      refine gx_aload C dX5_set_44 rfl ?_
      obtain ⟨vz7, evz7, h⟩ := gx_bd h
      refine gx_get C kcX0 11 (by decide) wl_222 (gx_gl_s evz7) dX5_set_46 ?_
      cases h
      exact gx_lret C dX5_set_49
    rw [if_neg qz6_0] at h
    by_cases qz6_1 : p_2 = (1 : Int32)
    · rw [if_pos qz6_1] at h
      refine gx_swIn (tgt := 50) (off := 34) C dX5_set_16 (by rw [qz6_1]; decide) (by rw [qz6_1]; decide) (by rw [qz6_1]; decide) (by decide) ?_
      refine gx_aload C dX5_set_50 rfl ?_
      obtain ⟨vz8, evz8, h⟩ := gx_bd h
      refine gx_get C kcX0 12 (by decide) wl_225 (gx_gl_s evz8) dX5_set_52 ?_
      cases h
      exact gx_lret C dX5_set_55
    rw [if_neg qz6_1] at h
    by_cases qz6_2 : p_2 = (2 : Int32)
    · rw [if_pos qz6_2] at h
      refine gx_swIn (tgt := 56) (off := 40) C dX5_set_16 (by rw [qz6_2]; decide) (by rw [qz6_2]; decide) (by rw [qz6_2]; decide) (by decide) ?_
      refine gx_aload C dX5_set_56 rfl ?_
      obtain ⟨vz9, evz9, h⟩ := gx_bd h
      refine gx_get C kcX0 13 (by decide) wl_228 (gx_gl_s evz9) dX5_set_58 ?_
      cases h
      exact gx_lret C dX5_set_61
    rw [if_neg qz6_2] at h
    refine gx_swOut (tgt := 62) C dX5_set_16 (by have n0 := lv_neT qz6_0 (a := 0) (by decide); have n1 := lv_neT qz6_1 (a := 1) (by decide); have n2 := lv_neT qz6_2 (a := 2) (by decide); omega) (by decide) ?_
    refine gx_lconst (v := 0) C dX5_set_62 (by decide) ?_
    cases h
    exact gx_lret C dX5_set_63
  · subst qz4
    have h := gx_nl_n h
    refine gx_lconst (v := 0) C dX5_set_13 (by decide) ?_
    cases h
    exact gx_lret C dX5_set_14
theorem dX5_size_0 : decode cX5_size 0 = .ok (.aload_n 0, 1) := by decide +kernel
theorem dX5_size_1 : decode cX5_size 1 = .ok (.iload_n 1, 1) := by decide +kernel
theorem dX5_size_2 : decode cX5_size 2 = .ok (.iload_n 2, 1) := by decide +kernel
theorem dX5_size_3 : decode cX5_size 3 = .ok (.invokevirtual 124, 3) := by decide +kernel
theorem dX5_size_6 : decode cX5_size 6 = .ok (.astore 4, 2) := by decide +kernel
theorem dX5_size_8 : decode cX5_size 8 = .ok (.aload 4, 2) := by decide +kernel
theorem dX5_size_10 : decode cX5_size 10 = .ok (.ifnonnull 5, 3) := by decide +kernel
theorem dX5_size_13 : decode cX5_size 13 = .ok (.iconst (-1), 1) := by decide +kernel
theorem dX5_size_14 : decode cX5_size 14 = .ok (.ireturn, 1) := by decide +kernel
theorem dX5_size_15 : decode cX5_size 15 = .ok (.iload_n 3, 1) := by decide +kernel
theorem dX5_size_16 : decode cX5_size 16 = .ok (.tableswitch 68 0 4 #[36, 42, 48, 55, 62], 36) := by decide +kernel
theorem dX5_size_52 : decode cX5_size 52 = .ok (.aload 4, 2) := by decide +kernel
theorem dX5_size_54 : decode cX5_size 54 = .ok (.getfield 162, 3) := by decide +kernel
theorem dX5_size_57 : decode cX5_size 57 = .ok (.ireturn, 1) := by decide +kernel
theorem dX5_size_58 : decode cX5_size 58 = .ok (.aload 4, 2) := by decide +kernel
theorem dX5_size_60 : decode cX5_size 60 = .ok (.getfield 165, 3) := by decide +kernel
theorem dX5_size_63 : decode cX5_size 63 = .ok (.ireturn, 1) := by decide +kernel
theorem dX5_size_64 : decode cX5_size 64 = .ok (.aload 4, 2) := by decide +kernel
theorem dX5_size_66 : decode cX5_size 66 = .ok (.iconst 4, 1) := by decide +kernel
theorem dX5_size_67 : decode cX5_size 67 = .ok (.invokevirtual 168, 3) := by decide +kernel
theorem dX5_size_70 : decode cX5_size 70 = .ok (.ireturn, 1) := by decide +kernel
theorem dX5_size_71 : decode cX5_size 71 = .ok (.aload 4, 2) := by decide +kernel
theorem dX5_size_73 : decode cX5_size 73 = .ok (.iconst 5, 1) := by decide +kernel
theorem dX5_size_74 : decode cX5_size 74 = .ok (.invokevirtual 168, 3) := by decide +kernel
theorem dX5_size_77 : decode cX5_size 77 = .ok (.ireturn, 1) := by decide +kernel
theorem dX5_size_78 : decode cX5_size 78 = .ok (.aload 4, 2) := by decide +kernel
theorem dX5_size_80 : decode cX5_size 80 = .ok (.invokevirtual 172, 3) := by decide +kernel
theorem dX5_size_83 : decode cX5_size 83 = .ok (.ireturn, 1) := by decide +kernel
theorem dX5_size_84 : decode cX5_size 84 = .ok (.iconst (-1), 1) := by decide +kernel
theorem dX5_size_85 : decode cX5_size 85 = .ok (.ireturn, 1) := by decide +kernel
def gm_X5_size (fu : Nat) (this : Nat) (p_0 : Int32) (p_1 : Int32) (p_2 : Int32) (X : gx_H) : Option (Int32 × gx_H) :=
  gx_ob X this 5 <|
  gx_b2 (gm_X5_settledBody fu this p_0 p_1 X) fun oz3 Xz2 =>
  gx_nl oz3 (
  some ((-1 : Int32), Xz2)) fun az5 =>
  if p_2 = (0 : Int32) then (
  (gx_gi Xz2 az5 0 6).bind fun vz7 =>
  some (vz7, Xz2)) else (
  if p_2 = (1 : Int32) then (
  (gx_gi Xz2 az5 0 7).bind fun vz8 =>
  some (vz8, Xz2)) else (
  if p_2 = (2 : Int32) then (
  gx_ob Xz2 az5 0 <|
  gx_b2 (gm_X0_countOfKind fu az5 (4 : Int32) Xz2) fun vz11 Xz10 =>
  some (vz11, Xz10)) else (
  if p_2 = (3 : Int32) then (
  gx_ob Xz2 az5 0 <|
  gx_b2 (gm_X0_countOfKind fu az5 (5 : Int32) Xz2) fun vz14 Xz13 =>
  some (vz14, Xz13)) else (
  if p_2 = (4 : Int32) then (
  gx_ob Xz2 az5 0 <|
  gx_b2 (gm_X0_countReached fu az5 Xz2) fun vz17 Xz16 =>
  some (vz17, Xz16)) else (
  some ((-1 : Int32), Xz2))))))
set_option maxHeartbeats 1000000 in
set_option maxRecDepth 20000 in
theorem gc_X5_size {l : Launch} {D : gx_D} (fu : Nat) (this : Nat) (p_0 : Int32) (p_1 : Int32) (p_2 : Int32) (X : gx_H) (r : Int32) (X2 : gx_H) (h : gm_X5_size fu this p_0 p_1 p_2 X = some (r, X2)) : gx_M D gz_cl gz_at gz_tb gz_nb l yX5_size cX5_size 5 (some .int) 6 150 [gx_r (some this), gx_i p_0, gx_i p_1, gx_i p_2] X (some (gx_i r)) X2 0 0 := by
  unfold gm_X5_size at h
  refine gx_enter [some (gx_r (some this)), some (gx_i p_0), some (gx_i p_1), some (gx_i p_2), none] rfl (by decide) (Nat.le_of_ble_eq_true rfl) ?_
  intro p e s m below meth c C _
  refine gx_aload_n C dX5_size_0 rfl rfl ?_
  refine gx_iload_n C dX5_size_1 rfl rfl ?_
  refine gx_iload_n C dX5_size_2 rfl rfl ?_
  obtain ⟨hoz1, h⟩ := gx_obs h
  obtain ⟨oz3, Xz2, eXz2, h⟩ := gx_bd2 h
  refine gx_callV (As := [gx_i p_0, gx_i p_1]) (st := []) (stk2 := [gx_r oz3]) C cd_X5_settledBody wl_440 ws_X5_settledBody wl_438 rfl hoz1 (gc_X5_settledBody fu this p_0 p_1 X oz3 Xz2 eXz2) rfl ⟨Nat.le_of_ble_eq_true rfl, Nat.le_of_ble_eq_true rfl⟩ ⟨Nat.le_of_ble_eq_true rfl, Nat.le_of_ble_eq_true rfl⟩ (Nat.le_of_ble_eq_true rfl) rfl rfl dX5_size_3 ?_
  refine gx_astore (lv2 := [some (gx_r (some this)), some (gx_i p_0), some (gx_i p_1), some (gx_i p_2), some (gx_r oz3)]) C dX5_size_6 (by decide) rfl ?_
  refine gx_aload C dX5_size_8 rfl ?_
  refine gx_ifnonnull (tgt := 15) C dX5_size_10 (by decide) (fun az5 qz4 => ?_) (fun qz4 => ?_)
  · subst qz4
    have h := gx_nl_s h
    refine gx_iload_n C dX5_size_15 rfl rfl ?_
    by_cases qz6_0 : p_2 = (0 : Int32)
    · rw [if_pos qz6_0] at h
      refine gx_swIn (tgt := 52) (off := 36) C dX5_size_16 (by rw [qz6_0]; decide) (by rw [qz6_0]; decide) (by rw [qz6_0]; decide) (by decide) ?_
      refine gx_aload C dX5_size_52 rfl ?_
      obtain ⟨vz7, evz7, h⟩ := gx_bd h
      refine gx_get C kcX0 6 (by decide) wl_208 (gx_gi_s evz7) dX5_size_54 ?_
      cases h
      exact gx_iret C dX5_size_57
    rw [if_neg qz6_0] at h
    by_cases qz6_1 : p_2 = (1 : Int32)
    · rw [if_pos qz6_1] at h
      refine gx_swIn (tgt := 58) (off := 42) C dX5_size_16 (by rw [qz6_1]; decide) (by rw [qz6_1]; decide) (by rw [qz6_1]; decide) (by decide) ?_
      refine gx_aload C dX5_size_58 rfl ?_
      obtain ⟨vz8, evz8, h⟩ := gx_bd h
      refine gx_get C kcX0 7 (by decide) wl_212 (gx_gi_s evz8) dX5_size_60 ?_
      cases h
      exact gx_iret C dX5_size_63
    rw [if_neg qz6_1] at h
    by_cases qz6_2 : p_2 = (2 : Int32)
    · rw [if_pos qz6_2] at h
      refine gx_swIn (tgt := 64) (off := 48) C dX5_size_16 (by rw [qz6_2]; decide) (by rw [qz6_2]; decide) (by rw [qz6_2]; decide) (by decide) ?_
      refine gx_aload C dX5_size_64 rfl ?_
      refine gx_iconst (v := 4) C dX5_size_66 (by decide) ?_
      obtain ⟨hoz9, h⟩ := gx_obs h
      obtain ⟨vz11, Xz10, eXz10, h⟩ := gx_bd2 h
      refine gx_callV (As := [gx_i (4 : Int32)]) (st := []) (stk2 := [gx_i vz11]) C cd_X0_countOfKind wl_462 ws_X0_countOfKind wl_461 rfl hoz9 (gc_X0_countOfKind fu az5 (4 : Int32) Xz2 vz11 Xz10 eXz10) rfl ⟨Nat.le_of_ble_eq_true rfl, Nat.le_of_ble_eq_true rfl⟩ ⟨Nat.le_of_ble_eq_true rfl, Nat.le_of_ble_eq_true rfl⟩ (Nat.le_of_ble_eq_true rfl) rfl rfl dX5_size_67 ?_
      cases h
      exact gx_iret C dX5_size_70
    rw [if_neg qz6_2] at h
    by_cases qz6_3 : p_2 = (3 : Int32)
    · rw [if_pos qz6_3] at h
      refine gx_swIn (tgt := 71) (off := 55) C dX5_size_16 (by rw [qz6_3]; decide) (by rw [qz6_3]; decide) (by rw [qz6_3]; decide) (by decide) ?_
      refine gx_aload C dX5_size_71 rfl ?_
      refine gx_iconst (v := 5) C dX5_size_73 (by decide) ?_
      obtain ⟨hoz12, h⟩ := gx_obs h
      obtain ⟨vz14, Xz13, eXz13, h⟩ := gx_bd2 h
      refine gx_callV (As := [gx_i (5 : Int32)]) (st := []) (stk2 := [gx_i vz14]) C cd_X0_countOfKind wl_462 ws_X0_countOfKind wl_461 rfl hoz12 (gc_X0_countOfKind fu az5 (5 : Int32) Xz2 vz14 Xz13 eXz13) rfl ⟨Nat.le_of_ble_eq_true rfl, Nat.le_of_ble_eq_true rfl⟩ ⟨Nat.le_of_ble_eq_true rfl, Nat.le_of_ble_eq_true rfl⟩ (Nat.le_of_ble_eq_true rfl) rfl rfl dX5_size_74 ?_
      cases h
      exact gx_iret C dX5_size_77
    rw [if_neg qz6_3] at h
    by_cases qz6_4 : p_2 = (4 : Int32)
    · rw [if_pos qz6_4] at h
      refine gx_swIn (tgt := 78) (off := 62) C dX5_size_16 (by rw [qz6_4]; decide) (by rw [qz6_4]; decide) (by rw [qz6_4]; decide) (by decide) ?_
      refine gx_aload C dX5_size_78 rfl ?_
      obtain ⟨hoz15, h⟩ := gx_obs h
      obtain ⟨vz17, Xz16, eXz16, h⟩ := gx_bd2 h
      refine gx_callV (As := []) (st := []) (stk2 := [gx_i vz17]) C cd_X0_countReached wl_466 ws_X0_countReached wl_465 rfl hoz15 (gc_X0_countReached fu az5 Xz2 vz17 Xz16 eXz16) rfl ⟨Nat.le_of_ble_eq_true rfl, Nat.le_of_ble_eq_true rfl⟩ ⟨Nat.le_of_ble_eq_true rfl, Nat.le_of_ble_eq_true rfl⟩ (Nat.le_of_ble_eq_true rfl) rfl rfl dX5_size_80 ?_
      cases h
      exact gx_iret C dX5_size_83
    rw [if_neg qz6_4] at h
    refine gx_swOut (tgt := 84) C dX5_size_16 (by have n0 := lv_neT qz6_0 (a := 0) (by decide); have n1 := lv_neT qz6_1 (a := 1) (by decide); have n2 := lv_neT qz6_2 (a := 2) (by decide); have n3 := lv_neT qz6_3 (a := 3) (by decide); have n4 := lv_neT qz6_4 (a := 4) (by decide); omega) (by decide) ?_
    refine gx_iconst (v := -1) C dX5_size_84 (by decide) ?_
    cases h
    exact gx_iret C dX5_size_85
  · subst qz4
    have h := gx_nl_n h
    refine gx_iconst (v := -1) C dX5_size_13 (by decide) ?_
    cases h
    exact gx_iret C dX5_size_14
theorem dX5_take_0 : decode cX5_take 0 = .ok (.aload_n 0, 1) := by decide +kernel
theorem dX5_take_1 : decode cX5_take 1 = .ok (.getfield 49, 3) := by decide +kernel
theorem dX5_take_4 : decode cX5_take 4 = .ok (.ifCond .ne 5, 3) := by decide +kernel
theorem dX5_take_7 : decode cX5_take 7 = .ok (.iconst 0, 1) := by decide +kernel
theorem dX5_take_8 : decode cX5_take 8 = .ok (.ireturn, 1) := by decide +kernel
theorem dX5_take_9 : decode cX5_take 9 = .ok (.aload_n 0, 1) := by decide +kernel
theorem dX5_take_10 : decode cX5_take 10 = .ok (.getfield 35, 3) := by decide +kernel
theorem dX5_take_13 : decode cX5_take 13 = .ok (.astore_n 1, 1) := by decide +kernel
theorem dX5_take_14 : decode cX5_take 14 = .ok (.aload_n 0, 1) := by decide +kernel
theorem dX5_take_15 : decode cX5_take 15 = .ok (.aload_n 0, 1) := by decide +kernel
theorem dX5_take_16 : decode cX5_take 16 = .ok (.getfield 39, 3) := by decide +kernel
theorem dX5_take_19 : decode cX5_take 19 = .ok (.putfield 35, 3) := by decide +kernel
theorem dX5_take_22 : decode cX5_take 22 = .ok (.aload_n 0, 1) := by decide +kernel
theorem dX5_take_23 : decode cX5_take 23 = .ok (.aload_n 1, 1) := by decide +kernel
theorem dX5_take_24 : decode cX5_take 24 = .ok (.putfield 39, 3) := by decide +kernel
theorem dX5_take_27 : decode cX5_take 27 = .ok (.aload_n 0, 1) := by decide +kernel
theorem dX5_take_28 : decode cX5_take 28 = .ok (.iconst 0, 1) := by decide +kernel
theorem dX5_take_29 : decode cX5_take 29 = .ok (.putfield 49, 3) := by decide +kernel
theorem dX5_take_32 : decode cX5_take 32 = .ok (.iconst 1, 1) := by decide +kernel
theorem dX5_take_33 : decode cX5_take 33 = .ok (.ireturn, 1) := by decide +kernel
def gm_X5_take (fu : Nat) (this : Nat) (X : gx_H) : Option (Int32 × gx_H) :=
  (gx_gi X this 5 5).bind fun vz1 =>
  if vz1 = 0 then (
  some ((0 : Int32), X)) else (
  (gx_gd X this 5 3).bind fun az3 =>
  (gx_gd X this 5 4).bind fun az4 =>
  (gx_pf X this 5 3 (.ref az4)).bind fun Xz5 =>
  (gx_pf Xz5 this 5 4 (.ref az3)).bind fun Xz6 =>
  (gx_pf Xz6 this 5 5 (.int (0 : Int32))).bind fun Xz7 =>
  some ((1 : Int32), Xz7))
set_option maxHeartbeats 1000000 in
set_option maxRecDepth 20000 in
theorem gc_X5_take {l : Launch} {D : gx_D} (fu : Nat) (this : Nat) (X : gx_H) (r : Int32) (X2 : gx_H) (h : gm_X5_take fu this X = some (r, X2)) : gx_M D gz_cl gz_at gz_tb gz_nb l yX5_take cX5_take 2 (some .boolean) 0 0 [gx_r (some this)] X (some (gx_i r)) X2 0 0 := by
  unfold gm_X5_take at h
  refine gx_enter [some (gx_r (some this)), none] rfl (by decide) (Nat.le_of_ble_eq_true rfl) ?_
  intro p e s m below meth c C _
  refine gx_aload_n C dX5_take_0 rfl rfl ?_
  obtain ⟨vz1, evz1, h⟩ := gx_bd h
  refine gx_get C kcX5 5 (by decide) wl_100 (gx_gi_s evz1) dX5_take_1 ?_
  refine gx_if_ne (tgt := 9) C dX5_take_4 (by decide) (fun qz2 => ?_) (fun qz2 => ?_)
  · rw [if_neg qz2] at h
    refine gx_aload_n C dX5_take_9 rfl rfl ?_
    obtain ⟨az3, eaz3, h⟩ := gx_bd h
    refine gx_get C kcX5 3 (by decide) wl_98 (gx_gd_s eaz3) dX5_take_10 ?_
    refine gx_astore_n (lv2 := [some (gx_r (some this)), some (gx_r (some az3))]) C dX5_take_13 rfl (by decide) rfl ?_
    refine gx_aload_n C dX5_take_14 rfl rfl ?_
    refine gx_aload_n C dX5_take_15 rfl rfl ?_
    obtain ⟨az4, eaz4, h⟩ := gx_bd h
    refine gx_get C kcX5 4 (by decide) wl_99 (gx_gd_s eaz4) dX5_take_16 ?_
    obtain ⟨Xz5, eXz5, h⟩ := gx_bd h
    refine gx_put C kcX5 3 (by decide) rfl wl_98 ⟨rfl, rfl⟩ eXz5 dX5_take_19 ?_
    refine gx_aload_n C dX5_take_22 rfl rfl ?_
    refine gx_aload_n C dX5_take_23 rfl rfl ?_
    obtain ⟨Xz6, eXz6, h⟩ := gx_bd h
    refine gx_put C kcX5 4 (by decide) rfl wl_99 ⟨rfl, rfl⟩ eXz6 dX5_take_24 ?_
    refine gx_aload_n C dX5_take_27 rfl rfl ?_
    refine gx_iconst (v := 0) C dX5_take_28 (by decide) ?_
    obtain ⟨Xz7, eXz7, h⟩ := gx_bd h
    refine gx_put C kcX5 5 (by decide) rfl wl_100 (gx_nz (Or.inl rfl)) eXz7 dX5_take_29 ?_
    refine gx_iconst (v := 1) C dX5_take_32 (by decide) ?_
    cases h
    exact gx_zret (Or.inr rfl) C dX5_take_33
  · rw [if_pos qz2] at h
    refine gx_iconst (v := 0) C dX5_take_7 (by decide) ?_
    cases h
    exact gx_zret (Or.inl rfl) C dX5_take_8
theorem dX5_way_0 : decode cX5_way 0 = .ok (.aload_n 0, 1) := by decide +kernel
theorem dX5_way_1 : decode cX5_way 1 = .ok (.getfield 10, 3) := by decide +kernel
theorem dX5_way_4 : decode cX5_way 4 = .ok (.iload_n 1, 1) := by decide +kernel
theorem dX5_way_5 : decode cX5_way 5 = .ok (.iload_n 2, 1) := by decide +kernel
theorem dX5_way_6 : decode cX5_way 6 = .ok (.iload_n 3, 1) := by decide +kernel
theorem dX5_way_7 : decode cX5_way 7 = .ok (.invokevirtual 53, 3) := by decide +kernel
theorem dX5_way_10 : decode cX5_way 10 = .ok (.ifCond .eq 16, 3) := by decide +kernel
theorem dX5_way_13 : decode cX5_way 13 = .ok (.aload_n 0, 1) := by decide +kernel
theorem dX5_way_14 : decode cX5_way 14 = .ok (.getfield 10, 3) := by decide +kernel
theorem dX5_way_17 : decode cX5_way 17 = .ok (.iload_n 1, 1) := by decide +kernel
theorem dX5_way_18 : decode cX5_way 18 = .ok (.iload_n 2, 1) := by decide +kernel
theorem dX5_way_19 : decode cX5_way 19 = .ok (.iload_n 3, 1) := by decide +kernel
theorem dX5_way_20 : decode cX5_way 20 = .ok (.invokevirtual 57, 3) := by decide +kernel
theorem dX5_way_23 : decode cX5_way 23 = .ok (.ifCond .eq 5, 3) := by decide +kernel
theorem dX5_way_26 : decode cX5_way 26 = .ok (.iconst 0, 1) := by decide +kernel
theorem dX5_way_27 : decode cX5_way 27 = .ok (.ireturn, 1) := by decide +kernel
theorem dX5_way_28 : decode cX5_way 28 = .ok (.aload_n 0, 1) := by decide +kernel
theorem dX5_way_29 : decode cX5_way 29 = .ok (.getfield 10, 3) := by decide +kernel
theorem dX5_way_32 : decode cX5_way 32 = .ok (.iload_n 1, 1) := by decide +kernel
theorem dX5_way_33 : decode cX5_way 33 = .ok (.iload_n 2, 1) := by decide +kernel
theorem dX5_way_34 : decode cX5_way 34 = .ok (.iload_n 3, 1) := by decide +kernel
theorem dX5_way_35 : decode cX5_way 35 = .ok (.invokevirtual 60, 3) := by decide +kernel
theorem dX5_way_38 : decode cX5_way 38 = .ok (.aload_n 0, 1) := by decide +kernel
theorem dX5_way_39 : decode cX5_way 39 = .ok (.invokevirtual 64, 3) := by decide +kernel
theorem dX5_way_42 : decode cX5_way 42 = .ok (.iconst 1, 1) := by decide +kernel
theorem dX5_way_43 : decode cX5_way 43 = .ok (.ireturn, 1) := by decide +kernel
def gm_X5_way (fu : Nat) (this : Nat) (p_0 : Int32) (p_1 : Int32) (p_2 : Int32) (X : gx_H) : Option (Int32 × gx_H) :=
  (gx_gd X this 5 0).bind fun az1 =>
  gx_ob X az1 4 <|
  gx_b2 (gm_X4_canBe fu az1 p_0 p_1 p_2 X) fun vz4 Xz3 =>
  if vz4 = 0 then (
  some ((0 : Int32), Xz3)) else (
  (gx_gd Xz3 this 5 0).bind fun az6 =>
  gx_ob Xz3 az6 4 <|
  gx_b2 (gm_X4_hasWay fu az6 p_0 p_1 p_2 Xz3) fun vz9 Xz8 =>
  if vz9 = 0 then (
  (gx_gd Xz8 this 5 0).bind fun az11 =>
  gx_ob Xz8 az11 4 <|
  (gm_X4_addWay fu az11 p_0 p_1 p_2 Xz8).bind fun Xz13 =>
  gx_ob Xz13 this 5 <|
  (gm_X5_noteChange fu this Xz13).bind fun Xz15 =>
  some ((1 : Int32), Xz15)) else (
  some ((0 : Int32), Xz8)))
set_option maxHeartbeats 1000000 in
set_option maxRecDepth 20000 in
theorem gc_X5_way {l : Launch} {D : gx_D} (fu : Nat) (this : Nat) (p_0 : Int32) (p_1 : Int32) (p_2 : Int32) (X : gx_H) (r : Int32) (X2 : gx_H) (h : gm_X5_way fu this p_0 p_1 p_2 X = some (r, X2)) : gx_M D gz_cl gz_at gz_tb gz_nb l yX5_way cX5_way 4 (some .boolean) 2 45 [gx_r (some this), gx_i p_0, gx_i p_1, gx_i p_2] X (some (gx_i r)) X2 0 0 := by
  unfold gm_X5_way at h
  refine gx_enter [some (gx_r (some this)), some (gx_i p_0), some (gx_i p_1), some (gx_i p_2)] rfl (by decide) (Nat.le_of_ble_eq_true rfl) ?_
  intro p e s m below meth c C _
  refine gx_aload_n C dX5_way_0 rfl rfl ?_
  obtain ⟨az1, eaz1, h⟩ := gx_bd h
  refine gx_get C kcX5 0 (by decide) wl_95 (gx_gd_s eaz1) dX5_way_1 ?_
  refine gx_iload_n C dX5_way_4 rfl rfl ?_
  refine gx_iload_n C dX5_way_5 rfl rfl ?_
  refine gx_iload_n C dX5_way_6 rfl rfl ?_
  obtain ⟨hoz2, h⟩ := gx_obs h
  obtain ⟨vz4, Xz3, eXz3, h⟩ := gx_bd2 h
  refine gx_callV (As := [gx_i p_0, gx_i p_1, gx_i p_2]) (st := []) (stk2 := [gx_i vz4]) C cd_X4_canBe wl_131 ws_X4_canBe wl_130 rfl hoz2 (gc_X4_canBe fu az1 p_0 p_1 p_2 X vz4 Xz3 eXz3) rfl ⟨Nat.le_of_ble_eq_true rfl, Nat.le_of_ble_eq_true rfl⟩ ⟨Nat.le_of_ble_eq_true rfl, Nat.le_of_ble_eq_true rfl⟩ (Nat.le_of_ble_eq_true rfl) rfl rfl dX5_way_7 ?_
  refine gx_if_eq (tgt := 26) C dX5_way_10 (by decide) (fun qz5 => ?_) (fun qz5 => ?_)
  · rw [if_pos qz5] at h
    refine gx_iconst (v := 0) C dX5_way_26 (by decide) ?_
    cases h
    exact gx_zret (Or.inl rfl) C dX5_way_27
  · rw [if_neg qz5] at h
    refine gx_aload_n C dX5_way_13 rfl rfl ?_
    obtain ⟨az6, eaz6, h⟩ := gx_bd h
    refine gx_get C kcX5 0 (by decide) wl_95 (gx_gd_s eaz6) dX5_way_14 ?_
    refine gx_iload_n C dX5_way_17 rfl rfl ?_
    refine gx_iload_n C dX5_way_18 rfl rfl ?_
    refine gx_iload_n C dX5_way_19 rfl rfl ?_
    obtain ⟨hoz7, h⟩ := gx_obs h
    obtain ⟨vz9, Xz8, eXz8, h⟩ := gx_bd2 h
    refine gx_callV (As := [gx_i p_0, gx_i p_1, gx_i p_2]) (st := []) (stk2 := [gx_i vz9]) C cd_X4_hasWay wl_143 ws_X4_hasWay wl_142 rfl hoz7 (gc_X4_hasWay fu az6 p_0 p_1 p_2 Xz3 vz9 Xz8 eXz8) rfl ⟨Nat.le_of_ble_eq_true rfl, Nat.le_of_ble_eq_true rfl⟩ ⟨Nat.le_of_ble_eq_true rfl, Nat.le_of_ble_eq_true rfl⟩ (Nat.le_of_ble_eq_true rfl) rfl rfl dX5_way_20 ?_
    refine gx_if_eq (tgt := 28) C dX5_way_23 (by decide) (fun qz10 => ?_) (fun qz10 => ?_)
    · rw [if_pos qz10] at h
      refine gx_aload_n C dX5_way_28 rfl rfl ?_
      obtain ⟨az11, eaz11, h⟩ := gx_bd h
      refine gx_get C kcX5 0 (by decide) wl_95 (gx_gd_s eaz11) dX5_way_29 ?_
      refine gx_iload_n C dX5_way_32 rfl rfl ?_
      refine gx_iload_n C dX5_way_33 rfl rfl ?_
      refine gx_iload_n C dX5_way_34 rfl rfl ?_
      obtain ⟨hoz12, h⟩ := gx_obs h
      obtain ⟨Xz13, eXz13, h⟩ := gx_bd h
      refine gx_callV (As := [gx_i p_0, gx_i p_1, gx_i p_2]) (st := []) (stk2 := []) C cd_X4_addWay wl_154 ws_X4_addWay wl_153 rfl hoz12 (gc_X4_addWay fu az11 p_0 p_1 p_2 Xz8 Xz13 eXz13) rfl ⟨Nat.le_of_ble_eq_true rfl, Nat.le_of_ble_eq_true rfl⟩ ⟨Nat.le_of_ble_eq_true rfl, Nat.le_of_ble_eq_true rfl⟩ (Nat.le_of_ble_eq_true rfl) rfl rfl dX5_way_35 ?_
      refine gx_aload_n C dX5_way_38 rfl rfl ?_
      obtain ⟨hoz14, h⟩ := gx_obs h
      obtain ⟨Xz15, eXz15, h⟩ := gx_bd h
      refine gx_callV (As := []) (st := []) (stk2 := []) C cd_X5_noteChange wl_159 ws_X5_noteChange wl_157 rfl hoz14 (gc_X5_noteChange fu this Xz13 Xz15 eXz15) rfl ⟨Nat.le_of_ble_eq_true rfl, Nat.le_of_ble_eq_true rfl⟩ ⟨Nat.le_of_ble_eq_true rfl, Nat.le_of_ble_eq_true rfl⟩ (Nat.le_of_ble_eq_true rfl) rfl rfl dX5_way_39 ?_
      refine gx_iconst (v := 1) C dX5_way_42 (by decide) ?_
      cases h
      exact gx_zret (Or.inr rfl) C dX5_way_43
    · rw [if_neg qz10] at h
      refine gx_iconst (v := 0) C dX5_way_26 (by decide) ?_
      cases h
      exact gx_zret (Or.inl rfl) C dX5_way_27
theorem dX6_change_0 : decode cX6_change 0 = .ok (.aload_n 0, 1) := by decide +kernel
theorem dX6_change_1 : decode cX6_change 1 = .ok (.iconst 0, 1) := by decide +kernel
theorem dX6_change_2 : decode cX6_change 2 = .ok (.putfield 65, 3) := by decide +kernel
theorem dX6_change_5 : decode cX6_change 5 = .ok (.aload_n 0, 1) := by decide +kernel
theorem dX6_change_6 : decode cX6_change 6 = .ok (.iconst 0, 1) := by decide +kernel
theorem dX6_change_7 : decode cX6_change 7 = .ok (.putfield 68, 3) := by decide +kernel
theorem dX6_change_10 : decode cX6_change 10 = .ok (.aload_n 0, 1) := by decide +kernel
theorem dX6_change_11 : decode cX6_change 11 = .ok (.getfield 46, 3) := by decide +kernel
theorem dX6_change_14 : decode cX6_change 14 = .ok (.iconst 0, 1) := by decide +kernel
theorem dX6_change_15 : decode cX6_change 15 = .ok (.iconst 0, 1) := by decide +kernel
theorem dX6_change_16 : decode cX6_change 16 = .ok (.bastore, 1) := by decide +kernel
theorem dX6_change_17 : decode cX6_change 17 = .ok (.aload_n 0, 1) := by decide +kernel
theorem dX6_change_18 : decode cX6_change 18 = .ok (.getfield 46, 3) := by decide +kernel
theorem dX6_change_21 : decode cX6_change 21 = .ok (.iconst 1, 1) := by decide +kernel
theorem dX6_change_22 : decode cX6_change 22 = .ok (.iconst 0, 1) := by decide +kernel
theorem dX6_change_23 : decode cX6_change 23 = .ok (.bastore, 1) := by decide +kernel
theorem dX6_change_24 : decode cX6_change 24 = .ok (.return_, 1) := by decide +kernel
def gm_X6_change (fu : Nat) (this : Nat) (X : gx_H) : Option gx_H :=
  (gx_pf X this 6 0 (.int (0 : Int32))).bind fun Xz1 =>
  (gx_pf Xz1 this 6 12 (.int (0 : Int32))).bind fun Xz2 =>
  (gx_gd Xz2 this 6 13).bind fun az3 =>
  (gx_pai Xz2 az3 2 (0 : Int32) (vp_nar .boolean (0 : Int32))).bind fun Xz4 =>
  (gx_gd Xz4 this 6 13).bind fun az5 =>
  (gx_pai Xz4 az5 2 (1 : Int32) (vp_nar .boolean (0 : Int32))).bind fun Xz6 =>
  some Xz6
set_option maxHeartbeats 1000000 in
set_option maxRecDepth 20000 in
theorem gc_X6_change {l : Launch} {D : gx_D} (fu : Nat) (this : Nat) (X : gx_H) (X2 : gx_H) (h : gm_X6_change fu this X = some X2) : gx_M D gz_cl gz_at gz_tb gz_nb l yX6_change cX6_change 1 none 0 0 [gx_r (some this)] X none X2 0 0 := by
  unfold gm_X6_change at h
  refine gx_enter [some (gx_r (some this))] rfl (by decide) (Nat.le_of_ble_eq_true rfl) ?_
  intro p e s m below meth c C _
  refine gx_aload_n C dX6_change_0 rfl rfl ?_
  refine gx_iconst (v := 0) C dX6_change_1 (by decide) ?_
  obtain ⟨Xz1, eXz1, h⟩ := gx_bd h
  refine gx_put C kcX6 0 (by decide) rfl wl_497 ⟨rfl, rfl⟩ eXz1 dX6_change_2 ?_
  refine gx_aload_n C dX6_change_5 rfl rfl ?_
  refine gx_iconst (v := 0) C dX6_change_6 (by decide) ?_
  obtain ⟨Xz2, eXz2, h⟩ := gx_bd h
  refine gx_put C kcX6 12 (by decide) rfl wl_509 (gx_nz (Or.inl rfl)) eXz2 dX6_change_7 ?_
  refine gx_aload_n C dX6_change_10 rfl rfl ?_
  obtain ⟨az3, eaz3, h⟩ := gx_bd h
  refine gx_get C kcX6 13 (by decide) wl_510 (gx_gd_s eaz3) dX6_change_11 ?_
  refine gx_iconst (v := 0) C dX6_change_14 (by decide) ?_
  refine gx_iconst (v := 0) C dX6_change_15 (by decide) ?_
  obtain ⟨Xz4, eXz4, h⟩ := gx_bd h
  refine gx_zast C (t := 2) rfl eXz4 dX6_change_16 ?_
  refine gx_aload_n C dX6_change_17 rfl rfl ?_
  obtain ⟨az5, eaz5, h⟩ := gx_bd h
  refine gx_get C kcX6 13 (by decide) wl_510 (gx_gd_s eaz5) dX6_change_18 ?_
  refine gx_iconst (v := 1) C dX6_change_21 (by decide) ?_
  refine gx_iconst (v := 0) C dX6_change_22 (by decide) ?_
  obtain ⟨Xz6, eXz6, h⟩ := gx_bd h
  refine gx_zast C (t := 2) rfl eXz6 dX6_change_23 ?_
  cases h
  exact gx_vret C dX6_change_24
