/-! methods: X5_handler, X5_init, X5_look, X5_settledBody, X5_may, X5_of, X5_range, X5_set, X5_size, X5_take, X5_way, X6_change -/
theorem dX5_handler_0 : decode cX5_handler 0 = .ok (.aload_n 0, 1) := by decide +kernel
theorem dX5_handler_1 : decode cX5_handler 1 = .ok (.getfield 35, 3) := by decide +kernel
theorem dX5_handler_4 : decode cX5_handler 4 = .ok (.iload_n 1, 1) := by decide +kernel
theorem dX5_handler_5 : decode cX5_handler 5 = .ok (.invokevirtual 85, 3) := by decide +kernel
theorem dX5_handler_8 : decode cX5_handler 8 = .ok (.astore 5, 2) := by decide +kernel
theorem dX5_handler_10 : decode cX5_handler 10 = .ok (.aload 5, 2) := by decide +kernel
theorem dX5_handler_12 : decode cX5_handler 12 = .ok (.ifnull 15, 3) := by decide +kernel
theorem dX5_handler_15 : decode cX5_handler 15 = .ok (.aload 5, 2) := by decide +kernel
theorem dX5_handler_17 : decode cX5_handler 17 = .ok (.iload_n 2, 1) := by decide +kernel
theorem dX5_handler_18 : decode cX5_handler 18 = .ok (.iload_n 3, 1) := by decide +kernel
theorem dX5_handler_19 : decode cX5_handler 19 = .ok (.iload 4, 2) := by decide +kernel
theorem dX5_handler_21 : decode cX5_handler 21 = .ok (.invokevirtual 98, 3) := by decide +kernel
theorem dX5_handler_24 : decode cX5_handler 24 = .ok (.ifCond .ne 5, 3) := by decide +kernel
theorem dX5_handler_27 : decode cX5_handler 27 = .ok (.iconst 0, 1) := by decide +kernel
theorem dX5_handler_28 : decode cX5_handler 28 = .ok (.ireturn, 1) := by decide +kernel
theorem dX5_handler_29 : decode cX5_handler 29 = .ok (.aload 5, 2) := by decide +kernel
theorem dX5_handler_31 : decode cX5_handler 31 = .ok (.iload_n 2, 1) := by decide +kernel
theorem dX5_handler_32 : decode cX5_handler 32 = .ok (.iload_n 3, 1) := by decide +kernel
theorem dX5_handler_33 : decode cX5_handler 33 = .ok (.iload 4, 2) := by decide +kernel
theorem dX5_handler_35 : decode cX5_handler 35 = .ok (.invokevirtual 101, 3) := by decide +kernel
theorem dX5_handler_38 : decode cX5_handler 38 = .ok (.aload_n 0, 1) := by decide +kernel
theorem dX5_handler_39 : decode cX5_handler 39 = .ok (.invokevirtual 64, 3) := by decide +kernel
theorem dX5_handler_42 : decode cX5_handler 42 = .ok (.iconst 1, 1) := by decide +kernel
theorem dX5_handler_43 : decode cX5_handler 43 = .ok (.ireturn, 1) := by decide +kernel
def gm_X5_handler (fu : Nat) (this : Nat) (p_0 : Int32) (p_1 : Int32) (p_2 : Int32) (p_3 : Int32) (X : gx_H) : Option (Int32 × gx_H) :=
  (gx_gd X this 5 3).bind fun a1 =>
  gx_ob X a1 3 <|
  gx_b2 (gm_X3_body fu a1 p_0 X) fun o4 X3 =>
  gx_nl o4 (
  some ((0 : Int32), X3)) fun a6 =>
  gx_ob X3 a6 0 <|
  gx_b2 (gm_X0_canHandle fu a6 p_1 p_2 p_3 X3) fun v9 X8 =>
  if v9 = 0 then (
  some ((0 : Int32), X8)) else (
  gx_ob X8 a6 0 <|
  (gm_X0_addHandler fu a6 p_1 p_2 p_3 X8).bind fun X12 =>
  gx_ob X12 this 5 <|
  (gm_X5_noteChange fu this X12).bind fun X14 =>
  some ((1 : Int32), X14))
set_option maxHeartbeats 1000000 in
set_option maxRecDepth 20000 in
theorem gc_X5_handler {l : Launch} {D : gx_D} (fu : Nat) (this : Nat) (p_0 : Int32) (p_1 : Int32) (p_2 : Int32) (p_3 : Int32) (X : gx_H) (r : Int32) (X2 : gx_H) (h : gm_X5_handler fu this p_0 p_1 p_2 p_3 X = some (r, X2)) : gx_M D gz_cl gz_at gz_tb gz_nb l yX5_handler cX5_handler 6 (some .boolean) 2 44 [gx_r (some this), gx_i p_0, gx_i p_1, gx_i p_2, gx_i p_3] X (some (gx_i r)) X2 0 0 := by
  unfold gm_X5_handler at h
  refine gx_enter [some (gx_r (some this)), some (gx_i p_0), some (gx_i p_1), some (gx_i p_2), some (gx_i p_3), none] rfl (by decide) (Nat.le_of_ble_eq_true rfl) ?_
  intro p e s m below meth c C _
  refine gx_aload_n C dX5_handler_0 rfl rfl ?_
  obtain ⟨a1, ea1, h⟩ := gx_bd h
  refine gx_get C kcX5 3 (by decide) wl_98 (gx_gd_s ea1) dX5_handler_1 ?_
  refine gx_iload_n C dX5_handler_4 rfl rfl ?_
  obtain ⟨ho2, h⟩ := gx_obs h
  obtain ⟨o4, X3, eX3, h⟩ := gx_bd2 h
  refine gx_callV (As := [gx_i p_0]) (st := []) (stk2 := [gx_r o4]) C cd_X3_body wl_275 ws_X3_body wl_274 rfl ho2 (gc_X3_body fu a1 p_0 X o4 X3 eX3) rfl ⟨Nat.le_of_ble_eq_true rfl, Nat.le_of_ble_eq_true rfl⟩ ⟨Nat.le_of_ble_eq_true rfl, Nat.le_of_ble_eq_true rfl⟩ (Nat.le_of_ble_eq_true rfl) rfl rfl dX5_handler_5 ?_
  refine gx_astore (lv2 := [some (gx_r (some this)), some (gx_i p_0), some (gx_i p_1), some (gx_i p_2), some (gx_i p_3), some (gx_r o4)]) C dX5_handler_8 (by decide) rfl ?_
  refine gx_aload C dX5_handler_10 rfl ?_
  refine gx_ifnull (tgt := 27) C dX5_handler_12 (by decide) (fun q5 => ?_) (fun a6 q5 => ?_)
  · subst q5
    have h := gx_nl_n h
    refine gx_iconst (v := 0) C dX5_handler_27 (by decide) ?_
    cases h
    exact gx_zret (Or.inl rfl) C dX5_handler_28
  · subst q5
    have h := gx_nl_s h
    refine gx_aload C dX5_handler_15 rfl ?_
    refine gx_iload_n C dX5_handler_17 rfl rfl ?_
    refine gx_iload_n C dX5_handler_18 rfl rfl ?_
    refine gx_iload C dX5_handler_19 rfl ?_
    obtain ⟨ho7, h⟩ := gx_obs h
    obtain ⟨v9, X8, eX8, h⟩ := gx_bd2 h
    refine gx_callV (As := [gx_i p_1, gx_i p_2, gx_i p_3]) (st := []) (stk2 := [gx_i v9]) C cd_X0_canHandle wl_293 ws_X0_canHandle wl_292 rfl ho7 (gc_X0_canHandle fu a6 p_1 p_2 p_3 X3 v9 X8 eX8) rfl ⟨Nat.le_of_ble_eq_true rfl, Nat.le_of_ble_eq_true rfl⟩ ⟨Nat.le_of_ble_eq_true rfl, Nat.le_of_ble_eq_true rfl⟩ (Nat.le_of_ble_eq_true rfl) rfl rfl dX5_handler_21 ?_
    refine gx_if_ne (tgt := 29) C dX5_handler_24 (by decide) (fun q10 => ?_) (fun q10 => ?_)
    · rw [if_neg q10] at h
      refine gx_aload C dX5_handler_29 rfl ?_
      refine gx_iload_n C dX5_handler_31 rfl rfl ?_
      refine gx_iload_n C dX5_handler_32 rfl rfl ?_
      refine gx_iload C dX5_handler_33 rfl ?_
      obtain ⟨ho11, h⟩ := gx_obs h
      obtain ⟨X12, eX12, h⟩ := gx_bd h
      refine gx_callV (As := [gx_i p_1, gx_i p_2, gx_i p_3]) (st := []) (stk2 := []) C cd_X0_addHandler wl_297 ws_X0_addHandler wl_296 rfl ho11 (gc_X0_addHandler fu a6 p_1 p_2 p_3 X8 X12 eX12) rfl ⟨Nat.le_of_ble_eq_true rfl, Nat.le_of_ble_eq_true rfl⟩ ⟨Nat.le_of_ble_eq_true rfl, Nat.le_of_ble_eq_true rfl⟩ (Nat.le_of_ble_eq_true rfl) rfl rfl dX5_handler_35 ?_
      refine gx_aload_n C dX5_handler_38 rfl rfl ?_
      obtain ⟨ho13, h⟩ := gx_obs h
      obtain ⟨X14, eX14, h⟩ := gx_bd h
      refine gx_callV (As := []) (st := []) (stk2 := []) C cd_X5_noteChange wl_159 ws_X5_noteChange wl_157 rfl ho13 (gc_X5_noteChange fu this X12 X14 eX14) rfl ⟨Nat.le_of_ble_eq_true rfl, Nat.le_of_ble_eq_true rfl⟩ ⟨Nat.le_of_ble_eq_true rfl, Nat.le_of_ble_eq_true rfl⟩ (Nat.le_of_ble_eq_true rfl) rfl rfl dX5_handler_39 ?_
      refine gx_iconst (v := 1) C dX5_handler_42 (by decide) ?_
      cases h
      exact gx_zret (Or.inr rfl) C dX5_handler_43
    · rw [if_pos q10] at h
      refine gx_iconst (v := 0) C dX5_handler_27 (by decide) ?_
      cases h
      exact gx_zret (Or.inl rfl) C dX5_handler_28
theorem dX5_init_0 : decode cX5_init 0 = .ok (.aload_n 0, 1) := by decide +kernel
theorem dX5_init_1 : decode cX5_init 1 = .ok (.invokespecial 1, 3) := by decide +kernel
theorem dX5_init_4 : decode cX5_init 4 = .ok (.aload_n 0, 1) := by decide +kernel
theorem dX5_init_5 : decode cX5_init 5 = .ok (.new 7, 3) := by decide +kernel
theorem dX5_init_8 : decode cX5_init 8 = .ok (.dup, 1) := by decide +kernel
theorem dX5_init_9 : decode cX5_init 9 = .ok (.invokespecial 9, 3) := by decide +kernel
theorem dX5_init_12 : decode cX5_init 12 = .ok (.putfield 10, 3) := by decide +kernel
theorem dX5_init_15 : decode cX5_init 15 = .ok (.aload_n 0, 1) := by decide +kernel
theorem dX5_init_16 : decode cX5_init 16 = .ok (.new 16, 3) := by decide +kernel
theorem dX5_init_19 : decode cX5_init 19 = .ok (.dup, 1) := by decide +kernel
theorem dX5_init_20 : decode cX5_init 20 = .ok (.aload_n 0, 1) := by decide +kernel
theorem dX5_init_21 : decode cX5_init 21 = .ok (.getfield 10, 3) := by decide +kernel
theorem dX5_init_24 : decode cX5_init 24 = .ok (.invokespecial 18, 3) := by decide +kernel
theorem dX5_init_27 : decode cX5_init 27 = .ok (.putfield 21, 3) := by decide +kernel
theorem dX5_init_30 : decode cX5_init 30 = .ok (.aload_n 0, 1) := by decide +kernel
theorem dX5_init_31 : decode cX5_init 31 = .ok (.new 25, 3) := by decide +kernel
theorem dX5_init_34 : decode cX5_init 34 = .ok (.dup, 1) := by decide +kernel
theorem dX5_init_35 : decode cX5_init 35 = .ok (.aload_n 0, 1) := by decide +kernel
theorem dX5_init_36 : decode cX5_init 36 = .ok (.getfield 10, 3) := by decide +kernel
theorem dX5_init_39 : decode cX5_init 39 = .ok (.invokespecial 27, 3) := by decide +kernel
theorem dX5_init_42 : decode cX5_init 42 = .ok (.putfield 28, 3) := by decide +kernel
theorem dX5_init_45 : decode cX5_init 45 = .ok (.aload_n 0, 1) := by decide +kernel
theorem dX5_init_46 : decode cX5_init 46 = .ok (.new 32, 3) := by decide +kernel
theorem dX5_init_49 : decode cX5_init 49 = .ok (.dup, 1) := by decide +kernel
theorem dX5_init_50 : decode cX5_init 50 = .ok (.invokespecial 34, 3) := by decide +kernel
theorem dX5_init_53 : decode cX5_init 53 = .ok (.putfield 35, 3) := by decide +kernel
theorem dX5_init_56 : decode cX5_init 56 = .ok (.aload_n 0, 1) := by decide +kernel
theorem dX5_init_57 : decode cX5_init 57 = .ok (.new 32, 3) := by decide +kernel
theorem dX5_init_60 : decode cX5_init 60 = .ok (.dup, 1) := by decide +kernel
theorem dX5_init_61 : decode cX5_init 61 = .ok (.invokespecial 34, 3) := by decide +kernel
theorem dX5_init_64 : decode cX5_init 64 = .ok (.putfield 39, 3) := by decide +kernel
theorem dX5_init_67 : decode cX5_init 67 = .ok (.return_, 1) := by decide +kernel
def gm_X5_init (fu : Nat) (this : Nat) (X : gx_H) : Option (Unit × gx_H × Nat × Nat) :=
  gx_ad 1 4 <|
  gx_b4 (gm_X4_init fu X.2 (gx_nw X (.inr (4, [.null, .null, .int 0, .int 0])))) fun _u X2 c3 s3 => gx_ad c3 s3 <|
  (gx_pf X2 this 5 0 (.ref X.2)).bind fun X5 =>
  gx_ad 1 4 <|
  (gx_gd (gx_nw X5 (.inr (1, [.null, .null, .int 0, .int 0]))) this 5 0).bind fun a7 =>
  gx_b4 (gm_X1_init fu X5.2 a7 (gx_nw X5 (.inr (1, [.null, .null, .int 0, .int 0])))) fun _u X8 c9 s9 => gx_ad c9 s9 <|
  (gx_pf X8 this 5 1 (.ref X5.2)).bind fun X11 =>
  gx_ad 1 2 <|
  (gx_gd (gx_nw X11 (.inr (2, [.null, .null]))) this 5 0).bind fun a13 =>
  gx_b4 (gm_X2_init fu X11.2 a13 (gx_nw X11 (.inr (2, [.null, .null])))) fun _u X14 c15 s15 => gx_ad c15 s15 <|
  (gx_pf X14 this 5 2 (.ref X11.2)).bind fun X17 =>
  gx_ad 1 3 <|
  gx_b4 (gm_X3_init fu X17.2 (gx_nw X17 (.inr (3, [.null, .int 0, .int 0])))) fun _u X19 c20 s20 => gx_ad c20 s20 <|
  (gx_pf X19 this 5 3 (.ref X17.2)).bind fun X22 =>
  gx_ad 1 3 <|
  gx_b4 (gm_X3_init fu X22.2 (gx_nw X22 (.inr (3, [.null, .int 0, .int 0])))) fun _u X24 c25 s25 => gx_ad c25 s25 <|
  (gx_pf X24 this 5 4 (.ref X22.2)).bind fun X27 =>
  some ((), X27, 0, 0)
set_option maxHeartbeats 1000000 in
set_option maxRecDepth 20000 in
theorem gc_X5_init {l : Launch} {D : gx_D} (fu : Nat) (this : Nat) (X : gx_H) (X2 : gx_H) (tc ts : Nat) (h : gm_X5_init fu this X = some ((), X2, tc, ts)) : gx_M D gz_cl gz_at gz_tb gz_nb l yX5_init cX5_init 1 none 2 41 [gx_r (some this)] X none X2 tc ts := by
  unfold gm_X5_init at h
  refine gx_enter [some (gx_r (some this))] rfl (by decide) (Nat.le_of_ble_eq_true rfl) ?_
  intro p e s m below meth c C hin
  have h1 : 0 + tc = tc := Nat.zero_add tc
  have h2 : 0 + ts = ts := Nat.zero_add ts
  refine gx_aload_n C dX5_init_0 rfl rfl ?_
  refine gx_objInit C wl_14 wl_15 wl_16 dX5_init_1 (Nat.le_of_ble_eq_true rfl) (Nat.le_of_ble_eq_true rfl) ?_
  refine gx_aload_n C dX5_init_4 rfl rfl ?_
  obtain ⟨c1, s1, h, ec1, es1⟩ := gx_add h
  refine gx_new C kcX4 [.null, .null, .int 0, .int 0] wl_17 wl_18 wl_2 dfX4 (show 0 + 1 ≤ tc by omega) (show 0 + 4 ≤ ts by omega) dX5_init_5 ?_
  refine gx_dup C dX5_init_8 rfl ?_
  obtain ⟨⟨⟩, X2, c3, s3, eX2, h⟩ := gx_bd4 h
  obtain ⟨c4, s4, h, ec4, es4⟩ := gx_add h
  refine gx_callIN (As := []) (st := [gx_r (some X.2), gx_r (some this)]) (stk2 := [gx_r (some X.2), gx_r (some this)]) C cd_X4_init wl_20 rfl wn_19 (gc_X4_init fu X.2 (gx_nw X (.inr (4, [.null, .null, .int 0, .int 0]))) X2 c3 s3 eX2) rfl ⟨Nat.le_of_ble_eq_true rfl, Nat.le_of_ble_eq_true rfl⟩ ⟨show 0 + 1 + c3 ≤ tc by omega, show 0 + 4 + s3 ≤ ts by omega⟩ (Nat.le_of_ble_eq_true rfl) rfl rfl dX5_init_9 ?_
  obtain ⟨X5, eX5, h⟩ := gx_bd h
  refine gx_putF C kcX5 0 (by decide) rfl hin rfl wl_95 ⟨rfl, rfl⟩ eX5 dX5_init_12 ?_
  refine gx_aload_n C dX5_init_15 rfl rfl ?_
  obtain ⟨c6, s6, h, ec6, es6⟩ := gx_add h
  refine gx_new C kcX1 [.null, .null, .int 0, .int 0] wl_41 wl_42 wl_3 dfX1 (show 0 + 1 + c3 + 1 ≤ tc by omega) (show 0 + 4 + s3 + 4 ≤ ts by omega) dX5_init_16 ?_
  refine gx_dup C dX5_init_19 rfl ?_
  refine gx_aload_n C dX5_init_20 rfl rfl ?_
  obtain ⟨a7, ea7, h⟩ := gx_bd h
  refine gx_get C kcX5 0 (by decide) wl_95 (gx_gd_s ea7) dX5_init_21 ?_
  obtain ⟨⟨⟩, X8, c9, s9, eX8, h⟩ := gx_bd4 h
  obtain ⟨c10, s10, h, ec10, es10⟩ := gx_add h
  refine gx_callI (As := [gx_r (some a7)]) (st := [gx_r (some X5.2), gx_r (some this)]) (stk2 := [gx_r (some X5.2), gx_r (some this)]) C cd_X1_init wl_44 rfl wl_43 (gc_X1_init fu X5.2 a7 (gx_nw X5 (.inr (1, [.null, .null, .int 0, .int 0]))) X8 c9 s9 eX8) rfl ⟨Nat.le_of_ble_eq_true rfl, Nat.le_of_ble_eq_true rfl⟩ ⟨show 0 + 1 + c3 + 1 + c9 ≤ tc by omega, show 0 + 4 + s3 + 4 + s9 ≤ ts by omega⟩ (Nat.le_of_ble_eq_true rfl) rfl rfl dX5_init_24 ?_
  obtain ⟨X11, eX11, h⟩ := gx_bd h
  refine gx_putF C kcX5 1 (by decide) rfl hin rfl wl_96 ⟨rfl, rfl⟩ eX11 dX5_init_27 ?_
  refine gx_aload_n C dX5_init_30 rfl rfl ?_
  obtain ⟨c12, s12, h, ec12, es12⟩ := gx_add h
  refine gx_new C kcX2 [.null, .null] wl_61 wl_62 wl_4 dfX2 (show 0 + 1 + c3 + 1 + c9 + 1 ≤ tc by omega) (show 0 + 4 + s3 + 4 + s9 + 2 ≤ ts by omega) dX5_init_31 ?_
  refine gx_dup C dX5_init_34 rfl ?_
  refine gx_aload_n C dX5_init_35 rfl rfl ?_
  obtain ⟨a13, ea13, h⟩ := gx_bd h
  refine gx_get C kcX5 0 (by decide) wl_95 (gx_gd_s ea13) dX5_init_36 ?_
  obtain ⟨⟨⟩, X14, c15, s15, eX14, h⟩ := gx_bd4 h
  obtain ⟨c16, s16, h, ec16, es16⟩ := gx_add h
  refine gx_callI (As := [gx_r (some a13)]) (st := [gx_r (some X11.2), gx_r (some this)]) (stk2 := [gx_r (some X11.2), gx_r (some this)]) C cd_X2_init wl_64 rfl wl_63 (gc_X2_init fu X11.2 a13 (gx_nw X11 (.inr (2, [.null, .null]))) X14 c15 s15 eX14) rfl ⟨Nat.le_of_ble_eq_true rfl, Nat.le_of_ble_eq_true rfl⟩ ⟨show 0 + 1 + c3 + 1 + c9 + 1 + c15 ≤ tc by omega, show 0 + 4 + s3 + 4 + s9 + 2 + s15 ≤ ts by omega⟩ (Nat.le_of_ble_eq_true rfl) rfl rfl dX5_init_39 ?_
  obtain ⟨X17, eX17, h⟩ := gx_bd h
  refine gx_putF C kcX5 2 (by decide) rfl hin rfl wl_97 ⟨rfl, rfl⟩ eX17 dX5_init_42 ?_
  refine gx_aload_n C dX5_init_45 rfl rfl ?_
  obtain ⟨c18, s18, h, ec18, es18⟩ := gx_add h
  refine gx_new C kcX3 [.null, .int 0, .int 0] wl_74 wl_75 wl_5 dfX3 (show 0 + 1 + c3 + 1 + c9 + 1 + c15 + 1 ≤ tc by omega) (show 0 + 4 + s3 + 4 + s9 + 2 + s15 + 3 ≤ ts by omega) dX5_init_46 ?_
  refine gx_dup C dX5_init_49 rfl ?_
  obtain ⟨⟨⟩, X19, c20, s20, eX19, h⟩ := gx_bd4 h
  obtain ⟨c21, s21, h, ec21, es21⟩ := gx_add h
  refine gx_callIN (As := []) (st := [gx_r (some X17.2), gx_r (some this)]) (stk2 := [gx_r (some X17.2), gx_r (some this)]) C cd_X3_init wl_77 rfl wn_76 (gc_X3_init fu X17.2 (gx_nw X17 (.inr (3, [.null, .int 0, .int 0]))) X19 c20 s20 eX19) rfl ⟨Nat.le_of_ble_eq_true rfl, Nat.le_of_ble_eq_true rfl⟩ ⟨show 0 + 1 + c3 + 1 + c9 + 1 + c15 + 1 + c20 ≤ tc by omega, show 0 + 4 + s3 + 4 + s9 + 2 + s15 + 3 + s20 ≤ ts by omega⟩ (Nat.le_of_ble_eq_true rfl) rfl rfl dX5_init_50 ?_
  obtain ⟨X22, eX22, h⟩ := gx_bd h
  refine gx_put C kcX5 3 (by decide) rfl wl_98 ⟨rfl, rfl⟩ eX22 dX5_init_53 ?_
  refine gx_aload_n C dX5_init_56 rfl rfl ?_
  obtain ⟨c23, s23, h, ec23, es23⟩ := gx_add h
  refine gx_new C kcX3 [.null, .int 0, .int 0] wl_74 wl_75 wl_5 dfX3 (show 0 + 1 + c3 + 1 + c9 + 1 + c15 + 1 + c20 + 1 ≤ tc by omega) (show 0 + 4 + s3 + 4 + s9 + 2 + s15 + 3 + s20 + 3 ≤ ts by omega) dX5_init_57 ?_
  refine gx_dup C dX5_init_60 rfl ?_
  obtain ⟨⟨⟩, X24, c25, s25, eX24, h⟩ := gx_bd4 h
  obtain ⟨c26, s26, h, ec26, es26⟩ := gx_add h
  refine gx_callIN (As := []) (st := [gx_r (some X22.2), gx_r (some this)]) (stk2 := [gx_r (some X22.2), gx_r (some this)]) C cd_X3_init wl_77 rfl wn_76 (gc_X3_init fu X22.2 (gx_nw X22 (.inr (3, [.null, .int 0, .int 0]))) X24 c25 s25 eX24) rfl ⟨Nat.le_of_ble_eq_true rfl, Nat.le_of_ble_eq_true rfl⟩ ⟨show 0 + 1 + c3 + 1 + c9 + 1 + c15 + 1 + c20 + 1 + c25 ≤ tc by omega, show 0 + 4 + s3 + 4 + s9 + 2 + s15 + 3 + s20 + 3 + s25 ≤ ts by omega⟩ (Nat.le_of_ble_eq_true rfl) rfl rfl dX5_init_61 ?_
  obtain ⟨X27, eX27, h⟩ := gx_bd h
  refine gx_put C kcX5 4 (by decide) rfl wl_99 ⟨rfl, rfl⟩ eX27 dX5_init_64 ?_
  cases h
  have z1 := h1
  have z2 := h2
  refine gx_widen (k := tc) (n := ts) (by omega) (by omega) ?_
  exact gx_vret C dX5_init_67
theorem dX5_look_0 : decode cX5_look 0 = .ok (.iload_n 1, 1) := by decide +kernel
theorem dX5_look_1 : decode cX5_look 1 = .ok (.tableswitch 115 0 6 #[43, 51, 59, 67, 80, 88, 107], 43) := by decide +kernel
theorem dX5_look_44 : decode cX5_look 44 = .ok (.aload_n 0, 1) := by decide +kernel
theorem dX5_look_45 : decode cX5_look 45 = .ok (.getfield 10, 3) := by decide +kernel
theorem dX5_look_48 : decode cX5_look 48 = .ok (.getfield 185, 3) := by decide +kernel
theorem dX5_look_51 : decode cX5_look 51 = .ok (.ireturn, 1) := by decide +kernel
theorem dX5_look_52 : decode cX5_look 52 = .ok (.aload_n 0, 1) := by decide +kernel
theorem dX5_look_53 : decode cX5_look 53 = .ok (.getfield 10, 3) := by decide +kernel
theorem dX5_look_56 : decode cX5_look 56 = .ok (.getfield 188, 3) := by decide +kernel
theorem dX5_look_59 : decode cX5_look 59 = .ok (.ireturn, 1) := by decide +kernel
theorem dX5_look_60 : decode cX5_look 60 = .ok (.aload_n 0, 1) := by decide +kernel
theorem dX5_look_61 : decode cX5_look 61 = .ok (.getfield 35, 3) := by decide +kernel
theorem dX5_look_64 : decode cX5_look 64 = .ok (.getfield 191, 3) := by decide +kernel
theorem dX5_look_67 : decode cX5_look 67 = .ok (.ireturn, 1) := by decide +kernel
theorem dX5_look_68 : decode cX5_look 68 = .ok (.aload_n 0, 1) := by decide +kernel
theorem dX5_look_69 : decode cX5_look 69 = .ok (.getfield 49, 3) := by decide +kernel
theorem dX5_look_72 : decode cX5_look 72 = .ok (.ifCond .eq 7, 3) := by decide +kernel
theorem dX5_look_75 : decode cX5_look 75 = .ok (.iconst 1, 1) := by decide +kernel
theorem dX5_look_76 : decode cX5_look 76 = .ok (.goto 4, 3) := by decide +kernel
theorem dX5_look_79 : decode cX5_look 79 = .ok (.iconst 0, 1) := by decide +kernel
theorem dX5_look_80 : decode cX5_look 80 = .ok (.ireturn, 1) := by decide +kernel
theorem dX5_look_81 : decode cX5_look 81 = .ok (.aload_n 0, 1) := by decide +kernel
theorem dX5_look_82 : decode cX5_look 82 = .ok (.getfield 35, 3) := by decide +kernel
theorem dX5_look_85 : decode cX5_look 85 = .ok (.invokevirtual 194, 3) := by decide +kernel
theorem dX5_look_88 : decode cX5_look 88 = .ok (.ireturn, 1) := by decide +kernel
theorem dX5_look_89 : decode cX5_look 89 = .ok (.aload_n 0, 1) := by decide +kernel
theorem dX5_look_90 : decode cX5_look 90 = .ok (.getfield 49, 3) := by decide +kernel
theorem dX5_look_93 : decode cX5_look 93 = .ok (.ifCond .eq 13, 3) := by decide +kernel
theorem dX5_look_96 : decode cX5_look 96 = .ok (.aload_n 0, 1) := by decide +kernel
theorem dX5_look_97 : decode cX5_look 97 = .ok (.getfield 39, 3) := by decide +kernel
theorem dX5_look_100 : decode cX5_look 100 = .ok (.invokevirtual 194, 3) := by decide +kernel
theorem dX5_look_103 : decode cX5_look 103 = .ok (.goto 4, 3) := by decide +kernel
theorem dX5_look_106 : decode cX5_look 106 = .ok (.iconst (-1), 1) := by decide +kernel
theorem dX5_look_107 : decode cX5_look 107 = .ok (.ireturn, 1) := by decide +kernel
theorem dX5_look_108 : decode cX5_look 108 = .ok (.aload_n 0, 1) := by decide +kernel
theorem dX5_look_109 : decode cX5_look 109 = .ok (.getfield 10, 3) := by decide +kernel
theorem dX5_look_112 : decode cX5_look 112 = .ok (.invokevirtual 197, 3) := by decide +kernel
theorem dX5_look_115 : decode cX5_look 115 = .ok (.ireturn, 1) := by decide +kernel
theorem dX5_look_116 : decode cX5_look 116 = .ok (.iconst (-1), 1) := by decide +kernel
theorem dX5_look_117 : decode cX5_look 117 = .ok (.ireturn, 1) := by decide +kernel
def gm_X5_look (fu : Nat) (this : Nat) (p_0 : Int32) (X : gx_H) : Option (Int32 × gx_H) :=
  if p_0 = (0 : Int32) then (
  (gx_gd X this 5 0).bind fun a2 =>
  (gx_gi X a2 4 2).bind fun v3 =>
  some (v3, X)) else (
  if p_0 = (1 : Int32) then (
  (gx_gd X this 5 0).bind fun a4 =>
  (gx_gi X a4 4 3).bind fun v5 =>
  some (v5, X)) else (
  if p_0 = (2 : Int32) then (
  (gx_gd X this 5 3).bind fun a6 =>
  (gx_gi X a6 3 1).bind fun v7 =>
  some (v7, X)) else (
  if p_0 = (3 : Int32) then (
  (gx_gi X this 5 5).bind fun v8 =>
  if v8 = 0 then (
  some ((0 : Int32), X)) else (
  some ((1 : Int32), X))) else (
  if p_0 = (4 : Int32) then (
  (gx_gd X this 5 3).bind fun a10 =>
  gx_ob X a10 3 <|
  gx_b2 (gm_X3_countInstructions fu a10 X) fun v13 X12 =>
  some (v13, X12)) else (
  if p_0 = (5 : Int32) then (
  (gx_gi X this 5 5).bind fun v14 =>
  if v14 = 0 then (
  some ((-1 : Int32), X)) else (
  (gx_gd X this 5 4).bind fun a16 =>
  gx_ob X a16 3 <|
  gx_b2 (gm_X3_countInstructions fu a16 X) fun v19 X18 =>
  some (v19, X18))) else (
  if p_0 = (6 : Int32) then (
  (gx_gd X this 5 0).bind fun a20 =>
  gx_ob X a20 4 <|
  gx_b2 (gm_X4_countAlways fu a20 X) fun v23 X22 =>
  some (v23, X22)) else (
  some ((-1 : Int32), X))))))))
set_option maxHeartbeats 1000000 in
set_option maxRecDepth 20000 in
theorem gc_X5_look {l : Launch} {D : gx_D} (fu : Nat) (this : Nat) (p_0 : Int32) (X : gx_H) (r : Int32) (X2 : gx_H) (h : gm_X5_look fu this p_0 X = some (r, X2)) : gx_M D gz_cl gz_at gz_tb gz_nb l yX5_look cX5_look 2 (some .int) 2 44 [gx_r (some this), gx_i p_0] X (some (gx_i r)) X2 0 0 := by
  unfold gm_X5_look at h
  refine gx_enter [some (gx_r (some this)), some (gx_i p_0)] rfl (by decide) (Nat.le_of_ble_eq_true rfl) ?_
  intro p e s m below meth c C _
  refine gx_iload_n C dX5_look_0 rfl rfl ?_
  by_cases q1_0 : p_0 = (0 : Int32)
  · rw [if_pos q1_0] at h
    refine gx_swIn (tgt := 44) (off := 43) C dX5_look_1 (by rw [q1_0]; decide) (by rw [q1_0]; decide) (by rw [q1_0]; decide) (by decide) ?_
    refine gx_aload_n C dX5_look_44 rfl rfl ?_
    obtain ⟨a2, ea2, h⟩ := gx_bd h
    refine gx_get C kcX5 0 (by decide) wl_95 (gx_gd_s ea2) dX5_look_45 ?_
    obtain ⟨v3, ev3, h⟩ := gx_bd h
    refine gx_get C kcX4 2 (by decide) wl_27 (gx_gi_s ev3) dX5_look_48 ?_
    cases h
    exact gx_iret C dX5_look_51
  rw [if_neg q1_0] at h
  by_cases q1_1 : p_0 = (1 : Int32)
  · rw [if_pos q1_1] at h
    refine gx_swIn (tgt := 52) (off := 51) C dX5_look_1 (by rw [q1_1]; decide) (by rw [q1_1]; decide) (by rw [q1_1]; decide) (by decide) ?_
    refine gx_aload_n C dX5_look_52 rfl rfl ?_
    obtain ⟨a4, ea4, h⟩ := gx_bd h
    refine gx_get C kcX5 0 (by decide) wl_95 (gx_gd_s ea4) dX5_look_53 ?_
    obtain ⟨v5, ev5, h⟩ := gx_bd h
    refine gx_get C kcX4 3 (by decide) wl_29 (gx_gi_s ev5) dX5_look_56 ?_
    cases h
    exact gx_iret C dX5_look_59
  rw [if_neg q1_1] at h
  by_cases q1_2 : p_0 = (2 : Int32)
  · rw [if_pos q1_2] at h
    refine gx_swIn (tgt := 60) (off := 59) C dX5_look_1 (by rw [q1_2]; decide) (by rw [q1_2]; decide) (by rw [q1_2]; decide) (by decide) ?_
    refine gx_aload_n C dX5_look_60 rfl rfl ?_
    obtain ⟨a6, ea6, h⟩ := gx_bd h
    refine gx_get C kcX5 3 (by decide) wl_98 (gx_gd_s ea6) dX5_look_61 ?_
    obtain ⟨v7, ev7, h⟩ := gx_bd h
    refine gx_get C kcX3 1 (by decide) wl_84 (gx_gi_s ev7) dX5_look_64 ?_
    cases h
    exact gx_iret C dX5_look_67
  rw [if_neg q1_2] at h
  by_cases q1_3 : p_0 = (3 : Int32)
  · rw [if_pos q1_3] at h
    refine gx_swIn (tgt := 68) (off := 67) C dX5_look_1 (by rw [q1_3]; decide) (by rw [q1_3]; decide) (by rw [q1_3]; decide) (by decide) ?_
    refine gx_aload_n C dX5_look_68 rfl rfl ?_
    obtain ⟨v8, ev8, h⟩ := gx_bd h
    refine gx_get C kcX5 5 (by decide) wl_100 (gx_gi_s ev8) dX5_look_69 ?_
    refine gx_if_eq (tgt := 79) C dX5_look_72 (by decide) (fun q9 => ?_) (fun q9 => ?_)
    · rw [if_pos q9] at h
      refine gx_iconst (v := 0) C dX5_look_79 (by decide) ?_
      cases h
      exact gx_iret C dX5_look_80
    · rw [if_neg q9] at h
      refine gx_iconst (v := 1) C dX5_look_75 (by decide) ?_
      refine gx_goto (tgt := 80) C dX5_look_76 (by decide) ?_
      cases h
      exact gx_iret C dX5_look_80
  rw [if_neg q1_3] at h
  by_cases q1_4 : p_0 = (4 : Int32)
  · rw [if_pos q1_4] at h
    refine gx_swIn (tgt := 81) (off := 80) C dX5_look_1 (by rw [q1_4]; decide) (by rw [q1_4]; decide) (by rw [q1_4]; decide) (by decide) ?_
    refine gx_aload_n C dX5_look_81 rfl rfl ?_
    obtain ⟨a10, ea10, h⟩ := gx_bd h
    refine gx_get C kcX5 3 (by decide) wl_98 (gx_gd_s ea10) dX5_look_82 ?_
    obtain ⟨ho11, h⟩ := gx_obs h
    obtain ⟨v13, X12, eX12, h⟩ := gx_bd2 h
    refine gx_callV (As := []) (st := []) (stk2 := [gx_i v13]) C cd_X3_countInstructions wl_482 ws_X3_countInstructions wl_481 rfl ho11 (gc_X3_countInstructions fu a10 X v13 X12 eX12) rfl ⟨Nat.le_of_ble_eq_true rfl, Nat.le_of_ble_eq_true rfl⟩ ⟨Nat.le_of_ble_eq_true rfl, Nat.le_of_ble_eq_true rfl⟩ (Nat.le_of_ble_eq_true rfl) rfl rfl dX5_look_85 ?_
    cases h
    exact gx_iret C dX5_look_88
  rw [if_neg q1_4] at h
  by_cases q1_5 : p_0 = (5 : Int32)
  · rw [if_pos q1_5] at h
    refine gx_swIn (tgt := 89) (off := 88) C dX5_look_1 (by rw [q1_5]; decide) (by rw [q1_5]; decide) (by rw [q1_5]; decide) (by decide) ?_
    refine gx_aload_n C dX5_look_89 rfl rfl ?_
    obtain ⟨v14, ev14, h⟩ := gx_bd h
    refine gx_get C kcX5 5 (by decide) wl_100 (gx_gi_s ev14) dX5_look_90 ?_
    refine gx_if_eq (tgt := 106) C dX5_look_93 (by decide) (fun q15 => ?_) (fun q15 => ?_)
    · rw [if_pos q15] at h
      refine gx_iconst (v := -1) C dX5_look_106 (by decide) ?_
      cases h
      exact gx_iret C dX5_look_107
    · rw [if_neg q15] at h
      refine gx_aload_n C dX5_look_96 rfl rfl ?_
      obtain ⟨a16, ea16, h⟩ := gx_bd h
      refine gx_get C kcX5 4 (by decide) wl_99 (gx_gd_s ea16) dX5_look_97 ?_
      obtain ⟨ho17, h⟩ := gx_obs h
      obtain ⟨v19, X18, eX18, h⟩ := gx_bd2 h
      refine gx_callV (As := []) (st := []) (stk2 := [gx_i v19]) C cd_X3_countInstructions wl_482 ws_X3_countInstructions wl_481 rfl ho17 (gc_X3_countInstructions fu a16 X v19 X18 eX18) rfl ⟨Nat.le_of_ble_eq_true rfl, Nat.le_of_ble_eq_true rfl⟩ ⟨Nat.le_of_ble_eq_true rfl, Nat.le_of_ble_eq_true rfl⟩ (Nat.le_of_ble_eq_true rfl) rfl rfl dX5_look_100 ?_
      refine gx_goto (tgt := 107) C dX5_look_103 (by decide) ?_
      cases h
      exact gx_iret C dX5_look_107
  rw [if_neg q1_5] at h
  by_cases q1_6 : p_0 = (6 : Int32)
  · rw [if_pos q1_6] at h
    refine gx_swIn (tgt := 108) (off := 107) C dX5_look_1 (by rw [q1_6]; decide) (by rw [q1_6]; decide) (by rw [q1_6]; decide) (by decide) ?_
    refine gx_aload_n C dX5_look_108 rfl rfl ?_
    obtain ⟨a20, ea20, h⟩ := gx_bd h
    refine gx_get C kcX5 0 (by decide) wl_95 (gx_gd_s ea20) dX5_look_109 ?_
    obtain ⟨ho21, h⟩ := gx_obs h
    obtain ⟨v23, X22, eX22, h⟩ := gx_bd2 h
    refine gx_callV (As := []) (st := []) (stk2 := [gx_i v23]) C cd_X4_countAlways wl_487 ws_X4_countAlways wl_486 rfl ho21 (gc_X4_countAlways fu a20 X v23 X22 eX22) rfl ⟨Nat.le_of_ble_eq_true rfl, Nat.le_of_ble_eq_true rfl⟩ ⟨Nat.le_of_ble_eq_true rfl, Nat.le_of_ble_eq_true rfl⟩ (Nat.le_of_ble_eq_true rfl) rfl rfl dX5_look_112 ?_
    cases h
    exact gx_iret C dX5_look_115
  rw [if_neg q1_6] at h
  refine gx_swOut (tgt := 116) C dX5_look_1 (by have n0 := lv_neT q1_0 (a := 0) (by decide); have n1 := lv_neT q1_1 (a := 1) (by decide); have n2 := lv_neT q1_2 (a := 2) (by decide); have n3 := lv_neT q1_3 (a := 3) (by decide); have n4 := lv_neT q1_4 (a := 4) (by decide); have n5 := lv_neT q1_5 (a := 5) (by decide); have n6 := lv_neT q1_6 (a := 6) (by decide); omega) (by decide) ?_
  refine gx_iconst (v := -1) C dX5_look_116 (by decide) ?_
  cases h
  exact gx_iret C dX5_look_117
theorem dX5_settledBody_0 : decode cX5_settledBody 0 = .ok (.aload_n 0, 1) := by decide +kernel
theorem dX5_settledBody_1 : decode cX5_settledBody 1 = .ok (.iload_n 1, 1) := by decide +kernel
theorem dX5_settledBody_2 : decode cX5_settledBody 2 = .ok (.invokevirtual 116, 3) := by decide +kernel
theorem dX5_settledBody_5 : decode cX5_settledBody 5 = .ok (.astore_n 3, 1) := by decide +kernel
theorem dX5_settledBody_6 : decode cX5_settledBody 6 = .ok (.aload_n 3, 1) := by decide +kernel
theorem dX5_settledBody_7 : decode cX5_settledBody 7 = .ok (.ifnonnull 7, 3) := by decide +kernel
theorem dX5_settledBody_10 : decode cX5_settledBody 10 = .ok (.aconst_null, 1) := by decide +kernel
theorem dX5_settledBody_11 : decode cX5_settledBody 11 = .ok (.goto 8, 3) := by decide +kernel
theorem dX5_settledBody_14 : decode cX5_settledBody 14 = .ok (.aload_n 3, 1) := by decide +kernel
theorem dX5_settledBody_15 : decode cX5_settledBody 15 = .ok (.iload_n 2, 1) := by decide +kernel
theorem dX5_settledBody_16 : decode cX5_settledBody 16 = .ok (.invokevirtual 85, 3) := by decide +kernel
theorem dX5_settledBody_19 : decode cX5_settledBody 19 = .ok (.astore 4, 2) := by decide +kernel
theorem dX5_settledBody_21 : decode cX5_settledBody 21 = .ok (.aload 4, 2) := by decide +kernel
theorem dX5_settledBody_23 : decode cX5_settledBody 23 = .ok (.ifnull 11, 3) := by decide +kernel
theorem dX5_settledBody_26 : decode cX5_settledBody 26 = .ok (.aload_n 0, 1) := by decide +kernel
theorem dX5_settledBody_27 : decode cX5_settledBody 27 = .ok (.getfield 21, 3) := by decide +kernel
theorem dX5_settledBody_30 : decode cX5_settledBody 30 = .ok (.aload_n 3, 1) := by decide +kernel
theorem dX5_settledBody_31 : decode cX5_settledBody 31 = .ok (.invokevirtual 104, 3) := by decide +kernel
theorem dX5_settledBody_34 : decode cX5_settledBody 34 = .ok (.aload 4, 2) := by decide +kernel
theorem dX5_settledBody_36 : decode cX5_settledBody 36 = .ok (.areturn, 1) := by decide +kernel
def gm_X5_settledBody_19 (fu : Nat) (a0 : Nat) (o3 : Option Nat) (so0 : Option Nat) (X : gx_H) : Option (Option Nat × gx_H) :=
  gx_nl so0 (
  some (none, X)) fun a2 =>
  (gx_gd X a0 5 1).bind fun a3 =>
  (o3).bind fun a4 =>
  gx_ob X a3 1 <|
  (gm_X1_settle fu a3 a4 X).bind fun X6 =>
  some ((some a2), X6)
set_option maxHeartbeats 1000000 in
set_option maxRecDepth 20000 in
theorem gt_X5_settledBody_19 {p : Program} {l : Launch} {e : Env} {s : State} {m : MethodId} {args : Array Value} {below : List Frame} {meth : Method} {c : Code} {D : gx_D} {r : Option Nat} {X2 : gx_H}  (C : gx_C D gz_cl gz_at gz_tb gz_nb p s m meth c cX5_settledBody 5 RX5 (some (.object "GuardFlow$Body"))) (fu : Nat) (a0 : Nat) (o3 : Option Nat) (so0 : Option Nat) (X : gx_H) (h : gm_X5_settledBody_19 fu  a0 o3 so0 X = some (r, X2)) : gx_W D gz_cl 5 p l e (gx_rm 5 126 0 0) s m args below meth c 0 0 (MQ below (gx_Q D gz_cl (some (gx_r r)) X2) args s 0 0 (gx_Z D)) X 19 [some (gx_r (some a0)), none, none, some (gx_r o3), none] [gx_r so0] := by
  unfold gm_X5_settledBody_19 at h
  refine gx_astore (lv2 := [some (gx_r (some a0)), none, none, some (gx_r o3), some (gx_r so0)]) C dX5_settledBody_19 (by decide) rfl ?_
  refine gx_aload C dX5_settledBody_21 rfl ?_
  refine gx_ifnull (tgt := 34) C dX5_settledBody_23 (by decide) (fun q1 => ?_) (fun a2 q1 => ?_)
  · subst q1
    have h := gx_nl_n h
    refine gx_aload C dX5_settledBody_34 rfl ?_
    cases h
    exact gx_aret C dX5_settledBody_36
  · subst q1
    have h := gx_nl_s h
    refine gx_aload_n C dX5_settledBody_26 rfl rfl ?_
    obtain ⟨a3, ea3, h⟩ := gx_bd h
    refine gx_get C kcX5 1 (by decide) wl_96 (gx_gd_s ea3) dX5_settledBody_27 ?_
    refine gx_aload_n C dX5_settledBody_30 rfl rfl ?_
    obtain ⟨a4, ea4, h⟩ := gx_bd h
    subst ea4
    obtain ⟨ho5, h⟩ := gx_obs h
    obtain ⟨X6, eX6, h⟩ := gx_bd h
    refine gx_callV (As := [gx_r (some a4)]) (st := []) (stk2 := []) C cd_X1_settle wl_305 ws_X1_settle wl_304 rfl ho5 (gc_X1_settle fu a3 a4 X X6 eX6) rfl ⟨Nat.le_of_ble_eq_true rfl, Nat.le_of_ble_eq_true rfl⟩ ⟨Nat.le_of_ble_eq_true rfl, Nat.le_of_ble_eq_true rfl⟩ (Nat.le_of_ble_eq_true rfl) rfl rfl dX5_settledBody_31 ?_
    refine gx_aload C dX5_settledBody_34 rfl ?_
    cases h
    exact gx_aret C dX5_settledBody_36
def gm_X5_settledBody (fu : Nat) (this : Nat) (p_0 : Int32) (p_1 : Int32) (X : gx_H) : Option (Option Nat × gx_H) :=
  gx_ob X this 5 <|
  gx_b2 (gm_X5_programOf fu this p_0 X) fun o9 X8 =>
  gx_nl o9 (
  gm_X5_settledBody_19 fu  this none none X8) fun a11 =>
  gx_ob X8 a11 3 <|
  gx_b2 (gm_X3_body fu a11 p_1 X8) fun o14 X13 =>
  gm_X5_settledBody_19 fu  this (some a11) o14 X13
set_option maxHeartbeats 1000000 in
set_option maxRecDepth 20000 in
theorem gc_X5_settledBody {l : Launch} {D : gx_D} (fu : Nat) (this : Nat) (p_0 : Int32) (p_1 : Int32) (X : gx_H) (r : Option Nat) (X2 : gx_H) (h : gm_X5_settledBody fu this p_0 p_1 X = some (r, X2)) : gx_M D gz_cl gz_at gz_tb gz_nb l yX5_settledBody cX5_settledBody 5 (some (.object "GuardFlow$Body")) 5 126 [gx_r (some this), gx_i p_0, gx_i p_1] X (some (gx_r r)) X2 0 0 := by
  unfold gm_X5_settledBody at h
  refine gx_enter [some (gx_r (some this)), some (gx_i p_0), some (gx_i p_1), none, none] rfl (by decide) (Nat.le_of_ble_eq_true rfl) ?_
  intro p e s m below meth c C _
  refine gx_aload_n C dX5_settledBody_0 rfl rfl ?_
  refine gx_iload_n C dX5_settledBody_1 rfl rfl ?_
  obtain ⟨ho7, h⟩ := gx_obs h
  obtain ⟨o9, X8, eX8, h⟩ := gx_bd2 h
  refine gx_callV (As := [gx_i p_0]) (st := []) (stk2 := [gx_r o9]) C cd_X5_programOf wl_426 ws_X5_programOf wl_424 rfl ho7 (gc_X5_programOf fu this p_0 X o9 X8 eX8) rfl ⟨Nat.le_of_ble_eq_true rfl, Nat.le_of_ble_eq_true rfl⟩ ⟨Nat.le_of_ble_eq_true rfl, Nat.le_of_ble_eq_true rfl⟩ (Nat.le_of_ble_eq_true rfl) rfl rfl dX5_settledBody_2 ?_
  refine gx_astore_n (lv2 := [some (gx_r (some this)), some (gx_i p_0), some (gx_i p_1), some (gx_r o9), none]) C dX5_settledBody_5 rfl (by decide) rfl ?_
  refine gx_aload_n C dX5_settledBody_6 rfl rfl ?_
  refine gx_ifnonnull (tgt := 14) C dX5_settledBody_7 (by decide) (fun a11 q10 => ?_) (fun q10 => ?_)
  · subst q10
    have h := gx_nl_s h
    refine gx_aload_n C dX5_settledBody_14 rfl rfl ?_
    refine gx_iload_n C dX5_settledBody_15 rfl rfl ?_
    obtain ⟨ho12, h⟩ := gx_obs h
    obtain ⟨o14, X13, eX13, h⟩ := gx_bd2 h
    refine gx_callV (As := [gx_i p_1]) (st := []) (stk2 := [gx_r o14]) C cd_X3_body wl_275 ws_X3_body wl_274 rfl ho12 (gc_X3_body fu a11 p_1 X8 o14 X13 eX13) rfl ⟨Nat.le_of_ble_eq_true rfl, Nat.le_of_ble_eq_true rfl⟩ ⟨Nat.le_of_ble_eq_true rfl, Nat.le_of_ble_eq_true rfl⟩ (Nat.le_of_ble_eq_true rfl) rfl rfl dX5_settledBody_16 ?_
    refine gx_sub (lv2 := [some (gx_r (some this)), none, none, some (gx_r (some a11)), none]) [true, false, false, true, false] rfl ?_
    exact gt_X5_settledBody_19 C fu  this (some a11) o14 X13 h
  · subst q10
    have h := gx_nl_n h
    refine gx_null C dX5_settledBody_10 ?_
    refine gx_goto (tgt := 19) C dX5_settledBody_11 (by decide) ?_
    refine gx_sub (lv2 := [some (gx_r (some this)), none, none, some (gx_r none), none]) [true, false, false, true, false] rfl ?_
    exact gt_X5_settledBody_19 C fu  this none none X8 h
theorem dX5_may_0 : decode cX5_may 0 = .ok (.aload_n 0, 1) := by decide +kernel
theorem dX5_may_1 : decode cX5_may 1 = .ok (.iload_n 1, 1) := by decide +kernel
theorem dX5_may_2 : decode cX5_may 2 = .ok (.iload_n 2, 1) := by decide +kernel
theorem dX5_may_3 : decode cX5_may 3 = .ok (.invokevirtual 124, 3) := by decide +kernel
theorem dX5_may_6 : decode cX5_may 6 = .ok (.astore 4, 2) := by decide +kernel
theorem dX5_may_8 : decode cX5_may 8 = .ok (.aload 4, 2) := by decide +kernel
theorem dX5_may_10 : decode cX5_may 10 = .ok (.ifnull 12, 3) := by decide +kernel
theorem dX5_may_13 : decode cX5_may 13 = .ok (.aload 4, 2) := by decide +kernel
theorem dX5_may_15 : decode cX5_may 15 = .ok (.iload_n 3, 1) := by decide +kernel
theorem dX5_may_16 : decode cX5_may 16 = .ok (.invokevirtual 88, 3) := by decide +kernel
theorem dX5_may_19 : decode cX5_may 19 = .ok (.ifCond .ne 7, 3) := by decide +kernel
theorem dX5_may_22 : decode cX5_may 22 = .ok (.lconst 0, 1) := by decide +kernel
theorem dX5_may_23 : decode cX5_may 23 = .ok (.goto 10, 3) := by decide +kernel
theorem dX5_may_26 : decode cX5_may 26 = .ok (.aload 4, 2) := by decide +kernel
theorem dX5_may_28 : decode cX5_may 28 = .ok (.getfield 142, 3) := by decide +kernel
theorem dX5_may_31 : decode cX5_may 31 = .ok (.iload_n 3, 1) := by decide +kernel
theorem dX5_may_32 : decode cX5_may 32 = .ok (.laload, 1) := by decide +kernel
theorem dX5_may_33 : decode cX5_may 33 = .ok (.lreturn, 1) := by decide +kernel
def gm_X5_may_22 (fu : Nat)  (X : gx_H) : Option (Int64 × gx_H) :=
  some ((0 : Int64), X)
set_option maxHeartbeats 1000000 in
set_option maxRecDepth 20000 in
theorem gt_X5_may_22 {p : Program} {l : Launch} {e : Env} {s : State} {m : MethodId} {args : Array Value} {below : List Frame} {meth : Method} {c : Code} {D : gx_D} {r : Int64} {X2 : gx_H}  (C : gx_C D gz_cl gz_at gz_tb gz_nb p s m meth c cX5_may 5 RX5 (some .long)) (fu : Nat)  (X : gx_H) (h : gm_X5_may_22 fu   X = some (r, X2)) : gx_W D gz_cl 5 p l e (gx_rm 6 150 0 0) s m args below meth c 0 0 (MQ below (gx_Q D gz_cl (some (gx_l r)) X2) args s 0 0 (gx_Z D)) X 22 [none, none, none, none, none] [] := by
  unfold gm_X5_may_22 at h
  refine gx_lconst (v := 0) C dX5_may_22 (by decide) ?_
  refine gx_goto (tgt := 33) C dX5_may_23 (by decide) ?_
  cases h
  exact gx_lret C dX5_may_33
def gm_X5_may (fu : Nat) (this : Nat) (p_0 : Int32) (p_1 : Int32) (p_2 : Int32) (X : gx_H) : Option (Int64 × gx_H) :=
  gx_ob X this 5 <|
  gx_b2 (gm_X5_settledBody fu this p_0 p_1 X) fun o3 X2 =>
  gx_nl o3 (
  gm_X5_may_22 fu   X2) fun a5 =>
  gx_ob X2 a5 0 <|
  gx_b2 (gm_X0_hasInstruction fu a5 p_2 X2) fun v8 X7 =>
  if v8 = 0 then (
  gm_X5_may_22 fu   X7) else (
  (gx_gd X7 a5 0 8).bind fun a10 =>
  (gx_gal X7 a10 1 p_2).bind fun v11 =>
  some (v11, X7))
set_option maxHeartbeats 1000000 in
set_option maxRecDepth 20000 in
theorem gc_X5_may {l : Launch} {D : gx_D} (fu : Nat) (this : Nat) (p_0 : Int32) (p_1 : Int32) (p_2 : Int32) (X : gx_H) (r : Int64) (X2 : gx_H) (h : gm_X5_may fu this p_0 p_1 p_2 X = some (r, X2)) : gx_M D gz_cl gz_at gz_tb gz_nb l yX5_may cX5_may 5 (some .long) 6 150 [gx_r (some this), gx_i p_0, gx_i p_1, gx_i p_2] X (some (gx_l r)) X2 0 0 := by
  unfold gm_X5_may at h
  refine gx_enter [some (gx_r (some this)), some (gx_i p_0), some (gx_i p_1), some (gx_i p_2), none] rfl (by decide) (Nat.le_of_ble_eq_true rfl) ?_
  intro p e s m below meth c C _
  refine gx_aload_n C dX5_may_0 rfl rfl ?_
  refine gx_iload_n C dX5_may_1 rfl rfl ?_
  refine gx_iload_n C dX5_may_2 rfl rfl ?_
  obtain ⟨ho1, h⟩ := gx_obs h
  obtain ⟨o3, X2, eX2, h⟩ := gx_bd2 h
  refine gx_callV (As := [gx_i p_0, gx_i p_1]) (st := []) (stk2 := [gx_r o3]) C cd_X5_settledBody wl_440 ws_X5_settledBody wl_438 rfl ho1 (gc_X5_settledBody fu this p_0 p_1 X o3 X2 eX2) rfl ⟨Nat.le_of_ble_eq_true rfl, Nat.le_of_ble_eq_true rfl⟩ ⟨Nat.le_of_ble_eq_true rfl, Nat.le_of_ble_eq_true rfl⟩ (Nat.le_of_ble_eq_true rfl) rfl rfl dX5_may_3 ?_
  refine gx_astore (lv2 := [some (gx_r (some this)), some (gx_i p_0), some (gx_i p_1), some (gx_i p_2), some (gx_r o3)]) C dX5_may_6 (by decide) rfl ?_
  refine gx_aload C dX5_may_8 rfl ?_
  refine gx_ifnull (tgt := 22) C dX5_may_10 (by decide) (fun q4 => ?_) (fun a5 q4 => ?_)
  · subst q4
    have h := gx_nl_n h
    refine gx_sub (lv2 := [none, none, none, none, none]) [false, false, false, false, false] rfl ?_
    exact gt_X5_may_22 C fu   X2 h
  · subst q4
    have h := gx_nl_s h
    refine gx_aload C dX5_may_13 rfl ?_
    refine gx_iload_n C dX5_may_15 rfl rfl ?_
    obtain ⟨ho6, h⟩ := gx_obs h
    obtain ⟨v8, X7, eX7, h⟩ := gx_bd2 h
    refine gx_callV (As := [gx_i p_2]) (st := []) (stk2 := [gx_i v8]) C cd_X0_hasInstruction wl_279 ws_X0_hasInstruction wl_278 rfl ho6 (gc_X0_hasInstruction fu a5 p_2 X2 v8 X7 eX7) rfl ⟨Nat.le_of_ble_eq_true rfl, Nat.le_of_ble_eq_true rfl⟩ ⟨Nat.le_of_ble_eq_true rfl, Nat.le_of_ble_eq_true rfl⟩ (Nat.le_of_ble_eq_true rfl) rfl rfl dX5_may_16 ?_
    refine gx_if_ne (tgt := 26) C dX5_may_19 (by decide) (fun q9 => ?_) (fun q9 => ?_)
    · rw [if_neg q9] at h
      refine gx_aload C dX5_may_26 rfl ?_
      obtain ⟨a10, ea10, h⟩ := gx_bd h
      refine gx_get C kcX0 8 (by decide) wl_215 (gx_gd_s ea10) dX5_may_28 ?_
      refine gx_iload_n C dX5_may_31 rfl rfl ?_
      obtain ⟨v11, ev11, h⟩ := gx_bd h
      refine gx_lald C (t := 1) rfl ev11 dX5_may_32 ?_
      cases h
      exact gx_lret C dX5_may_33
    · rw [if_pos q9] at h
      refine gx_sub (lv2 := [none, none, none, none, none]) [false, false, false, false, false] rfl ?_
      exact gt_X5_may_22 C fu   X7 h
theorem dX5_of_0 : decode cX5_of 0 = .ok (.aload_n 0, 1) := by decide +kernel
theorem dX5_of_1 : decode cX5_of 1 = .ok (.iload_n 1, 1) := by decide +kernel
theorem dX5_of_2 : decode cX5_of 2 = .ok (.iload_n 2, 1) := by decide +kernel
theorem dX5_of_3 : decode cX5_of 3 = .ok (.invokevirtual 124, 3) := by decide +kernel
theorem dX5_of_6 : decode cX5_of 6 = .ok (.astore 5, 2) := by decide +kernel
theorem dX5_of_8 : decode cX5_of 8 = .ok (.aload 5, 2) := by decide +kernel
theorem dX5_of_10 : decode cX5_of 10 = .ok (.ifnull 12, 3) := by decide +kernel
theorem dX5_of_13 : decode cX5_of 13 = .ok (.aload 5, 2) := by decide +kernel
theorem dX5_of_15 : decode cX5_of 15 = .ok (.iload_n 3, 1) := by decide +kernel
theorem dX5_of_16 : decode cX5_of 16 = .ok (.invokevirtual 88, 3) := by decide +kernel
theorem dX5_of_19 : decode cX5_of 19 = .ok (.ifCond .ne 5, 3) := by decide +kernel
theorem dX5_of_22 : decode cX5_of 22 = .ok (.iconst (-1), 1) := by decide +kernel
theorem dX5_of_23 : decode cX5_of 23 = .ok (.ireturn, 1) := by decide +kernel
theorem dX5_of_24 : decode cX5_of 24 = .ok (.iload 4, 2) := by decide +kernel
theorem dX5_of_26 : decode cX5_of 26 = .ok (.tableswitch 95 0 4 #[34, 42, 50, 65, 84], 34) := by decide +kernel
theorem dX5_of_60 : decode cX5_of 60 = .ok (.aload 5, 2) := by decide +kernel
theorem dX5_of_62 : decode cX5_of 62 = .ok (.getfield 128, 3) := by decide +kernel
theorem dX5_of_65 : decode cX5_of 65 = .ok (.iload_n 3, 1) := by decide +kernel
theorem dX5_of_66 : decode cX5_of 66 = .ok (.iaload, 1) := by decide +kernel
theorem dX5_of_67 : decode cX5_of 67 = .ok (.ireturn, 1) := by decide +kernel
theorem dX5_of_68 : decode cX5_of 68 = .ok (.aload 5, 2) := by decide +kernel
theorem dX5_of_70 : decode cX5_of 70 = .ok (.getfield 132, 3) := by decide +kernel
theorem dX5_of_73 : decode cX5_of 73 = .ok (.iload_n 3, 1) := by decide +kernel
theorem dX5_of_74 : decode cX5_of 74 = .ok (.iaload, 1) := by decide +kernel
theorem dX5_of_75 : decode cX5_of 75 = .ok (.ireturn, 1) := by decide +kernel
theorem dX5_of_76 : decode cX5_of 76 = .ok (.aload 5, 2) := by decide +kernel
theorem dX5_of_78 : decode cX5_of 78 = .ok (.iload_n 3, 1) := by decide +kernel
theorem dX5_of_79 : decode cX5_of 79 = .ok (.invokevirtual 135, 3) := by decide +kernel
theorem dX5_of_82 : decode cX5_of 82 = .ok (.ifCond .eq 7, 3) := by decide +kernel
theorem dX5_of_85 : decode cX5_of 85 = .ok (.iconst 1, 1) := by decide +kernel
theorem dX5_of_86 : decode cX5_of 86 = .ok (.goto 4, 3) := by decide +kernel
theorem dX5_of_89 : decode cX5_of 89 = .ok (.iconst 0, 1) := by decide +kernel
theorem dX5_of_90 : decode cX5_of 90 = .ok (.ireturn, 1) := by decide +kernel
theorem dX5_of_91 : decode cX5_of 91 = .ok (.aload_n 0, 1) := by decide +kernel
theorem dX5_of_92 : decode cX5_of 92 = .ok (.getfield 10, 3) := by decide +kernel
theorem dX5_of_95 : decode cX5_of 95 = .ok (.aload 5, 2) := by decide +kernel
theorem dX5_of_97 : decode cX5_of 97 = .ok (.iload_n 3, 1) := by decide +kernel
theorem dX5_of_98 : decode cX5_of 98 = .ok (.invokevirtual 138, 3) := by decide +kernel
theorem dX5_of_101 : decode cX5_of 101 = .ok (.ifCond .eq 7, 3) := by decide +kernel
theorem dX5_of_104 : decode cX5_of 104 = .ok (.iconst 1, 1) := by decide +kernel
theorem dX5_of_105 : decode cX5_of 105 = .ok (.goto 4, 3) := by decide +kernel
theorem dX5_of_108 : decode cX5_of 108 = .ok (.iconst 0, 1) := by decide +kernel
theorem dX5_of_109 : decode cX5_of 109 = .ok (.ireturn, 1) := by decide +kernel
theorem dX5_of_110 : decode cX5_of 110 = .ok (.aload 5, 2) := by decide +kernel
theorem dX5_of_112 : decode cX5_of 112 = .ok (.getfield 142, 3) := by decide +kernel
theorem dX5_of_115 : decode cX5_of 115 = .ok (.iload_n 3, 1) := by decide +kernel
theorem dX5_of_116 : decode cX5_of 116 = .ok (.laload, 1) := by decide +kernel
theorem dX5_of_117 : decode cX5_of 117 = .ok (.invokestatic 146, 3) := by decide +kernel
theorem dX5_of_120 : decode cX5_of 120 = .ok (.ireturn, 1) := by decide +kernel
theorem dX5_of_121 : decode cX5_of 121 = .ok (.iconst (-1), 1) := by decide +kernel
theorem dX5_of_122 : decode cX5_of 122 = .ok (.ireturn, 1) := by decide +kernel
def gm_X5_of (fu : Nat) (this : Nat) (p_0 : Int32) (p_1 : Int32) (p_2 : Int32) (p_3 : Int32) (X : gx_H) : Option (Int32 × gx_H) :=
  gx_ob X this 5 <|
  gx_b2 (gm_X5_settledBody fu this p_0 p_1 X) fun o3 X2 =>
  gx_nl o3 (
  some ((-1 : Int32), X2)) fun a5 =>
  gx_ob X2 a5 0 <|
  gx_b2 (gm_X0_hasInstruction fu a5 p_2 X2) fun v8 X7 =>
  if v8 = 0 then (
  some ((-1 : Int32), X7)) else (
  if p_3 = (0 : Int32) then (
  (gx_gd X7 a5 0 1).bind fun a11 =>
  (gx_gai X7 a11 0 p_2).bind fun v12 =>
  some (v12, X7)) else (
  if p_3 = (1 : Int32) then (
  (gx_gd X7 a5 0 2).bind fun a13 =>
  (gx_gai X7 a13 0 p_2).bind fun v14 =>
  some (v14, X7)) else (
  if p_3 = (2 : Int32) then (
  gx_ob X7 a5 0 <|
  gx_b2 (gm_X0_isGuarded fu a5 p_2 X7) fun v17 X16 =>
  if v17 = 0 then (
  some ((0 : Int32), X16)) else (
  some ((1 : Int32), X16))) else (
  if p_3 = (3 : Int32) then (
  (gx_gd X7 this 5 0).bind fun a19 =>
  gx_ob X7 a19 4 <|
  gx_b2 (gm_X4_needsGuard fu a19 a5 p_2 X7) fun v22 X21 =>
  if v22 = 0 then (
  some ((0 : Int32), X21)) else (
  some ((1 : Int32), X21))) else (
  if p_3 = (4 : Int32) then (
  (gx_gd X7 a5 0 8).bind fun a24 =>
  (gx_gal X7 a24 1 p_2).bind fun v25 =>
  gx_b2 (gm_J13_bitCount_95d88 fu v25 X7) fun v27 X26 =>
  some (v27, X26)) else (
  some ((-1 : Int32), X7)))))))
set_option maxHeartbeats 1000000 in
set_option maxRecDepth 20000 in
theorem gc_X5_of {l : Launch} {D : gx_D} (fu : Nat) (this : Nat) (p_0 : Int32) (p_1 : Int32) (p_2 : Int32) (p_3 : Int32) (X : gx_H) (r : Int32) (X2 : gx_H) (h : gm_X5_of fu this p_0 p_1 p_2 p_3 X = some (r, X2)) : gx_M D gz_cl gz_at gz_tb gz_nb l yX5_of cX5_of 6 (some .int) 6 150 [gx_r (some this), gx_i p_0, gx_i p_1, gx_i p_2, gx_i p_3] X (some (gx_i r)) X2 0 0 := by
  unfold gm_X5_of at h
  refine gx_enter [some (gx_r (some this)), some (gx_i p_0), some (gx_i p_1), some (gx_i p_2), some (gx_i p_3), none] rfl (by decide) (Nat.le_of_ble_eq_true rfl) ?_
  intro p e s m below meth c C _
  refine gx_aload_n C dX5_of_0 rfl rfl ?_
  refine gx_iload_n C dX5_of_1 rfl rfl ?_
  refine gx_iload_n C dX5_of_2 rfl rfl ?_
  obtain ⟨ho1, h⟩ := gx_obs h
  obtain ⟨o3, X2, eX2, h⟩ := gx_bd2 h
  refine gx_callV (As := [gx_i p_0, gx_i p_1]) (st := []) (stk2 := [gx_r o3]) C cd_X5_settledBody wl_440 ws_X5_settledBody wl_438 rfl ho1 (gc_X5_settledBody fu this p_0 p_1 X o3 X2 eX2) rfl ⟨Nat.le_of_ble_eq_true rfl, Nat.le_of_ble_eq_true rfl⟩ ⟨Nat.le_of_ble_eq_true rfl, Nat.le_of_ble_eq_true rfl⟩ (Nat.le_of_ble_eq_true rfl) rfl rfl dX5_of_3 ?_
  refine gx_astore (lv2 := [some (gx_r (some this)), some (gx_i p_0), some (gx_i p_1), some (gx_i p_2), some (gx_i p_3), some (gx_r o3)]) C dX5_of_6 (by decide) rfl ?_
  refine gx_aload C dX5_of_8 rfl ?_
  refine gx_ifnull (tgt := 22) C dX5_of_10 (by decide) (fun q4 => ?_) (fun a5 q4 => ?_)
  · subst q4
    have h := gx_nl_n h
    refine gx_iconst (v := -1) C dX5_of_22 (by decide) ?_
    cases h
    exact gx_iret C dX5_of_23
  · subst q4
    have h := gx_nl_s h
    refine gx_aload C dX5_of_13 rfl ?_
    refine gx_iload_n C dX5_of_15 rfl rfl ?_
    obtain ⟨ho6, h⟩ := gx_obs h
    obtain ⟨v8, X7, eX7, h⟩ := gx_bd2 h
    refine gx_callV (As := [gx_i p_2]) (st := []) (stk2 := [gx_i v8]) C cd_X0_hasInstruction wl_279 ws_X0_hasInstruction wl_278 rfl ho6 (gc_X0_hasInstruction fu a5 p_2 X2 v8 X7 eX7) rfl ⟨Nat.le_of_ble_eq_true rfl, Nat.le_of_ble_eq_true rfl⟩ ⟨Nat.le_of_ble_eq_true rfl, Nat.le_of_ble_eq_true rfl⟩ (Nat.le_of_ble_eq_true rfl) rfl rfl dX5_of_16 ?_
    refine gx_if_ne (tgt := 24) C dX5_of_19 (by decide) (fun q9 => ?_) (fun q9 => ?_)
    · rw [if_neg q9] at h
      refine gx_iload C dX5_of_24 rfl ?_
      by_cases q10_0 : p_3 = (0 : Int32)
      · rw [if_pos q10_0] at h
        refine gx_swIn (tgt := 60) (off := 34) C dX5_of_26 (by rw [q10_0]; decide) (by rw [q10_0]; decide) (by rw [q10_0]; decide) (by decide) ?_
        refine gx_aload C dX5_of_60 rfl ?_
        obtain ⟨a11, ea11, h⟩ := gx_bd h
        refine gx_get C kcX0 1 (by decide) wl_185 (gx_gd_s ea11) dX5_of_62 ?_
        refine gx_iload_n C dX5_of_65 rfl rfl ?_
        obtain ⟨v12, ev12, h⟩ := gx_bd h
        refine gx_iald C (t := 0) rfl ev12 dX5_of_66 ?_
        cases h
        exact gx_iret C dX5_of_67
      rw [if_neg q10_0] at h
      by_cases q10_1 : p_3 = (1 : Int32)
      · rw [if_pos q10_1] at h
        refine gx_swIn (tgt := 68) (off := 42) C dX5_of_26 (by rw [q10_1]; decide) (by rw [q10_1]; decide) (by rw [q10_1]; decide) (by decide) ?_
        refine gx_aload C dX5_of_68 rfl ?_
        obtain ⟨a13, ea13, h⟩ := gx_bd h
        refine gx_get C kcX0 2 (by decide) wl_190 (gx_gd_s ea13) dX5_of_70 ?_
        refine gx_iload_n C dX5_of_73 rfl rfl ?_
        obtain ⟨v14, ev14, h⟩ := gx_bd h
        refine gx_iald C (t := 0) rfl ev14 dX5_of_74 ?_
        cases h
        exact gx_iret C dX5_of_75
      rw [if_neg q10_1] at h
      by_cases q10_2 : p_3 = (2 : Int32)
      · rw [if_pos q10_2] at h
        refine gx_swIn (tgt := 76) (off := 50) C dX5_of_26 (by rw [q10_2]; decide) (by rw [q10_2]; decide) (by rw [q10_2]; decide) (by decide) ?_
        refine gx_aload C dX5_of_76 rfl ?_
        refine gx_iload_n C dX5_of_78 rfl rfl ?_
        obtain ⟨ho15, h⟩ := gx_obs h
        obtain ⟨v17, X16, eX16, h⟩ := gx_bd2 h
        refine gx_callV (As := [gx_i p_2]) (st := []) (stk2 := [gx_i v17]) C cd_X0_isGuarded wl_349 ws_X0_isGuarded wl_432 rfl ho15 (gc_X0_isGuarded fu a5 p_2 X7 v17 X16 eX16) rfl ⟨Nat.le_of_ble_eq_true rfl, Nat.le_of_ble_eq_true rfl⟩ ⟨Nat.le_of_ble_eq_true rfl, Nat.le_of_ble_eq_true rfl⟩ (Nat.le_of_ble_eq_true rfl) rfl rfl dX5_of_79 ?_
        refine gx_if_eq (tgt := 89) C dX5_of_82 (by decide) (fun q18 => ?_) (fun q18 => ?_)
        · rw [if_pos q18] at h
          refine gx_iconst (v := 0) C dX5_of_89 (by decide) ?_
          cases h
          exact gx_iret C dX5_of_90
        · rw [if_neg q18] at h
          refine gx_iconst (v := 1) C dX5_of_85 (by decide) ?_
          refine gx_goto (tgt := 90) C dX5_of_86 (by decide) ?_
          cases h
          exact gx_iret C dX5_of_90
      rw [if_neg q10_2] at h
      by_cases q10_3 : p_3 = (3 : Int32)
      · rw [if_pos q10_3] at h
        refine gx_swIn (tgt := 91) (off := 65) C dX5_of_26 (by rw [q10_3]; decide) (by rw [q10_3]; decide) (by rw [q10_3]; decide) (by decide) ?_
        refine gx_aload_n C dX5_of_91 rfl rfl ?_
        obtain ⟨a19, ea19, h⟩ := gx_bd h
        refine gx_get C kcX5 0 (by decide) wl_95 (gx_gd_s ea19) dX5_of_92 ?_
        refine gx_aload C dX5_of_95 rfl ?_
        refine gx_iload_n C dX5_of_97 rfl rfl ?_
        obtain ⟨ho20, h⟩ := gx_obs h
        obtain ⟨v22, X21, eX21, h⟩ := gx_bd2 h
        refine gx_callV (As := [gx_r (some a5), gx_i p_2]) (st := []) (stk2 := [gx_i v22]) C cd_X4_needsGuard wl_387 ws_X4_needsGuard wl_442 rfl ho20 (gc_X4_needsGuard fu a19 a5 p_2 X7 v22 X21 eX21) rfl ⟨Nat.le_of_ble_eq_true rfl, Nat.le_of_ble_eq_true rfl⟩ ⟨Nat.le_of_ble_eq_true rfl, Nat.le_of_ble_eq_true rfl⟩ (Nat.le_of_ble_eq_true rfl) rfl rfl dX5_of_98 ?_
        refine gx_if_eq (tgt := 108) C dX5_of_101 (by decide) (fun q23 => ?_) (fun q23 => ?_)
        · rw [if_pos q23] at h
          refine gx_iconst (v := 0) C dX5_of_108 (by decide) ?_
          cases h
          exact gx_iret C dX5_of_109
        · rw [if_neg q23] at h
          refine gx_iconst (v := 1) C dX5_of_104 (by decide) ?_
          refine gx_goto (tgt := 109) C dX5_of_105 (by decide) ?_
          cases h
          exact gx_iret C dX5_of_109
      rw [if_neg q10_3] at h
      by_cases q10_4 : p_3 = (4 : Int32)
      · rw [if_pos q10_4] at h
        refine gx_swIn (tgt := 110) (off := 84) C dX5_of_26 (by rw [q10_4]; decide) (by rw [q10_4]; decide) (by rw [q10_4]; decide) (by decide) ?_
        refine gx_aload C dX5_of_110 rfl ?_
        obtain ⟨a24, ea24, h⟩ := gx_bd h
        refine gx_get C kcX0 8 (by decide) wl_215 (gx_gd_s ea24) dX5_of_112 ?_
        refine gx_iload_n C dX5_of_115 rfl rfl ?_
        obtain ⟨v25, ev25, h⟩ := gx_bd h
        refine gx_lald C (t := 1) rfl ev25 dX5_of_116 ?_
        obtain ⟨v27, X26, eX26, h⟩ := gx_bd2 h
        refine gx_callS (As := [gx_l v25]) (st := []) (stk2 := [gx_i v27]) C cd_J13_bitCount_95d88 wl_444 wl_443 (gc_J13_bitCount_95d88 fu v25 X7 v27 X26 eX26) rfl ⟨Nat.le_of_ble_eq_true rfl, Nat.le_of_ble_eq_true rfl⟩ ⟨Nat.le_of_ble_eq_true rfl, Nat.le_of_ble_eq_true rfl⟩ (Nat.le_of_ble_eq_true rfl) rfl rfl dX5_of_117 ?_
        cases h
        exact gx_iret C dX5_of_120
      rw [if_neg q10_4] at h
      refine gx_swOut (tgt := 121) C dX5_of_26 (by have n0 := lv_neT q10_0 (a := 0) (by decide); have n1 := lv_neT q10_1 (a := 1) (by decide); have n2 := lv_neT q10_2 (a := 2) (by decide); have n3 := lv_neT q10_3 (a := 3) (by decide); have n4 := lv_neT q10_4 (a := 4) (by decide); omega) (by decide) ?_
      refine gx_iconst (v := -1) C dX5_of_121 (by decide) ?_
      cases h
      exact gx_iret C dX5_of_122
    · rw [if_pos q9] at h
      refine gx_iconst (v := -1) C dX5_of_22 (by decide) ?_
      cases h
      exact gx_iret C dX5_of_23
theorem dX5_range_0 : decode cX5_range 0 = .ok (.aload_n 0, 1) := by decide +kernel
theorem dX5_range_1 : decode cX5_range 1 = .ok (.iload_n 1, 1) := by decide +kernel
theorem dX5_range_2 : decode cX5_range 2 = .ok (.invokevirtual 116, 3) := by decide +kernel
theorem dX5_range_5 : decode cX5_range 5 = .ok (.astore 5, 2) := by decide +kernel
theorem dX5_range_7 : decode cX5_range 7 = .ok (.aload 5, 2) := by decide +kernel
theorem dX5_range_9 : decode cX5_range 9 = .ok (.ifnonnull 7, 3) := by decide +kernel
theorem dX5_range_12 : decode cX5_range 12 = .ok (.aconst_null, 1) := by decide +kernel
theorem dX5_range_13 : decode cX5_range 13 = .ok (.goto 9, 3) := by decide +kernel
theorem dX5_range_16 : decode cX5_range 16 = .ok (.aload 5, 2) := by decide +kernel
theorem dX5_range_18 : decode cX5_range 18 = .ok (.iload_n 2, 1) := by decide +kernel
theorem dX5_range_19 : decode cX5_range 19 = .ok (.invokevirtual 85, 3) := by decide +kernel
theorem dX5_range_22 : decode cX5_range 22 = .ok (.astore 6, 2) := by decide +kernel
theorem dX5_range_24 : decode cX5_range 24 = .ok (.aload 6, 2) := by decide +kernel
theorem dX5_range_26 : decode cX5_range 26 = .ok (.ifnull 16, 3) := by decide +kernel
theorem dX5_range_29 : decode cX5_range 29 = .ok (.iload_n 3, 1) := by decide +kernel
theorem dX5_range_30 : decode cX5_range 30 = .ok (.ifCond .lt 12, 3) := by decide +kernel
theorem dX5_range_33 : decode cX5_range 33 = .ok (.iload_n 3, 1) := by decide +kernel
theorem dX5_range_34 : decode cX5_range 34 = .ok (.aload 6, 2) := by decide +kernel
theorem dX5_range_36 : decode cX5_range 36 = .ok (.getfield 165, 3) := by decide +kernel
theorem dX5_range_39 : decode cX5_range 39 = .ok (.if_icmp .lt 5, 3) := by decide +kernel
theorem dX5_range_42 : decode cX5_range 42 = .ok (.iconst (-1), 1) := by decide +kernel
theorem dX5_range_43 : decode cX5_range 43 = .ok (.ireturn, 1) := by decide +kernel
theorem dX5_range_44 : decode cX5_range 44 = .ok (.iload 4, 2) := by decide +kernel
theorem dX5_range_46 : decode cX5_range 46 = .ok (.tableswitch 50 0 2 #[26, 34, 42], 26) := by decide +kernel
theorem dX5_range_72 : decode cX5_range 72 = .ok (.aload 6, 2) := by decide +kernel
theorem dX5_range_74 : decode cX5_range 74 = .ok (.getfield 176, 3) := by decide +kernel
theorem dX5_range_77 : decode cX5_range 77 = .ok (.iload_n 3, 1) := by decide +kernel
theorem dX5_range_78 : decode cX5_range 78 = .ok (.iaload, 1) := by decide +kernel
theorem dX5_range_79 : decode cX5_range 79 = .ok (.ireturn, 1) := by decide +kernel
theorem dX5_range_80 : decode cX5_range 80 = .ok (.aload 6, 2) := by decide +kernel
theorem dX5_range_82 : decode cX5_range 82 = .ok (.getfield 179, 3) := by decide +kernel
theorem dX5_range_85 : decode cX5_range 85 = .ok (.iload_n 3, 1) := by decide +kernel
theorem dX5_range_86 : decode cX5_range 86 = .ok (.iaload, 1) := by decide +kernel
theorem dX5_range_87 : decode cX5_range 87 = .ok (.ireturn, 1) := by decide +kernel
theorem dX5_range_88 : decode cX5_range 88 = .ok (.aload 6, 2) := by decide +kernel
theorem dX5_range_90 : decode cX5_range 90 = .ok (.getfield 182, 3) := by decide +kernel
theorem dX5_range_93 : decode cX5_range 93 = .ok (.iload_n 3, 1) := by decide +kernel
theorem dX5_range_94 : decode cX5_range 94 = .ok (.iaload, 1) := by decide +kernel
theorem dX5_range_95 : decode cX5_range 95 = .ok (.ireturn, 1) := by decide +kernel
theorem dX5_range_96 : decode cX5_range 96 = .ok (.iconst (-1), 1) := by decide +kernel
theorem dX5_range_97 : decode cX5_range 97 = .ok (.ireturn, 1) := by decide +kernel
def gm_X5_range_22 (fu : Nat) (x3 : Int32) (x4 : Int32) (so0 : Option Nat) (X : gx_H) : Option (Int32 × gx_H) :=
  gx_nl so0 (
  some ((-1 : Int32), X)) fun a2 =>
  if x3 < 0 then (
  some ((-1 : Int32), X)) else (
  (gx_gi X a2 0 7).bind fun v4 =>
  if x3 < v4 then (
  if x4 = (0 : Int32) then (
  (gx_gd X a2 0 3).bind fun a7 =>
  (gx_gai X a7 0 x3).bind fun v8 =>
  some (v8, X)) else (
  if x4 = (1 : Int32) then (
  (gx_gd X a2 0 4).bind fun a9 =>
  (gx_gai X a9 0 x3).bind fun v10 =>
  some (v10, X)) else (
  if x4 = (2 : Int32) then (
  (gx_gd X a2 0 5).bind fun a11 =>
  (gx_gai X a11 0 x3).bind fun v12 =>
  some (v12, X)) else (
  some ((-1 : Int32), X))))) else (
  some ((-1 : Int32), X)))
set_option maxHeartbeats 1000000 in
set_option maxRecDepth 20000 in
theorem gt_X5_range_22 {p : Program} {l : Launch} {e : Env} {s : State} {m : MethodId} {args : Array Value} {below : List Frame} {meth : Method} {c : Code} {D : gx_D} {r : Int32} {X2 : gx_H}  (C : gx_C D gz_cl gz_at gz_tb gz_nb p s m meth c cX5_range 7 RX5 (some .int)) (fu : Nat) (x3 : Int32) (x4 : Int32) (so0 : Option Nat) (X : gx_H) (h : gm_X5_range_22 fu  x3 x4 so0 X = some (r, X2)) : gx_W D gz_cl 7 p l e (gx_rm 1 21 0 0) s m args below meth c 0 0 (MQ below (gx_Q D gz_cl (some (gx_i r)) X2) args s 0 0 (gx_Z D)) X 22 [none, none, none, some (gx_i x3), some (gx_i x4), none, none] [gx_r so0] := by
  unfold gm_X5_range_22 at h
  refine gx_astore (lv2 := [none, none, none, some (gx_i x3), some (gx_i x4), none, some (gx_r so0)]) C dX5_range_22 (by decide) rfl ?_
  refine gx_aload C dX5_range_24 rfl ?_
  refine gx_ifnull (tgt := 42) C dX5_range_26 (by decide) (fun q1 => ?_) (fun a2 q1 => ?_)
  · subst q1
    have h := gx_nl_n h
    refine gx_iconst (v := -1) C dX5_range_42 (by decide) ?_
    cases h
    exact gx_iret C dX5_range_43
  · subst q1
    have h := gx_nl_s h
    refine gx_iload_n C dX5_range_29 rfl rfl ?_
    refine gx_if_lt (tgt := 42) C dX5_range_30 (by decide) (fun q3 => ?_) (fun q3 => ?_)
    · rw [if_pos q3] at h
      refine gx_iconst (v := -1) C dX5_range_42 (by decide) ?_
      cases h
      exact gx_iret C dX5_range_43
    · rw [if_neg q3] at h
      refine gx_iload_n C dX5_range_33 rfl rfl ?_
      refine gx_aload C dX5_range_34 rfl ?_
      obtain ⟨v4, ev4, h⟩ := gx_bd h
      refine gx_get C kcX0 7 (by decide) wl_212 (gx_gi_s ev4) dX5_range_36 ?_
      refine gx_icmp_lt (tgt := 44) C dX5_range_39 (by decide) (fun q5 => ?_) (fun q5 => ?_)
      · rw [if_pos q5] at h
        refine gx_iload C dX5_range_44 rfl ?_
        by_cases q6_0 : x4 = (0 : Int32)
        · rw [if_pos q6_0] at h
          refine gx_swIn (tgt := 72) (off := 26) C dX5_range_46 (by rw [q6_0]; decide) (by rw [q6_0]; decide) (by rw [q6_0]; decide) (by decide) ?_
          refine gx_aload C dX5_range_72 rfl ?_
          obtain ⟨a7, ea7, h⟩ := gx_bd h
          refine gx_get C kcX0 3 (by decide) wl_195 (gx_gd_s ea7) dX5_range_74 ?_
          refine gx_iload_n C dX5_range_77 rfl rfl ?_
          obtain ⟨v8, ev8, h⟩ := gx_bd h
          refine gx_iald C (t := 0) rfl ev8 dX5_range_78 ?_
          cases h
          exact gx_iret C dX5_range_79
        rw [if_neg q6_0] at h
        by_cases q6_1 : x4 = (1 : Int32)
        · rw [if_pos q6_1] at h
          refine gx_swIn (tgt := 80) (off := 34) C dX5_range_46 (by rw [q6_1]; decide) (by rw [q6_1]; decide) (by rw [q6_1]; decide) (by decide) ?_
          refine gx_aload C dX5_range_80 rfl ?_
          obtain ⟨a9, ea9, h⟩ := gx_bd h
          refine gx_get C kcX0 4 (by decide) wl_199 (gx_gd_s ea9) dX5_range_82 ?_
          refine gx_iload_n C dX5_range_85 rfl rfl ?_
          obtain ⟨v10, ev10, h⟩ := gx_bd h
          refine gx_iald C (t := 0) rfl ev10 dX5_range_86 ?_
          cases h
          exact gx_iret C dX5_range_87
        rw [if_neg q6_1] at h
        by_cases q6_2 : x4 = (2 : Int32)
        · rw [if_pos q6_2] at h
          refine gx_swIn (tgt := 88) (off := 42) C dX5_range_46 (by rw [q6_2]; decide) (by rw [q6_2]; decide) (by rw [q6_2]; decide) (by decide) ?_
          refine gx_aload C dX5_range_88 rfl ?_
          obtain ⟨a11, ea11, h⟩ := gx_bd h
          refine gx_get C kcX0 5 (by decide) wl_203 (gx_gd_s ea11) dX5_range_90 ?_
          refine gx_iload_n C dX5_range_93 rfl rfl ?_
          obtain ⟨v12, ev12, h⟩ := gx_bd h
          refine gx_iald C (t := 0) rfl ev12 dX5_range_94 ?_
          cases h
          exact gx_iret C dX5_range_95
        rw [if_neg q6_2] at h
        refine gx_swOut (tgt := 96) C dX5_range_46 (by have n0 := lv_neT q6_0 (a := 0) (by decide); have n1 := lv_neT q6_1 (a := 1) (by decide); have n2 := lv_neT q6_2 (a := 2) (by decide); omega) (by decide) ?_
        refine gx_iconst (v := -1) C dX5_range_96 (by decide) ?_
        cases h
        exact gx_iret C dX5_range_97
      · rw [if_neg q5] at h
        refine gx_iconst (v := -1) C dX5_range_42 (by decide) ?_
        cases h
        exact gx_iret C dX5_range_43
def gm_X5_range (fu : Nat) (this : Nat) (p_0 : Int32) (p_1 : Int32) (p_2 : Int32) (p_3 : Int32) (X : gx_H) : Option (Int32 × gx_H) :=
  gx_ob X this 5 <|
  gx_b2 (gm_X5_programOf fu this p_0 X) fun o15 X14 =>
  gx_nl o15 (
  gm_X5_range_22 fu  p_2 p_3 none X14) fun a17 =>
  gx_ob X14 a17 3 <|
  gx_b2 (gm_X3_body fu a17 p_1 X14) fun o20 X19 =>
  gm_X5_range_22 fu  p_2 p_3 o20 X19
set_option maxHeartbeats 1000000 in
set_option maxRecDepth 20000 in
theorem gc_X5_range {l : Launch} {D : gx_D} (fu : Nat) (this : Nat) (p_0 : Int32) (p_1 : Int32) (p_2 : Int32) (p_3 : Int32) (X : gx_H) (r : Int32) (X2 : gx_H) (h : gm_X5_range fu this p_0 p_1 p_2 p_3 X = some (r, X2)) : gx_M D gz_cl gz_at gz_tb gz_nb l yX5_range cX5_range 7 (some .int) 1 21 [gx_r (some this), gx_i p_0, gx_i p_1, gx_i p_2, gx_i p_3] X (some (gx_i r)) X2 0 0 := by
  unfold gm_X5_range at h
  refine gx_enter [some (gx_r (some this)), some (gx_i p_0), some (gx_i p_1), some (gx_i p_2), some (gx_i p_3), none, none] rfl (by decide) (Nat.le_of_ble_eq_true rfl) ?_
  intro p e s m below meth c C _
  refine gx_aload_n C dX5_range_0 rfl rfl ?_
  refine gx_iload_n C dX5_range_1 rfl rfl ?_
  obtain ⟨ho13, h⟩ := gx_obs h
  obtain ⟨o15, X14, eX14, h⟩ := gx_bd2 h
  refine gx_callV (As := [gx_i p_0]) (st := []) (stk2 := [gx_r o15]) C cd_X5_programOf wl_426 ws_X5_programOf wl_424 rfl ho13 (gc_X5_programOf fu this p_0 X o15 X14 eX14) rfl ⟨Nat.le_of_ble_eq_true rfl, Nat.le_of_ble_eq_true rfl⟩ ⟨Nat.le_of_ble_eq_true rfl, Nat.le_of_ble_eq_true rfl⟩ (Nat.le_of_ble_eq_true rfl) rfl rfl dX5_range_2 ?_
  refine gx_astore (lv2 := [some (gx_r (some this)), some (gx_i p_0), some (gx_i p_1), some (gx_i p_2), some (gx_i p_3), some (gx_r o15), none]) C dX5_range_5 (by decide) rfl ?_
  refine gx_aload C dX5_range_7 rfl ?_
  refine gx_ifnonnull (tgt := 16) C dX5_range_9 (by decide) (fun a17 q16 => ?_) (fun q16 => ?_)
  · subst q16
    have h := gx_nl_s h
    refine gx_aload C dX5_range_16 rfl ?_
    refine gx_iload_n C dX5_range_18 rfl rfl ?_
    obtain ⟨ho18, h⟩ := gx_obs h
    obtain ⟨o20, X19, eX19, h⟩ := gx_bd2 h
    refine gx_callV (As := [gx_i p_1]) (st := []) (stk2 := [gx_r o20]) C cd_X3_body wl_275 ws_X3_body wl_274 rfl ho18 (gc_X3_body fu a17 p_1 X14 o20 X19 eX19) rfl ⟨Nat.le_of_ble_eq_true rfl, Nat.le_of_ble_eq_true rfl⟩ ⟨Nat.le_of_ble_eq_true rfl, Nat.le_of_ble_eq_true rfl⟩ (Nat.le_of_ble_eq_true rfl) rfl rfl dX5_range_19 ?_
    refine gx_sub (lv2 := [none, none, none, some (gx_i p_2), some (gx_i p_3), none, none]) [false, false, false, true, true, false, false] rfl ?_
    exact gt_X5_range_22 C fu  p_2 p_3 o20 X19 h
  · subst q16
    have h := gx_nl_n h
    refine gx_null C dX5_range_12 ?_
    refine gx_goto (tgt := 22) C dX5_range_13 (by decide) ?_
    refine gx_sub (lv2 := [none, none, none, some (gx_i p_2), some (gx_i p_3), none, none]) [false, false, false, true, true, false, false] rfl ?_
    exact gt_X5_range_22 C fu  p_2 p_3 none X14 h
theorem dX5_set_0 : decode cX5_set 0 = .ok (.aload_n 0, 1) := by decide +kernel
theorem dX5_set_1 : decode cX5_set 1 = .ok (.iload_n 1, 1) := by decide +kernel
theorem dX5_set_2 : decode cX5_set 2 = .ok (.iload_n 2, 1) := by decide +kernel
theorem dX5_set_3 : decode cX5_set 3 = .ok (.invokevirtual 124, 3) := by decide +kernel
theorem dX5_set_6 : decode cX5_set 6 = .ok (.astore 4, 2) := by decide +kernel
theorem dX5_set_8 : decode cX5_set 8 = .ok (.aload 4, 2) := by decide +kernel
theorem dX5_set_10 : decode cX5_set 10 = .ok (.ifnonnull 5, 3) := by decide +kernel
theorem dX5_set_13 : decode cX5_set 13 = .ok (.lconst 0, 1) := by decide +kernel
theorem dX5_set_14 : decode cX5_set 14 = .ok (.lreturn, 1) := by decide +kernel
theorem dX5_set_15 : decode cX5_set 15 = .ok (.iload_n 3, 1) := by decide +kernel
theorem dX5_set_16 : decode cX5_set 16 = .ok (.tableswitch 46 0 2 #[28, 34, 40], 28) := by decide +kernel
theorem dX5_set_44 : decode cX5_set 44 = .ok (.aload 4, 2) := by decide +kernel
theorem dX5_set_46 : decode cX5_set 46 = .ok (.getfield 152, 3) := by decide +kernel
theorem dX5_set_49 : decode cX5_set 49 = .ok (.lreturn, 1) := by decide +kernel
theorem dX5_set_50 : decode cX5_set 50 = .ok (.aload 4, 2) := by decide +kernel
theorem dX5_set_52 : decode cX5_set 52 = .ok (.getfield 156, 3) := by decide +kernel
theorem dX5_set_55 : decode cX5_set 55 = .ok (.lreturn, 1) := by decide +kernel
theorem dX5_set_56 : decode cX5_set 56 = .ok (.aload 4, 2) := by decide +kernel
theorem dX5_set_58 : decode cX5_set 58 = .ok (.getfield 159, 3) := by decide +kernel
theorem dX5_set_61 : decode cX5_set 61 = .ok (.lreturn, 1) := by decide +kernel
theorem dX5_set_62 : decode cX5_set 62 = .ok (.lconst 0, 1) := by decide +kernel
theorem dX5_set_63 : decode cX5_set 63 = .ok (.lreturn, 1) := by decide +kernel
def gm_X5_set (fu : Nat) (this : Nat) (p_0 : Int32) (p_1 : Int32) (p_2 : Int32) (X : gx_H) : Option (Int64 × gx_H) :=
  gx_ob X this 5 <|
  gx_b2 (gm_X5_settledBody fu this p_0 p_1 X) fun o3 X2 =>
  gx_nl o3 (
  some ((0 : Int64), X2)) fun a5 =>
  if p_2 = (0 : Int32) then (
  (gx_gl X2 a5 0 11).bind fun v7 =>
  some (v7, X2)) else (
  if p_2 = (1 : Int32) then (
  (gx_gl X2 a5 0 12).bind fun v8 =>
  some (v8, X2)) else (
  if p_2 = (2 : Int32) then (
  (gx_gl X2 a5 0 13).bind fun v9 =>
  some (v9, X2)) else (
  some ((0 : Int64), X2))))
set_option maxHeartbeats 1000000 in
set_option maxRecDepth 20000 in
theorem gc_X5_set {l : Launch} {D : gx_D} (fu : Nat) (this : Nat) (p_0 : Int32) (p_1 : Int32) (p_2 : Int32) (X : gx_H) (r : Int64) (X2 : gx_H) (h : gm_X5_set fu this p_0 p_1 p_2 X = some (r, X2)) : gx_M D gz_cl gz_at gz_tb gz_nb l yX5_set cX5_set 5 (some .long) 6 150 [gx_r (some this), gx_i p_0, gx_i p_1, gx_i p_2] X (some (gx_l r)) X2 0 0 := by
  unfold gm_X5_set at h
  refine gx_enter [some (gx_r (some this)), some (gx_i p_0), some (gx_i p_1), some (gx_i p_2), none] rfl (by decide) (Nat.le_of_ble_eq_true rfl) ?_
  intro p e s m below meth c C _
  refine gx_aload_n C dX5_set_0 rfl rfl ?_
  refine gx_iload_n C dX5_set_1 rfl rfl ?_
  refine gx_iload_n C dX5_set_2 rfl rfl ?_
  obtain ⟨ho1, h⟩ := gx_obs h
  obtain ⟨o3, X2, eX2, h⟩ := gx_bd2 h
  refine gx_callV (As := [gx_i p_0, gx_i p_1]) (st := []) (stk2 := [gx_r o3]) C cd_X5_settledBody wl_440 ws_X5_settledBody wl_438 rfl ho1 (gc_X5_settledBody fu this p_0 p_1 X o3 X2 eX2) rfl ⟨Nat.le_of_ble_eq_true rfl, Nat.le_of_ble_eq_true rfl⟩ ⟨Nat.le_of_ble_eq_true rfl, Nat.le_of_ble_eq_true rfl⟩ (Nat.le_of_ble_eq_true rfl) rfl rfl dX5_set_3 ?_
  refine gx_astore (lv2 := [some (gx_r (some this)), some (gx_i p_0), some (gx_i p_1), some (gx_i p_2), some (gx_r o3)]) C dX5_set_6 (by decide) rfl ?_
  refine gx_aload C dX5_set_8 rfl ?_
  refine gx_ifnonnull (tgt := 15) C dX5_set_10 (by decide) (fun a5 q4 => ?_) (fun q4 => ?_)
  · subst q4
    have h := gx_nl_s h
    refine gx_iload_n C dX5_set_15 rfl rfl ?_
    by_cases q6_0 : p_2 = (0 : Int32)
    · rw [if_pos q6_0] at h
      refine gx_swIn (tgt := 44) (off := 28) C dX5_set_16 (by rw [q6_0]; decide) (by rw [q6_0]; decide) (by rw [q6_0]; decide) (by decide) ?_
      refine gx_aload C dX5_set_44 rfl ?_
      obtain ⟨v7, ev7, h⟩ := gx_bd h
      refine gx_get C kcX0 11 (by decide) wl_222 (gx_gl_s ev7) dX5_set_46 ?_
      cases h
      exact gx_lret C dX5_set_49
    rw [if_neg q6_0] at h
    by_cases q6_1 : p_2 = (1 : Int32)
    · rw [if_pos q6_1] at h
      refine gx_swIn (tgt := 50) (off := 34) C dX5_set_16 (by rw [q6_1]; decide) (by rw [q6_1]; decide) (by rw [q6_1]; decide) (by decide) ?_
      refine gx_aload C dX5_set_50 rfl ?_
      obtain ⟨v8, ev8, h⟩ := gx_bd h
      refine gx_get C kcX0 12 (by decide) wl_225 (gx_gl_s ev8) dX5_set_52 ?_
      cases h
      exact gx_lret C dX5_set_55
    rw [if_neg q6_1] at h
    by_cases q6_2 : p_2 = (2 : Int32)
    · rw [if_pos q6_2] at h
      refine gx_swIn (tgt := 56) (off := 40) C dX5_set_16 (by rw [q6_2]; decide) (by rw [q6_2]; decide) (by rw [q6_2]; decide) (by decide) ?_
      refine gx_aload C dX5_set_56 rfl ?_
      obtain ⟨v9, ev9, h⟩ := gx_bd h
      refine gx_get C kcX0 13 (by decide) wl_228 (gx_gl_s ev9) dX5_set_58 ?_
      cases h
      exact gx_lret C dX5_set_61
    rw [if_neg q6_2] at h
    refine gx_swOut (tgt := 62) C dX5_set_16 (by have n0 := lv_neT q6_0 (a := 0) (by decide); have n1 := lv_neT q6_1 (a := 1) (by decide); have n2 := lv_neT q6_2 (a := 2) (by decide); omega) (by decide) ?_
    refine gx_lconst (v := 0) C dX5_set_62 (by decide) ?_
    cases h
    exact gx_lret C dX5_set_63
  · subst q4
    have h := gx_nl_n h
    refine gx_lconst (v := 0) C dX5_set_13 (by decide) ?_
    cases h
    exact gx_lret C dX5_set_14
theorem dX5_size_0 : decode cX5_size 0 = .ok (.aload_n 0, 1) := by decide +kernel
theorem dX5_size_1 : decode cX5_size 1 = .ok (.iload_n 1, 1) := by decide +kernel
theorem dX5_size_2 : decode cX5_size 2 = .ok (.iload_n 2, 1) := by decide +kernel
theorem dX5_size_3 : decode cX5_size 3 = .ok (.invokevirtual 124, 3) := by decide +kernel
theorem dX5_size_6 : decode cX5_size 6 = .ok (.astore 4, 2) := by decide +kernel
theorem dX5_size_8 : decode cX5_size 8 = .ok (.aload 4, 2) := by decide +kernel
theorem dX5_size_10 : decode cX5_size 10 = .ok (.ifnonnull 5, 3) := by decide +kernel
theorem dX5_size_13 : decode cX5_size 13 = .ok (.iconst (-1), 1) := by decide +kernel
theorem dX5_size_14 : decode cX5_size 14 = .ok (.ireturn, 1) := by decide +kernel
theorem dX5_size_15 : decode cX5_size 15 = .ok (.iload_n 3, 1) := by decide +kernel
theorem dX5_size_16 : decode cX5_size 16 = .ok (.tableswitch 68 0 4 #[36, 42, 48, 55, 62], 36) := by decide +kernel
theorem dX5_size_52 : decode cX5_size 52 = .ok (.aload 4, 2) := by decide +kernel
theorem dX5_size_54 : decode cX5_size 54 = .ok (.getfield 162, 3) := by decide +kernel
theorem dX5_size_57 : decode cX5_size 57 = .ok (.ireturn, 1) := by decide +kernel
theorem dX5_size_58 : decode cX5_size 58 = .ok (.aload 4, 2) := by decide +kernel
theorem dX5_size_60 : decode cX5_size 60 = .ok (.getfield 165, 3) := by decide +kernel
theorem dX5_size_63 : decode cX5_size 63 = .ok (.ireturn, 1) := by decide +kernel
theorem dX5_size_64 : decode cX5_size 64 = .ok (.aload 4, 2) := by decide +kernel
theorem dX5_size_66 : decode cX5_size 66 = .ok (.iconst 4, 1) := by decide +kernel
theorem dX5_size_67 : decode cX5_size 67 = .ok (.invokevirtual 168, 3) := by decide +kernel
theorem dX5_size_70 : decode cX5_size 70 = .ok (.ireturn, 1) := by decide +kernel
theorem dX5_size_71 : decode cX5_size 71 = .ok (.aload 4, 2) := by decide +kernel
theorem dX5_size_73 : decode cX5_size 73 = .ok (.iconst 5, 1) := by decide +kernel
theorem dX5_size_74 : decode cX5_size 74 = .ok (.invokevirtual 168, 3) := by decide +kernel
theorem dX5_size_77 : decode cX5_size 77 = .ok (.ireturn, 1) := by decide +kernel
theorem dX5_size_78 : decode cX5_size 78 = .ok (.aload 4, 2) := by decide +kernel
theorem dX5_size_80 : decode cX5_size 80 = .ok (.invokevirtual 172, 3) := by decide +kernel
theorem dX5_size_83 : decode cX5_size 83 = .ok (.ireturn, 1) := by decide +kernel
theorem dX5_size_84 : decode cX5_size 84 = .ok (.iconst (-1), 1) := by decide +kernel
theorem dX5_size_85 : decode cX5_size 85 = .ok (.ireturn, 1) := by decide +kernel
def gm_X5_size (fu : Nat) (this : Nat) (p_0 : Int32) (p_1 : Int32) (p_2 : Int32) (X : gx_H) : Option (Int32 × gx_H) :=
  gx_ob X this 5 <|
  gx_b2 (gm_X5_settledBody fu this p_0 p_1 X) fun o3 X2 =>
  gx_nl o3 (
  some ((-1 : Int32), X2)) fun a5 =>
  if p_2 = (0 : Int32) then (
  (gx_gi X2 a5 0 6).bind fun v7 =>
  some (v7, X2)) else (
  if p_2 = (1 : Int32) then (
  (gx_gi X2 a5 0 7).bind fun v8 =>
  some (v8, X2)) else (
  if p_2 = (2 : Int32) then (
  gx_ob X2 a5 0 <|
  gx_b2 (gm_X0_countOfKind fu a5 (4 : Int32) X2) fun v11 X10 =>
  some (v11, X10)) else (
  if p_2 = (3 : Int32) then (
  gx_ob X2 a5 0 <|
  gx_b2 (gm_X0_countOfKind fu a5 (5 : Int32) X2) fun v14 X13 =>
  some (v14, X13)) else (
  if p_2 = (4 : Int32) then (
  gx_ob X2 a5 0 <|
  gx_b2 (gm_X0_countReached fu a5 X2) fun v17 X16 =>
  some (v17, X16)) else (
  some ((-1 : Int32), X2))))))
set_option maxHeartbeats 1000000 in
set_option maxRecDepth 20000 in
theorem gc_X5_size {l : Launch} {D : gx_D} (fu : Nat) (this : Nat) (p_0 : Int32) (p_1 : Int32) (p_2 : Int32) (X : gx_H) (r : Int32) (X2 : gx_H) (h : gm_X5_size fu this p_0 p_1 p_2 X = some (r, X2)) : gx_M D gz_cl gz_at gz_tb gz_nb l yX5_size cX5_size 5 (some .int) 6 150 [gx_r (some this), gx_i p_0, gx_i p_1, gx_i p_2] X (some (gx_i r)) X2 0 0 := by
  unfold gm_X5_size at h
  refine gx_enter [some (gx_r (some this)), some (gx_i p_0), some (gx_i p_1), some (gx_i p_2), none] rfl (by decide) (Nat.le_of_ble_eq_true rfl) ?_
  intro p e s m below meth c C _
  refine gx_aload_n C dX5_size_0 rfl rfl ?_
  refine gx_iload_n C dX5_size_1 rfl rfl ?_
  refine gx_iload_n C dX5_size_2 rfl rfl ?_
  obtain ⟨ho1, h⟩ := gx_obs h
  obtain ⟨o3, X2, eX2, h⟩ := gx_bd2 h
  refine gx_callV (As := [gx_i p_0, gx_i p_1]) (st := []) (stk2 := [gx_r o3]) C cd_X5_settledBody wl_440 ws_X5_settledBody wl_438 rfl ho1 (gc_X5_settledBody fu this p_0 p_1 X o3 X2 eX2) rfl ⟨Nat.le_of_ble_eq_true rfl, Nat.le_of_ble_eq_true rfl⟩ ⟨Nat.le_of_ble_eq_true rfl, Nat.le_of_ble_eq_true rfl⟩ (Nat.le_of_ble_eq_true rfl) rfl rfl dX5_size_3 ?_
  refine gx_astore (lv2 := [some (gx_r (some this)), some (gx_i p_0), some (gx_i p_1), some (gx_i p_2), some (gx_r o3)]) C dX5_size_6 (by decide) rfl ?_
  refine gx_aload C dX5_size_8 rfl ?_
  refine gx_ifnonnull (tgt := 15) C dX5_size_10 (by decide) (fun a5 q4 => ?_) (fun q4 => ?_)
  · subst q4
    have h := gx_nl_s h
    refine gx_iload_n C dX5_size_15 rfl rfl ?_
    by_cases q6_0 : p_2 = (0 : Int32)
    · rw [if_pos q6_0] at h
      refine gx_swIn (tgt := 52) (off := 36) C dX5_size_16 (by rw [q6_0]; decide) (by rw [q6_0]; decide) (by rw [q6_0]; decide) (by decide) ?_
      refine gx_aload C dX5_size_52 rfl ?_
      obtain ⟨v7, ev7, h⟩ := gx_bd h
      refine gx_get C kcX0 6 (by decide) wl_208 (gx_gi_s ev7) dX5_size_54 ?_
      cases h
      exact gx_iret C dX5_size_57
    rw [if_neg q6_0] at h
    by_cases q6_1 : p_2 = (1 : Int32)
    · rw [if_pos q6_1] at h
      refine gx_swIn (tgt := 58) (off := 42) C dX5_size_16 (by rw [q6_1]; decide) (by rw [q6_1]; decide) (by rw [q6_1]; decide) (by decide) ?_
      refine gx_aload C dX5_size_58 rfl ?_
      obtain ⟨v8, ev8, h⟩ := gx_bd h
      refine gx_get C kcX0 7 (by decide) wl_212 (gx_gi_s ev8) dX5_size_60 ?_
      cases h
      exact gx_iret C dX5_size_63
    rw [if_neg q6_1] at h
    by_cases q6_2 : p_2 = (2 : Int32)
    · rw [if_pos q6_2] at h
      refine gx_swIn (tgt := 64) (off := 48) C dX5_size_16 (by rw [q6_2]; decide) (by rw [q6_2]; decide) (by rw [q6_2]; decide) (by decide) ?_
      refine gx_aload C dX5_size_64 rfl ?_
      refine gx_iconst (v := 4) C dX5_size_66 (by decide) ?_
      obtain ⟨ho9, h⟩ := gx_obs h
      obtain ⟨v11, X10, eX10, h⟩ := gx_bd2 h
      refine gx_callV (As := [gx_i (4 : Int32)]) (st := []) (stk2 := [gx_i v11]) C cd_X0_countOfKind wl_462 ws_X0_countOfKind wl_461 rfl ho9 (gc_X0_countOfKind fu a5 (4 : Int32) X2 v11 X10 eX10) rfl ⟨Nat.le_of_ble_eq_true rfl, Nat.le_of_ble_eq_true rfl⟩ ⟨Nat.le_of_ble_eq_true rfl, Nat.le_of_ble_eq_true rfl⟩ (Nat.le_of_ble_eq_true rfl) rfl rfl dX5_size_67 ?_
      cases h
      exact gx_iret C dX5_size_70
    rw [if_neg q6_2] at h
    by_cases q6_3 : p_2 = (3 : Int32)
    · rw [if_pos q6_3] at h
      refine gx_swIn (tgt := 71) (off := 55) C dX5_size_16 (by rw [q6_3]; decide) (by rw [q6_3]; decide) (by rw [q6_3]; decide) (by decide) ?_
      refine gx_aload C dX5_size_71 rfl ?_
      refine gx_iconst (v := 5) C dX5_size_73 (by decide) ?_
      obtain ⟨ho12, h⟩ := gx_obs h
      obtain ⟨v14, X13, eX13, h⟩ := gx_bd2 h
      refine gx_callV (As := [gx_i (5 : Int32)]) (st := []) (stk2 := [gx_i v14]) C cd_X0_countOfKind wl_462 ws_X0_countOfKind wl_461 rfl ho12 (gc_X0_countOfKind fu a5 (5 : Int32) X2 v14 X13 eX13) rfl ⟨Nat.le_of_ble_eq_true rfl, Nat.le_of_ble_eq_true rfl⟩ ⟨Nat.le_of_ble_eq_true rfl, Nat.le_of_ble_eq_true rfl⟩ (Nat.le_of_ble_eq_true rfl) rfl rfl dX5_size_74 ?_
      cases h
      exact gx_iret C dX5_size_77
    rw [if_neg q6_3] at h
    by_cases q6_4 : p_2 = (4 : Int32)
    · rw [if_pos q6_4] at h
      refine gx_swIn (tgt := 78) (off := 62) C dX5_size_16 (by rw [q6_4]; decide) (by rw [q6_4]; decide) (by rw [q6_4]; decide) (by decide) ?_
      refine gx_aload C dX5_size_78 rfl ?_
      obtain ⟨ho15, h⟩ := gx_obs h
      obtain ⟨v17, X16, eX16, h⟩ := gx_bd2 h
      refine gx_callV (As := []) (st := []) (stk2 := [gx_i v17]) C cd_X0_countReached wl_466 ws_X0_countReached wl_465 rfl ho15 (gc_X0_countReached fu a5 X2 v17 X16 eX16) rfl ⟨Nat.le_of_ble_eq_true rfl, Nat.le_of_ble_eq_true rfl⟩ ⟨Nat.le_of_ble_eq_true rfl, Nat.le_of_ble_eq_true rfl⟩ (Nat.le_of_ble_eq_true rfl) rfl rfl dX5_size_80 ?_
      cases h
      exact gx_iret C dX5_size_83
    rw [if_neg q6_4] at h
    refine gx_swOut (tgt := 84) C dX5_size_16 (by have n0 := lv_neT q6_0 (a := 0) (by decide); have n1 := lv_neT q6_1 (a := 1) (by decide); have n2 := lv_neT q6_2 (a := 2) (by decide); have n3 := lv_neT q6_3 (a := 3) (by decide); have n4 := lv_neT q6_4 (a := 4) (by decide); omega) (by decide) ?_
    refine gx_iconst (v := -1) C dX5_size_84 (by decide) ?_
    cases h
    exact gx_iret C dX5_size_85
  · subst q4
    have h := gx_nl_n h
    refine gx_iconst (v := -1) C dX5_size_13 (by decide) ?_
    cases h
    exact gx_iret C dX5_size_14
theorem dX5_take_0 : decode cX5_take 0 = .ok (.aload_n 0, 1) := by decide +kernel
theorem dX5_take_1 : decode cX5_take 1 = .ok (.getfield 49, 3) := by decide +kernel
theorem dX5_take_4 : decode cX5_take 4 = .ok (.ifCond .ne 5, 3) := by decide +kernel
theorem dX5_take_7 : decode cX5_take 7 = .ok (.iconst 0, 1) := by decide +kernel
theorem dX5_take_8 : decode cX5_take 8 = .ok (.ireturn, 1) := by decide +kernel
theorem dX5_take_9 : decode cX5_take 9 = .ok (.aload_n 0, 1) := by decide +kernel
theorem dX5_take_10 : decode cX5_take 10 = .ok (.getfield 35, 3) := by decide +kernel
theorem dX5_take_13 : decode cX5_take 13 = .ok (.astore_n 1, 1) := by decide +kernel
theorem dX5_take_14 : decode cX5_take 14 = .ok (.aload_n 0, 1) := by decide +kernel
theorem dX5_take_15 : decode cX5_take 15 = .ok (.aload_n 0, 1) := by decide +kernel
theorem dX5_take_16 : decode cX5_take 16 = .ok (.getfield 39, 3) := by decide +kernel
theorem dX5_take_19 : decode cX5_take 19 = .ok (.putfield 35, 3) := by decide +kernel
theorem dX5_take_22 : decode cX5_take 22 = .ok (.aload_n 0, 1) := by decide +kernel
theorem dX5_take_23 : decode cX5_take 23 = .ok (.aload_n 1, 1) := by decide +kernel
theorem dX5_take_24 : decode cX5_take 24 = .ok (.putfield 39, 3) := by decide +kernel
theorem dX5_take_27 : decode cX5_take 27 = .ok (.aload_n 0, 1) := by decide +kernel
theorem dX5_take_28 : decode cX5_take 28 = .ok (.iconst 0, 1) := by decide +kernel
theorem dX5_take_29 : decode cX5_take 29 = .ok (.putfield 49, 3) := by decide +kernel
theorem dX5_take_32 : decode cX5_take 32 = .ok (.iconst 1, 1) := by decide +kernel
theorem dX5_take_33 : decode cX5_take 33 = .ok (.ireturn, 1) := by decide +kernel
def gm_X5_take (fu : Nat) (this : Nat) (X : gx_H) : Option (Int32 × gx_H) :=
  (gx_gi X this 5 5).bind fun v1 =>
  if v1 = 0 then (
  some ((0 : Int32), X)) else (
  (gx_gd X this 5 3).bind fun a3 =>
  (gx_gd X this 5 4).bind fun a4 =>
  (gx_pf X this 5 3 (.ref a4)).bind fun X5 =>
  (gx_pf X5 this 5 4 (.ref a3)).bind fun X6 =>
  (gx_pf X6 this 5 5 (.int (0 : Int32))).bind fun X7 =>
  some ((1 : Int32), X7))
set_option maxHeartbeats 1000000 in
set_option maxRecDepth 20000 in
theorem gc_X5_take {l : Launch} {D : gx_D} (fu : Nat) (this : Nat) (X : gx_H) (r : Int32) (X2 : gx_H) (h : gm_X5_take fu this X = some (r, X2)) : gx_M D gz_cl gz_at gz_tb gz_nb l yX5_take cX5_take 2 (some .boolean) 0 0 [gx_r (some this)] X (some (gx_i r)) X2 0 0 := by
  unfold gm_X5_take at h
  refine gx_enter [some (gx_r (some this)), none] rfl (by decide) (Nat.le_of_ble_eq_true rfl) ?_
  intro p e s m below meth c C _
  refine gx_aload_n C dX5_take_0 rfl rfl ?_
  obtain ⟨v1, ev1, h⟩ := gx_bd h
  refine gx_get C kcX5 5 (by decide) wl_100 (gx_gi_s ev1) dX5_take_1 ?_
  refine gx_if_ne (tgt := 9) C dX5_take_4 (by decide) (fun q2 => ?_) (fun q2 => ?_)
  · rw [if_neg q2] at h
    refine gx_aload_n C dX5_take_9 rfl rfl ?_
    obtain ⟨a3, ea3, h⟩ := gx_bd h
    refine gx_get C kcX5 3 (by decide) wl_98 (gx_gd_s ea3) dX5_take_10 ?_
    refine gx_astore_n (lv2 := [some (gx_r (some this)), some (gx_r (some a3))]) C dX5_take_13 rfl (by decide) rfl ?_
    refine gx_aload_n C dX5_take_14 rfl rfl ?_
    refine gx_aload_n C dX5_take_15 rfl rfl ?_
    obtain ⟨a4, ea4, h⟩ := gx_bd h
    refine gx_get C kcX5 4 (by decide) wl_99 (gx_gd_s ea4) dX5_take_16 ?_
    obtain ⟨X5, eX5, h⟩ := gx_bd h
    refine gx_put C kcX5 3 (by decide) rfl wl_98 ⟨rfl, rfl⟩ eX5 dX5_take_19 ?_
    refine gx_aload_n C dX5_take_22 rfl rfl ?_
    refine gx_aload_n C dX5_take_23 rfl rfl ?_
    obtain ⟨X6, eX6, h⟩ := gx_bd h
    refine gx_put C kcX5 4 (by decide) rfl wl_99 ⟨rfl, rfl⟩ eX6 dX5_take_24 ?_
    refine gx_aload_n C dX5_take_27 rfl rfl ?_
    refine gx_iconst (v := 0) C dX5_take_28 (by decide) ?_
    obtain ⟨X7, eX7, h⟩ := gx_bd h
    refine gx_put C kcX5 5 (by decide) rfl wl_100 (gx_nz (Or.inl rfl)) eX7 dX5_take_29 ?_
    refine gx_iconst (v := 1) C dX5_take_32 (by decide) ?_
    cases h
    exact gx_zret (Or.inr rfl) C dX5_take_33
  · rw [if_pos q2] at h
    refine gx_iconst (v := 0) C dX5_take_7 (by decide) ?_
    cases h
    exact gx_zret (Or.inl rfl) C dX5_take_8
theorem dX5_way_0 : decode cX5_way 0 = .ok (.aload_n 0, 1) := by decide +kernel
theorem dX5_way_1 : decode cX5_way 1 = .ok (.getfield 10, 3) := by decide +kernel
theorem dX5_way_4 : decode cX5_way 4 = .ok (.iload_n 1, 1) := by decide +kernel
theorem dX5_way_5 : decode cX5_way 5 = .ok (.iload_n 2, 1) := by decide +kernel
theorem dX5_way_6 : decode cX5_way 6 = .ok (.iload_n 3, 1) := by decide +kernel
theorem dX5_way_7 : decode cX5_way 7 = .ok (.invokevirtual 53, 3) := by decide +kernel
theorem dX5_way_10 : decode cX5_way 10 = .ok (.ifCond .eq 16, 3) := by decide +kernel
theorem dX5_way_13 : decode cX5_way 13 = .ok (.aload_n 0, 1) := by decide +kernel
theorem dX5_way_14 : decode cX5_way 14 = .ok (.getfield 10, 3) := by decide +kernel
theorem dX5_way_17 : decode cX5_way 17 = .ok (.iload_n 1, 1) := by decide +kernel
theorem dX5_way_18 : decode cX5_way 18 = .ok (.iload_n 2, 1) := by decide +kernel
theorem dX5_way_19 : decode cX5_way 19 = .ok (.iload_n 3, 1) := by decide +kernel
theorem dX5_way_20 : decode cX5_way 20 = .ok (.invokevirtual 57, 3) := by decide +kernel
theorem dX5_way_23 : decode cX5_way 23 = .ok (.ifCond .eq 5, 3) := by decide +kernel
theorem dX5_way_26 : decode cX5_way 26 = .ok (.iconst 0, 1) := by decide +kernel
theorem dX5_way_27 : decode cX5_way 27 = .ok (.ireturn, 1) := by decide +kernel
theorem dX5_way_28 : decode cX5_way 28 = .ok (.aload_n 0, 1) := by decide +kernel
theorem dX5_way_29 : decode cX5_way 29 = .ok (.getfield 10, 3) := by decide +kernel
theorem dX5_way_32 : decode cX5_way 32 = .ok (.iload_n 1, 1) := by decide +kernel
theorem dX5_way_33 : decode cX5_way 33 = .ok (.iload_n 2, 1) := by decide +kernel
theorem dX5_way_34 : decode cX5_way 34 = .ok (.iload_n 3, 1) := by decide +kernel
theorem dX5_way_35 : decode cX5_way 35 = .ok (.invokevirtual 60, 3) := by decide +kernel
theorem dX5_way_38 : decode cX5_way 38 = .ok (.aload_n 0, 1) := by decide +kernel
theorem dX5_way_39 : decode cX5_way 39 = .ok (.invokevirtual 64, 3) := by decide +kernel
theorem dX5_way_42 : decode cX5_way 42 = .ok (.iconst 1, 1) := by decide +kernel
theorem dX5_way_43 : decode cX5_way 43 = .ok (.ireturn, 1) := by decide +kernel
def gm_X5_way (fu : Nat) (this : Nat) (p_0 : Int32) (p_1 : Int32) (p_2 : Int32) (X : gx_H) : Option (Int32 × gx_H) :=
  (gx_gd X this 5 0).bind fun a1 =>
  gx_ob X a1 4 <|
  gx_b2 (gm_X4_canBe fu a1 p_0 p_1 p_2 X) fun v4 X3 =>
  if v4 = 0 then (
  some ((0 : Int32), X3)) else (
  (gx_gd X3 this 5 0).bind fun a6 =>
  gx_ob X3 a6 4 <|
  gx_b2 (gm_X4_hasWay fu a6 p_0 p_1 p_2 X3) fun v9 X8 =>
  if v9 = 0 then (
  (gx_gd X8 this 5 0).bind fun a11 =>
  gx_ob X8 a11 4 <|
  (gm_X4_addWay fu a11 p_0 p_1 p_2 X8).bind fun X13 =>
  gx_ob X13 this 5 <|
  (gm_X5_noteChange fu this X13).bind fun X15 =>
  some ((1 : Int32), X15)) else (
  some ((0 : Int32), X8)))
set_option maxHeartbeats 1000000 in
set_option maxRecDepth 20000 in
theorem gc_X5_way {l : Launch} {D : gx_D} (fu : Nat) (this : Nat) (p_0 : Int32) (p_1 : Int32) (p_2 : Int32) (X : gx_H) (r : Int32) (X2 : gx_H) (h : gm_X5_way fu this p_0 p_1 p_2 X = some (r, X2)) : gx_M D gz_cl gz_at gz_tb gz_nb l yX5_way cX5_way 4 (some .boolean) 2 45 [gx_r (some this), gx_i p_0, gx_i p_1, gx_i p_2] X (some (gx_i r)) X2 0 0 := by
  unfold gm_X5_way at h
  refine gx_enter [some (gx_r (some this)), some (gx_i p_0), some (gx_i p_1), some (gx_i p_2)] rfl (by decide) (Nat.le_of_ble_eq_true rfl) ?_
  intro p e s m below meth c C _
  refine gx_aload_n C dX5_way_0 rfl rfl ?_
  obtain ⟨a1, ea1, h⟩ := gx_bd h
  refine gx_get C kcX5 0 (by decide) wl_95 (gx_gd_s ea1) dX5_way_1 ?_
  refine gx_iload_n C dX5_way_4 rfl rfl ?_
  refine gx_iload_n C dX5_way_5 rfl rfl ?_
  refine gx_iload_n C dX5_way_6 rfl rfl ?_
  obtain ⟨ho2, h⟩ := gx_obs h
  obtain ⟨v4, X3, eX3, h⟩ := gx_bd2 h
  refine gx_callV (As := [gx_i p_0, gx_i p_1, gx_i p_2]) (st := []) (stk2 := [gx_i v4]) C cd_X4_canBe wl_131 ws_X4_canBe wl_130 rfl ho2 (gc_X4_canBe fu a1 p_0 p_1 p_2 X v4 X3 eX3) rfl ⟨Nat.le_of_ble_eq_true rfl, Nat.le_of_ble_eq_true rfl⟩ ⟨Nat.le_of_ble_eq_true rfl, Nat.le_of_ble_eq_true rfl⟩ (Nat.le_of_ble_eq_true rfl) rfl rfl dX5_way_7 ?_
  refine gx_if_eq (tgt := 26) C dX5_way_10 (by decide) (fun q5 => ?_) (fun q5 => ?_)
  · rw [if_pos q5] at h
    refine gx_iconst (v := 0) C dX5_way_26 (by decide) ?_
    cases h
    exact gx_zret (Or.inl rfl) C dX5_way_27
  · rw [if_neg q5] at h
    refine gx_aload_n C dX5_way_13 rfl rfl ?_
    obtain ⟨a6, ea6, h⟩ := gx_bd h
    refine gx_get C kcX5 0 (by decide) wl_95 (gx_gd_s ea6) dX5_way_14 ?_
    refine gx_iload_n C dX5_way_17 rfl rfl ?_
    refine gx_iload_n C dX5_way_18 rfl rfl ?_
    refine gx_iload_n C dX5_way_19 rfl rfl ?_
    obtain ⟨ho7, h⟩ := gx_obs h
    obtain ⟨v9, X8, eX8, h⟩ := gx_bd2 h
    refine gx_callV (As := [gx_i p_0, gx_i p_1, gx_i p_2]) (st := []) (stk2 := [gx_i v9]) C cd_X4_hasWay wl_143 ws_X4_hasWay wl_142 rfl ho7 (gc_X4_hasWay fu a6 p_0 p_1 p_2 X3 v9 X8 eX8) rfl ⟨Nat.le_of_ble_eq_true rfl, Nat.le_of_ble_eq_true rfl⟩ ⟨Nat.le_of_ble_eq_true rfl, Nat.le_of_ble_eq_true rfl⟩ (Nat.le_of_ble_eq_true rfl) rfl rfl dX5_way_20 ?_
    refine gx_if_eq (tgt := 28) C dX5_way_23 (by decide) (fun q10 => ?_) (fun q10 => ?_)
    · rw [if_pos q10] at h
      refine gx_aload_n C dX5_way_28 rfl rfl ?_
      obtain ⟨a11, ea11, h⟩ := gx_bd h
      refine gx_get C kcX5 0 (by decide) wl_95 (gx_gd_s ea11) dX5_way_29 ?_
      refine gx_iload_n C dX5_way_32 rfl rfl ?_
      refine gx_iload_n C dX5_way_33 rfl rfl ?_
      refine gx_iload_n C dX5_way_34 rfl rfl ?_
      obtain ⟨ho12, h⟩ := gx_obs h
      obtain ⟨X13, eX13, h⟩ := gx_bd h
      refine gx_callV (As := [gx_i p_0, gx_i p_1, gx_i p_2]) (st := []) (stk2 := []) C cd_X4_addWay wl_154 ws_X4_addWay wl_153 rfl ho12 (gc_X4_addWay fu a11 p_0 p_1 p_2 X8 X13 eX13) rfl ⟨Nat.le_of_ble_eq_true rfl, Nat.le_of_ble_eq_true rfl⟩ ⟨Nat.le_of_ble_eq_true rfl, Nat.le_of_ble_eq_true rfl⟩ (Nat.le_of_ble_eq_true rfl) rfl rfl dX5_way_35 ?_
      refine gx_aload_n C dX5_way_38 rfl rfl ?_
      obtain ⟨ho14, h⟩ := gx_obs h
      obtain ⟨X15, eX15, h⟩ := gx_bd h
      refine gx_callV (As := []) (st := []) (stk2 := []) C cd_X5_noteChange wl_159 ws_X5_noteChange wl_157 rfl ho14 (gc_X5_noteChange fu this X13 X15 eX15) rfl ⟨Nat.le_of_ble_eq_true rfl, Nat.le_of_ble_eq_true rfl⟩ ⟨Nat.le_of_ble_eq_true rfl, Nat.le_of_ble_eq_true rfl⟩ (Nat.le_of_ble_eq_true rfl) rfl rfl dX5_way_39 ?_
      refine gx_iconst (v := 1) C dX5_way_42 (by decide) ?_
      cases h
      exact gx_zret (Or.inr rfl) C dX5_way_43
    · rw [if_neg q10] at h
      refine gx_iconst (v := 0) C dX5_way_26 (by decide) ?_
      cases h
      exact gx_zret (Or.inl rfl) C dX5_way_27
theorem dX6_change_0 : decode cX6_change 0 = .ok (.aload_n 0, 1) := by decide +kernel
theorem dX6_change_1 : decode cX6_change 1 = .ok (.iconst 0, 1) := by decide +kernel
theorem dX6_change_2 : decode cX6_change 2 = .ok (.putfield 65, 3) := by decide +kernel
theorem dX6_change_5 : decode cX6_change 5 = .ok (.aload_n 0, 1) := by decide +kernel
theorem dX6_change_6 : decode cX6_change 6 = .ok (.iconst 0, 1) := by decide +kernel
theorem dX6_change_7 : decode cX6_change 7 = .ok (.putfield 68, 3) := by decide +kernel
theorem dX6_change_10 : decode cX6_change 10 = .ok (.aload_n 0, 1) := by decide +kernel
theorem dX6_change_11 : decode cX6_change 11 = .ok (.getfield 46, 3) := by decide +kernel
theorem dX6_change_14 : decode cX6_change 14 = .ok (.iconst 0, 1) := by decide +kernel
theorem dX6_change_15 : decode cX6_change 15 = .ok (.iconst 0, 1) := by decide +kernel
theorem dX6_change_16 : decode cX6_change 16 = .ok (.bastore, 1) := by decide +kernel
theorem dX6_change_17 : decode cX6_change 17 = .ok (.aload_n 0, 1) := by decide +kernel
theorem dX6_change_18 : decode cX6_change 18 = .ok (.getfield 46, 3) := by decide +kernel
theorem dX6_change_21 : decode cX6_change 21 = .ok (.iconst 1, 1) := by decide +kernel
theorem dX6_change_22 : decode cX6_change 22 = .ok (.iconst 0, 1) := by decide +kernel
theorem dX6_change_23 : decode cX6_change 23 = .ok (.bastore, 1) := by decide +kernel
theorem dX6_change_24 : decode cX6_change 24 = .ok (.return_, 1) := by decide +kernel
def gm_X6_change (fu : Nat) (this : Nat) (X : gx_H) : Option gx_H :=
  (gx_pf X this 6 0 (.int (0 : Int32))).bind fun X1 =>
  (gx_pf X1 this 6 12 (.int (0 : Int32))).bind fun X2 =>
  (gx_gd X2 this 6 13).bind fun a3 =>
  (gx_pai X2 a3 2 (0 : Int32) (vp_nar .boolean (0 : Int32))).bind fun X4 =>
  (gx_gd X4 this 6 13).bind fun a5 =>
  (gx_pai X4 a5 2 (1 : Int32) (vp_nar .boolean (0 : Int32))).bind fun X6 =>
  some X6
set_option maxHeartbeats 1000000 in
set_option maxRecDepth 20000 in
theorem gc_X6_change {l : Launch} {D : gx_D} (fu : Nat) (this : Nat) (X : gx_H) (X2 : gx_H) (h : gm_X6_change fu this X = some X2) : gx_M D gz_cl gz_at gz_tb gz_nb l yX6_change cX6_change 1 none 0 0 [gx_r (some this)] X none X2 0 0 := by
  unfold gm_X6_change at h
  refine gx_enter [some (gx_r (some this))] rfl (by decide) (Nat.le_of_ble_eq_true rfl) ?_
  intro p e s m below meth c C _
  refine gx_aload_n C dX6_change_0 rfl rfl ?_
  refine gx_iconst (v := 0) C dX6_change_1 (by decide) ?_
  obtain ⟨X1, eX1, h⟩ := gx_bd h
  refine gx_put C kcX6 0 (by decide) rfl wl_497 ⟨rfl, rfl⟩ eX1 dX6_change_2 ?_
  refine gx_aload_n C dX6_change_5 rfl rfl ?_
  refine gx_iconst (v := 0) C dX6_change_6 (by decide) ?_
  obtain ⟨X2, eX2, h⟩ := gx_bd h
  refine gx_put C kcX6 12 (by decide) rfl wl_509 (gx_nz (Or.inl rfl)) eX2 dX6_change_7 ?_
  refine gx_aload_n C dX6_change_10 rfl rfl ?_
  obtain ⟨a3, ea3, h⟩ := gx_bd h
  refine gx_get C kcX6 13 (by decide) wl_510 (gx_gd_s ea3) dX6_change_11 ?_
  refine gx_iconst (v := 0) C dX6_change_14 (by decide) ?_
  refine gx_iconst (v := 0) C dX6_change_15 (by decide) ?_
  obtain ⟨X4, eX4, h⟩ := gx_bd h
  refine gx_zast C (t := 2) rfl eX4 dX6_change_16 ?_
  refine gx_aload_n C dX6_change_17 rfl rfl ?_
  obtain ⟨a5, ea5, h⟩ := gx_bd h
  refine gx_get C kcX6 13 (by decide) wl_510 (gx_gd_s ea5) dX6_change_18 ?_
  refine gx_iconst (v := 1) C dX6_change_21 (by decide) ?_
  refine gx_iconst (v := 0) C dX6_change_22 (by decide) ?_
  obtain ⟨X6, eX6, h⟩ := gx_bd h
  refine gx_zast C (t := 2) rfl eX6 dX6_change_23 ?_
  cases h
  exact gx_vret C dX6_change_24
