/-! methods: X6_led, X6_goOn -/
theorem dX6_led_0 : decode cX6_led 0 = .ok (.lconst 0, 1) := by decide +kernel
theorem dX6_led_1 : decode cX6_led 1 = .ok (.lstore 4, 2) := by decide +kernel
theorem dX6_led_3 : decode cX6_led 3 = .ok (.iconst 0, 1) := by decide +kernel
theorem dX6_led_4 : decode cX6_led 4 = .ok (.istore 6, 2) := by decide +kernel
theorem dX6_led_6 : decode cX6_led 6 = .ok (.iload 6, 2) := by decide +kernel
theorem dX6_led_8 : decode cX6_led 8 = .ok (.aload_n 0, 1) := by decide +kernel
theorem dX6_led_9 : decode cX6_led 9 = .ok (.getfield 7, 3) := by decide +kernel
theorem dX6_led_12 : decode cX6_led 12 = .ok (.if_icmp .ge 67, 3) := by decide +kernel
theorem dX6_led_15 : decode cX6_led 15 = .ok (.iconst 0, 1) := by decide +kernel
theorem dX6_led_16 : decode cX6_led 16 = .ok (.istore 7, 2) := by decide +kernel
theorem dX6_led_18 : decode cX6_led 18 = .ok (.iload 7, 2) := by decide +kernel
theorem dX6_led_20 : decode cX6_led 20 = .ok (.aload_n 0, 1) := by decide +kernel
theorem dX6_led_21 : decode cX6_led 21 = .ok (.getfield 7, 3) := by decide +kernel
theorem dX6_led_24 : decode cX6_led 24 = .ok (.if_icmp .ge 49, 3) := by decide +kernel
theorem dX6_led_27 : decode cX6_led 27 = .ok (.lload_n 1, 1) := by decide +kernel
theorem dX6_led_28 : decode cX6_led 28 = .ok (.iload 6, 2) := by decide +kernel
theorem dX6_led_30 : decode cX6_led 30 = .ok (.lshr, 1) := by decide +kernel
theorem dX6_led_31 : decode cX6_led 31 = .ok (.lconst 1, 1) := by decide +kernel
theorem dX6_led_32 : decode cX6_led 32 = .ok (.land, 1) := by decide +kernel
theorem dX6_led_33 : decode cX6_led 33 = .ok (.lconst 1, 1) := by decide +kernel
theorem dX6_led_34 : decode cX6_led 34 = .ok (.lcmp, 1) := by decide +kernel
theorem dX6_led_35 : decode cX6_led 35 = .ok (.ifCond .ne 38, 3) := by decide +kernel
theorem dX6_led_38 : decode cX6_led 38 = .ok (.lload 4, 2) := by decide +kernel
theorem dX6_led_40 : decode cX6_led 40 = .ok (.aload_n 0, 1) := by decide +kernel
theorem dX6_led_41 : decode cX6_led 41 = .ok (.getfield 14, 3) := by decide +kernel
theorem dX6_led_44 : decode cX6_led 44 = .ok (.iload_n 3, 1) := by decide +kernel
theorem dX6_led_45 : decode cX6_led 45 = .ok (.iload 6, 2) := by decide +kernel
theorem dX6_led_47 : decode cX6_led 47 = .ok (.iload 7, 2) := by decide +kernel
theorem dX6_led_49 : decode cX6_led 49 = .ok (.invokestatic 83, 3) := by decide +kernel
theorem dX6_led_52 : decode cX6_led 52 = .ok (.baload, 1) := by decide +kernel
theorem dX6_led_53 : decode cX6_led 53 = .ok (.ifCond .eq 10, 3) := by decide +kernel
theorem dX6_led_56 : decode cX6_led 56 = .ok (.lconst 1, 1) := by decide +kernel
theorem dX6_led_57 : decode cX6_led 57 = .ok (.iload 7, 2) := by decide +kernel
theorem dX6_led_59 : decode cX6_led 59 = .ok (.lshl, 1) := by decide +kernel
theorem dX6_led_60 : decode cX6_led 60 = .ok (.goto 4, 3) := by decide +kernel
theorem dX6_led_63 : decode cX6_led 63 = .ok (.lconst 0, 1) := by decide +kernel
theorem dX6_led_64 : decode cX6_led 64 = .ok (.lor, 1) := by decide +kernel
theorem dX6_led_65 : decode cX6_led 65 = .ok (.lstore 4, 2) := by decide +kernel
theorem dX6_led_67 : decode cX6_led 67 = .ok (.iinc 7 1, 3) := by decide +kernel
theorem dX6_led_70 : decode cX6_led 70 = .ok (.goto (-52), 3) := by decide +kernel
theorem dX6_led_73 : decode cX6_led 73 = .ok (.iinc 6 1, 3) := by decide +kernel
theorem dX6_led_76 : decode cX6_led 76 = .ok (.goto (-70), 3) := by decide +kernel
theorem dX6_led_79 : decode cX6_led 79 = .ok (.lload 4, 2) := by decide +kernel
theorem dX6_led_81 : decode cX6_led 81 = .ok (.lreturn, 1) := by decide +kernel
def gm_X6_led_64 (fu : Nat) (K6 : Nat → Int64 → Int32 → Int64 → Int32 → gx_H → Option (Int64 × gx_H)) (K18 : Nat → Int64 → Int32 → Int64 → Int32 → Int32 → gx_H → Option (Int64 × gx_H)) (a0 : Nat) (y1 : Int64) (x3 : Int32) (x6 : Int32) (x7 : Int32) (sy0 : Int64) (sy1 : Int64) (X : gx_H) : Option (Int64 × gx_H) :=
  K18 a0 y1 x3 (sy0 ||| sy1) x6 (x7 + 1) X
set_option maxHeartbeats 1000000 in
set_option maxRecDepth 20000 in
theorem gt_X6_led_64 {p : Program} {l : Launch} {e : Env} {s : State} {m : MethodId} {args : Array Value} {below : List Frame} {meth : Method} {c : Code} {D : gx_D} {r : Int64} {X2 : gx_H}  (C : gx_C D gz_cl gz_at gz_tb gz_nb p s m meth c cX6_led 8 RX6 (some .long)) (fu : Nat) (K6 : Nat → Int64 → Int32 → Int64 → Int32 → gx_H → Option (Int64 × gx_H)) (hK6 : ∀ (a0 : Nat) (y1 : Int64) (x3 : Int32) (y4 : Int64) (x6 : Int32) (X : gx_H), K6 a0 y1 x3 y4 x6 X = some (r, X2) → gx_W D gz_cl 8 p l e (gx_rm 1 22 0 0) s m args below meth c 0 0 (MQ below (gx_Q D gz_cl (some (gx_l r)) X2) args s 0 0 (gx_Z D)) X 6 [some (gx_r (some a0)), some (gx_l y1), none, some (gx_i x3), some (gx_l y4), none, some (gx_i x6), none] []) (K18 : Nat → Int64 → Int32 → Int64 → Int32 → Int32 → gx_H → Option (Int64 × gx_H)) (hK18 : ∀ (a0 : Nat) (y1 : Int64) (x3 : Int32) (y4 : Int64) (x6 : Int32) (x7 : Int32) (X : gx_H), K18 a0 y1 x3 y4 x6 x7 X = some (r, X2) → gx_W D gz_cl 8 p l e (gx_rm 1 22 0 0) s m args below meth c 0 0 (MQ below (gx_Q D gz_cl (some (gx_l r)) X2) args s 0 0 (gx_Z D)) X 18 [some (gx_r (some a0)), some (gx_l y1), none, some (gx_i x3), some (gx_l y4), none, some (gx_i x6), some (gx_i x7)] []) (a0 : Nat) (y1 : Int64) (x3 : Int32) (x6 : Int32) (x7 : Int32) (sy0 : Int64) (sy1 : Int64) (X : gx_H) (h : gm_X6_led_64 fu K6 K18 a0 y1 x3 x6 x7 sy0 sy1 X = some (r, X2)) : gx_W D gz_cl 8 p l e (gx_rm 1 22 0 0) s m args below meth c 0 0 (MQ below (gx_Q D gz_cl (some (gx_l r)) X2) args s 0 0 (gx_Z D)) X 64 [some (gx_r (some a0)), some (gx_l y1), none, some (gx_i x3), none, none, some (gx_i x6), some (gx_i x7)] [gx_l sy1, gx_l sy0] := by
  unfold gm_X6_led_64 at h
  refine gx_lor C dX6_led_64 ?_
  refine gx_lstore (lv2 := [some (gx_r (some a0)), some (gx_l y1), none, some (gx_i x3), some (gx_l (sy0 ||| sy1)), none, some (gx_i x6), some (gx_i x7)]) C dX6_led_65 (by decide) rfl ?_
  refine gx_iinc (v := (x7 + 1)) (lv2 := [some (gx_r (some a0)), some (gx_l y1), none, some (gx_i x3), some (gx_l (sy0 ||| sy1)), none, some (gx_i x6), some (gx_i (x7 + 1))]) C dX6_led_67 rfl rfl (by decide) rfl ?_
  refine gx_goto (tgt := 18) C dX6_led_70 (by decide) ?_
  exact hK18 a0 y1 x3 (sy0 ||| sy1) x6 (x7 + 1) X h
def gm_X6_led_73 (fu : Nat) (K6 : Nat → Int64 → Int32 → Int64 → Int32 → gx_H → Option (Int64 × gx_H)) (a0 : Nat) (y1 : Int64) (x3 : Int32) (y4 : Int64) (x6 : Int32) (X : gx_H) : Option (Int64 × gx_H) :=
  K6 a0 y1 x3 y4 (x6 + 1) X
set_option maxHeartbeats 1000000 in
set_option maxRecDepth 20000 in
theorem gt_X6_led_73 {p : Program} {l : Launch} {e : Env} {s : State} {m : MethodId} {args : Array Value} {below : List Frame} {meth : Method} {c : Code} {D : gx_D} {r : Int64} {X2 : gx_H}  (C : gx_C D gz_cl gz_at gz_tb gz_nb p s m meth c cX6_led 8 RX6 (some .long)) (fu : Nat) (K6 : Nat → Int64 → Int32 → Int64 → Int32 → gx_H → Option (Int64 × gx_H)) (hK6 : ∀ (a0 : Nat) (y1 : Int64) (x3 : Int32) (y4 : Int64) (x6 : Int32) (X : gx_H), K6 a0 y1 x3 y4 x6 X = some (r, X2) → gx_W D gz_cl 8 p l e (gx_rm 1 22 0 0) s m args below meth c 0 0 (MQ below (gx_Q D gz_cl (some (gx_l r)) X2) args s 0 0 (gx_Z D)) X 6 [some (gx_r (some a0)), some (gx_l y1), none, some (gx_i x3), some (gx_l y4), none, some (gx_i x6), none] []) (a0 : Nat) (y1 : Int64) (x3 : Int32) (y4 : Int64) (x6 : Int32) (X : gx_H) (h : gm_X6_led_73 fu K6 a0 y1 x3 y4 x6 X = some (r, X2)) : gx_W D gz_cl 8 p l e (gx_rm 1 22 0 0) s m args below meth c 0 0 (MQ below (gx_Q D gz_cl (some (gx_l r)) X2) args s 0 0 (gx_Z D)) X 73 [some (gx_r (some a0)), some (gx_l y1), none, some (gx_i x3), some (gx_l y4), none, some (gx_i x6), none] [] := by
  unfold gm_X6_led_73 at h
  refine gx_iinc (v := (x6 + 1)) (lv2 := [some (gx_r (some a0)), some (gx_l y1), none, some (gx_i x3), some (gx_l y4), none, some (gx_i (x6 + 1)), none]) C dX6_led_73 rfl rfl (by decide) rfl ?_
  refine gx_goto (tgt := 6) C dX6_led_76 (by decide) ?_
  exact hK6 a0 y1 x3 y4 (x6 + 1) X h
def gm_X6_led_18 (fu : Nat) (K6 : Nat → Int64 → Int32 → Int64 → Int32 → gx_H → Option (Int64 × gx_H)) : Nat → Nat → Int64 → Int32 → Int64 → Int32 → Int32 → gx_H → Option (Int64 × gx_H)
  | 0, _, _, _, _, _, _, _ => none
  | n + 1, a0, y1, x3, y4, x6, x7, X =>
    (gx_gi X a0 6 1).bind fun vz1 =>
    if vz1 ≤ x7 then (
    gm_X6_led_73 fu K6 a0 y1 x3 y4 x6 X) else (
    if (lg_cmp ((y1 >>> (x6.toInt64 &&& 63)) &&& (1 : Int64)) (1 : Int64)) = 0 then (
    (gx_gd X a0 6 2).bind fun az4 =>
    gx_b2 (gm_X6_wayAt fu x3 x6 x7 X) fun vz6 Xz5 =>
    (gx_gai Xz5 az4 2 vz6).bind fun vz7 =>
    if vz7 = 0 then (
    gm_X6_led_64 fu K6 (gm_X6_led_18 fu K6 n) a0 y1 x3 x6 x7 y4 (0 : Int64) Xz5) else (
    gm_X6_led_64 fu K6 (gm_X6_led_18 fu K6 n) a0 y1 x3 x6 x7 y4 ((1 : Int64) <<< (x7.toInt64 &&& 63)) Xz5)) else (
    gm_X6_led_73 fu K6 a0 y1 x3 y4 x6 X))
set_option maxHeartbeats 1000000 in
set_option maxRecDepth 20000 in
theorem gt_X6_led_18 {p : Program} {l : Launch} {e : Env} {s : State} {m : MethodId} {args : Array Value} {below : List Frame} {meth : Method} {c : Code} {D : gx_D} {r : Int64} {X2 : gx_H}  (C : gx_C D gz_cl gz_at gz_tb gz_nb p s m meth c cX6_led 8 RX6 (some .long)) (fu : Nat) (K6 : Nat → Int64 → Int32 → Int64 → Int32 → gx_H → Option (Int64 × gx_H)) (hK6 : ∀ (a0 : Nat) (y1 : Int64) (x3 : Int32) (y4 : Int64) (x6 : Int32) (X : gx_H), K6 a0 y1 x3 y4 x6 X = some (r, X2) → gx_W D gz_cl 8 p l e (gx_rm 1 22 0 0) s m args below meth c 0 0 (MQ below (gx_Q D gz_cl (some (gx_l r)) X2) args s 0 0 (gx_Z D)) X 6 [some (gx_r (some a0)), some (gx_l y1), none, some (gx_i x3), some (gx_l y4), none, some (gx_i x6), none] []) : ∀ (n : Nat) (a0 : Nat) (y1 : Int64) (x3 : Int32) (y4 : Int64) (x6 : Int32) (x7 : Int32) (X : gx_H) , gm_X6_led_18 fu K6 n a0 y1 x3 y4 x6 x7 X = some (r, X2) → gx_W D gz_cl 8 p l e (gx_rm 1 22 0 0) s m args below meth c 0 0 (MQ below (gx_Q D gz_cl (some (gx_l r)) X2) args s 0 0 (gx_Z D)) X 18 [some (gx_r (some a0)), some (gx_l y1), none, some (gx_i x3), some (gx_l y4), none, some (gx_i x6), some (gx_i x7)] [] := by
  intro n
  induction n with
  | zero =>
    intro a0 y1 x3 y4 x6 x7 X h
    have h : none = some _ := h
    cases h
  | succ n ih =>
    intro a0 y1 x3 y4 x6 x7 X h
    rw [gm_X6_led_18] at h
    refine gx_iload C dX6_led_18 rfl ?_
    refine gx_aload_n C dX6_led_20 rfl rfl ?_
    obtain ⟨vz1, evz1, h⟩ := gx_bd h
    refine gx_get C kcX6 1 (by decide) wl_498 (gx_gi_s evz1) dX6_led_21 ?_
    refine gx_icmp_ge (tgt := 73) C dX6_led_24 (by decide) (fun qz2 => ?_) (fun qz2 => ?_)
    · rw [if_pos qz2] at h
      refine gx_sub (lv2 := [some (gx_r (some a0)), some (gx_l y1), none, some (gx_i x3), some (gx_l y4), none, some (gx_i x6), none]) [true, true, false, true, true, false, true, false] rfl ?_
      exact gt_X6_led_73 C fu K6 hK6 a0 y1 x3 y4 x6 X h
    · rw [if_neg qz2] at h
      refine gx_lload_n C dX6_led_27 rfl rfl ?_
      refine gx_iload C dX6_led_28 rfl ?_
      refine gx_lshr C dX6_led_30 ?_
      refine gx_lconst (v := 1) C dX6_led_31 (by decide) ?_
      refine gx_land C dX6_led_32 ?_
      refine gx_lconst (v := 1) C dX6_led_33 (by decide) ?_
      refine gx_lcmp C dX6_led_34 ?_
      refine gx_if_ne (tgt := 73) C dX6_led_35 (by decide) (fun qz3 => ?_) (fun qz3 => ?_)
      · rw [if_neg qz3] at h
        refine gx_sub (lv2 := [some (gx_r (some a0)), some (gx_l y1), none, some (gx_i x3), some (gx_l y4), none, some (gx_i x6), none]) [true, true, false, true, true, false, true, false] rfl ?_
        exact gt_X6_led_73 C fu K6 hK6 a0 y1 x3 y4 x6 X h
      · rw [if_pos qz3] at h
        refine gx_lload C dX6_led_38 rfl ?_
        refine gx_aload_n C dX6_led_40 rfl rfl ?_
        obtain ⟨az4, eaz4, h⟩ := gx_bd h
        refine gx_get C kcX6 2 (by decide) wl_499 (gx_gd_s eaz4) dX6_led_41 ?_
        refine gx_iload_n C dX6_led_44 rfl rfl ?_
        refine gx_iload C dX6_led_45 rfl ?_
        refine gx_iload C dX6_led_47 rfl ?_
        obtain ⟨vz6, Xz5, eXz5, h⟩ := gx_bd2 h
        refine gx_callS (As := [gx_i x3, gx_i x6, gx_i x7]) (st := [gx_r (some az4), gx_l y4]) (stk2 := [gx_i vz6, gx_r (some az4), gx_l y4]) C cd_X6_wayAt wl_579 wl_578 (gc_X6_wayAt fu x3 x6 x7 X vz6 Xz5 eXz5) rfl ⟨Nat.le_of_ble_eq_true rfl, Nat.le_of_ble_eq_true rfl⟩ ⟨Nat.le_of_ble_eq_true rfl, Nat.le_of_ble_eq_true rfl⟩ (Nat.le_of_ble_eq_true rfl) rfl rfl dX6_led_49 ?_
        obtain ⟨vz7, evz7, h⟩ := gx_bd h
        refine gx_zald C (t := 2) rfl evz7 dX6_led_52 ?_
        refine gx_if_eq (tgt := 63) C dX6_led_53 (by decide) (fun qz8 => ?_) (fun qz8 => ?_)
        · rw [if_pos qz8] at h
          refine gx_lconst (v := 0) C dX6_led_63 (by decide) ?_
          refine gx_sub (lv2 := [some (gx_r (some a0)), some (gx_l y1), none, some (gx_i x3), none, none, some (gx_i x6), some (gx_i x7)]) [true, true, false, true, false, false, true, true] rfl ?_
          exact gt_X6_led_64 C fu K6 hK6 (gm_X6_led_18 fu K6 n) ih a0 y1 x3 x6 x7 y4 (0 : Int64) Xz5 h
        · rw [if_neg qz8] at h
          refine gx_lconst (v := 1) C dX6_led_56 (by decide) ?_
          refine gx_iload C dX6_led_57 rfl ?_
          refine gx_lshl C dX6_led_59 ?_
          refine gx_goto (tgt := 64) C dX6_led_60 (by decide) ?_
          refine gx_sub (lv2 := [some (gx_r (some a0)), some (gx_l y1), none, some (gx_i x3), none, none, some (gx_i x6), some (gx_i x7)]) [true, true, false, true, false, false, true, true] rfl ?_
          exact gt_X6_led_64 C fu K6 hK6 (gm_X6_led_18 fu K6 n) ih a0 y1 x3 x6 x7 y4 ((1 : Int64) <<< (x7.toInt64 &&& 63)) Xz5 h
def gm_X6_led_6 (fu : Nat) : Nat → Nat → Int64 → Int32 → Int64 → Int32 → gx_H → Option (Int64 × gx_H)
  | 0, _, _, _, _, _, _ => none
  | n + 1, a0, y1, x3, y4, x6, X =>
    (gx_gi X a0 6 1).bind fun vz9 =>
    if vz9 ≤ x6 then (
    some (y4, X)) else (
    gm_X6_led_18 fu (gm_X6_led_6 fu  n) fu a0 y1 x3 y4 x6 (0 : Int32) X)
set_option maxHeartbeats 1000000 in
set_option maxRecDepth 20000 in
theorem gt_X6_led_6 {p : Program} {l : Launch} {e : Env} {s : State} {m : MethodId} {args : Array Value} {below : List Frame} {meth : Method} {c : Code} {D : gx_D} {r : Int64} {X2 : gx_H}  (C : gx_C D gz_cl gz_at gz_tb gz_nb p s m meth c cX6_led 8 RX6 (some .long)) (fu : Nat) : ∀ (n : Nat) (a0 : Nat) (y1 : Int64) (x3 : Int32) (y4 : Int64) (x6 : Int32) (X : gx_H) , gm_X6_led_6 fu  n a0 y1 x3 y4 x6 X = some (r, X2) → gx_W D gz_cl 8 p l e (gx_rm 1 22 0 0) s m args below meth c 0 0 (MQ below (gx_Q D gz_cl (some (gx_l r)) X2) args s 0 0 (gx_Z D)) X 6 [some (gx_r (some a0)), some (gx_l y1), none, some (gx_i x3), some (gx_l y4), none, some (gx_i x6), none] [] := by
  intro n
  induction n with
  | zero =>
    intro a0 y1 x3 y4 x6 X h
    have h : none = some _ := h
    cases h
  | succ n ih =>
    intro a0 y1 x3 y4 x6 X h
    rw [gm_X6_led_6] at h
    refine gx_iload C dX6_led_6 rfl ?_
    refine gx_aload_n C dX6_led_8 rfl rfl ?_
    obtain ⟨vz9, evz9, h⟩ := gx_bd h
    refine gx_get C kcX6 1 (by decide) wl_498 (gx_gi_s evz9) dX6_led_9 ?_
    refine gx_icmp_ge (tgt := 79) C dX6_led_12 (by decide) (fun qz10 => ?_) (fun qz10 => ?_)
    · rw [if_pos qz10] at h
      refine gx_lload C dX6_led_79 rfl ?_
      cases h
      exact gx_lret C dX6_led_81
    · rw [if_neg qz10] at h
      refine gx_iconst (v := 0) C dX6_led_15 (by decide) ?_
      refine gx_istore (lv2 := [some (gx_r (some a0)), some (gx_l y1), none, some (gx_i x3), some (gx_l y4), none, some (gx_i x6), some (gx_i (0 : Int32))]) C dX6_led_16 (by decide) rfl ?_
      exact gt_X6_led_18 C fu (gm_X6_led_6 fu  n) ih fu a0 y1 x3 y4 x6 (0 : Int32) X h
def gm_X6_led (fu : Nat) (this : Nat) (l_0 : Int64) (p_1 : Int32) (X : gx_H) : Option (Int64 × gx_H) :=
  gm_X6_led_6 fu  fu this l_0 p_1 (0 : Int64) (0 : Int32) X
set_option maxHeartbeats 1000000 in
set_option maxRecDepth 20000 in
theorem gc_X6_led {l : Launch} {D : gx_D} (fu : Nat) (this : Nat) (l_0 : Int64) (p_1 : Int32) (X : gx_H) (r : Int64) (X2 : gx_H) (h : gm_X6_led fu this l_0 p_1 X = some (r, X2)) : gx_M D gz_cl gz_at gz_tb gz_nb l yX6_led cX6_led 8 (some .long) 1 22 [gx_r (some this), gx_l l_0, gx_i p_1] X (some (gx_l r)) X2 0 0 := by
  unfold gm_X6_led at h
  refine gx_enter [some (gx_r (some this)), some (gx_l l_0), none, some (gx_i p_1), none, none, none, none] rfl (by decide) (Nat.le_of_ble_eq_true rfl) ?_
  intro p e s m below meth c C _
  refine gx_lconst (v := 0) C dX6_led_0 (by decide) ?_
  refine gx_lstore (lv2 := [some (gx_r (some this)), some (gx_l l_0), none, some (gx_i p_1), some (gx_l (0 : Int64)), none, none, none]) C dX6_led_1 (by decide) rfl ?_
  refine gx_iconst (v := 0) C dX6_led_3 (by decide) ?_
  refine gx_istore (lv2 := [some (gx_r (some this)), some (gx_l l_0), none, some (gx_i p_1), some (gx_l (0 : Int64)), none, some (gx_i (0 : Int32)), none]) C dX6_led_4 (by decide) rfl ?_
  exact gt_X6_led_6 C fu  fu this l_0 p_1 (0 : Int64) (0 : Int32) X h
theorem dX6_goOn_0 : decode cX6_goOn 0 = .ok (.bipush 8, 2) := by decide +kernel
theorem dX6_goOn_2 : decode cX6_goOn 2 = .ok (.iload_n 1, 1) := by decide +kernel
theorem dX6_goOn_3 : decode cX6_goOn 3 = .ok (.imul, 1) := by decide +kernel
theorem dX6_goOn_4 : decode cX6_goOn 4 = .ok (.iload_n 2, 1) := by decide +kernel
theorem dX6_goOn_5 : decode cX6_goOn 5 = .ok (.iadd, 1) := by decide +kernel
theorem dX6_goOn_6 : decode cX6_goOn 6 = .ok (.istore 4, 2) := by decide +kernel
theorem dX6_goOn_8 : decode cX6_goOn 8 = .ok (.sipush 1600, 3) := by decide +kernel
theorem dX6_goOn_11 : decode cX6_goOn 11 = .ok (.iload_n 1, 1) := by decide +kernel
theorem dX6_goOn_12 : decode cX6_goOn 12 = .ok (.imul, 1) := by decide +kernel
theorem dX6_goOn_13 : decode cX6_goOn 13 = .ok (.sipush 200, 3) := by decide +kernel
theorem dX6_goOn_16 : decode cX6_goOn 16 = .ok (.iload_n 2, 1) := by decide +kernel
theorem dX6_goOn_17 : decode cX6_goOn 17 = .ok (.imul, 1) := by decide +kernel
theorem dX6_goOn_18 : decode cX6_goOn 18 = .ok (.iadd, 1) := by decide +kernel
theorem dX6_goOn_19 : decode cX6_goOn 19 = .ok (.istore 5, 2) := by decide +kernel
theorem dX6_goOn_21 : decode cX6_goOn 21 = .ok (.aload_n 0, 1) := by decide +kernel
theorem dX6_goOn_22 : decode cX6_goOn 22 = .ok (.getfield 31, 3) := by decide +kernel
theorem dX6_goOn_25 : decode cX6_goOn 25 = .ok (.iload 5, 2) := by decide +kernel
theorem dX6_goOn_27 : decode cX6_goOn 27 = .ok (.iload_n 3, 1) := by decide +kernel
theorem dX6_goOn_28 : decode cX6_goOn 28 = .ok (.iadd, 1) := by decide +kernel
theorem dX6_goOn_29 : decode cX6_goOn 29 = .ok (.iaload, 1) := by decide +kernel
theorem dX6_goOn_30 : decode cX6_goOn 30 = .ok (.istore 6, 2) := by decide +kernel
theorem dX6_goOn_32 : decode cX6_goOn 32 = .ok (.aload_n 0, 1) := by decide +kernel
theorem dX6_goOn_33 : decode cX6_goOn 33 = .ok (.getfield 34, 3) := by decide +kernel
theorem dX6_goOn_36 : decode cX6_goOn 36 = .ok (.iload 5, 2) := by decide +kernel
theorem dX6_goOn_38 : decode cX6_goOn 38 = .ok (.iload_n 3, 1) := by decide +kernel
theorem dX6_goOn_39 : decode cX6_goOn 39 = .ok (.iadd, 1) := by decide +kernel
theorem dX6_goOn_40 : decode cX6_goOn 40 = .ok (.iaload, 1) := by decide +kernel
theorem dX6_goOn_41 : decode cX6_goOn 41 = .ok (.istore 7, 2) := by decide +kernel
theorem dX6_goOn_43 : decode cX6_goOn 43 = .ok (.aload_n 0, 1) := by decide +kernel
theorem dX6_goOn_44 : decode cX6_goOn 44 = .ok (.getfield 49, 3) := by decide +kernel
theorem dX6_goOn_47 : decode cX6_goOn 47 = .ok (.iload 5, 2) := by decide +kernel
theorem dX6_goOn_49 : decode cX6_goOn 49 = .ok (.iload_n 3, 1) := by decide +kernel
theorem dX6_goOn_50 : decode cX6_goOn 50 = .ok (.iadd, 1) := by decide +kernel
theorem dX6_goOn_51 : decode cX6_goOn 51 = .ok (.laload, 1) := by decide +kernel
theorem dX6_goOn_52 : decode cX6_goOn 52 = .ok (.lstore 8, 2) := by decide +kernel
theorem dX6_goOn_54 : decode cX6_goOn 54 = .ok (.iload 6, 2) := by decide +kernel
theorem dX6_goOn_56 : decode cX6_goOn 56 = .ok (.iconst 3, 1) := by decide +kernel
theorem dX6_goOn_57 : decode cX6_goOn 57 = .ok (.if_icmp .ne 25, 3) := by decide +kernel
theorem dX6_goOn_60 : decode cX6_goOn 60 = .ok (.iload 7, 2) := by decide +kernel
theorem dX6_goOn_62 : decode cX6_goOn 62 = .ok (.aload_n 0, 1) := by decide +kernel
theorem dX6_goOn_63 : decode cX6_goOn 63 = .ok (.getfield 21, 3) := by decide +kernel
theorem dX6_goOn_66 : decode cX6_goOn 66 = .ok (.iload_n 1, 1) := by decide +kernel
theorem dX6_goOn_67 : decode cX6_goOn 67 = .ok (.iaload, 1) := by decide +kernel
theorem dX6_goOn_68 : decode cX6_goOn 68 = .ok (.if_icmp .ge 14, 3) := by decide +kernel
theorem dX6_goOn_71 : decode cX6_goOn 71 = .ok (.lload 8, 2) := by decide +kernel
theorem dX6_goOn_73 : decode cX6_goOn 73 = .ok (.lconst 0, 1) := by decide +kernel
theorem dX6_goOn_74 : decode cX6_goOn 74 = .ok (.lcmp, 1) := by decide +kernel
theorem dX6_goOn_75 : decode cX6_goOn 75 = .ok (.ifCond .eq 7, 3) := by decide +kernel
theorem dX6_goOn_78 : decode cX6_goOn 78 = .ok (.iconst 1, 1) := by decide +kernel
theorem dX6_goOn_79 : decode cX6_goOn 79 = .ok (.goto 4, 3) := by decide +kernel
theorem dX6_goOn_82 : decode cX6_goOn 82 = .ok (.iconst 0, 1) := by decide +kernel
theorem dX6_goOn_83 : decode cX6_goOn 83 = .ok (.istore 10, 2) := by decide +kernel
theorem dX6_goOn_85 : decode cX6_goOn 85 = .ok (.lload 8, 2) := by decide +kernel
theorem dX6_goOn_87 : decode cX6_goOn 87 = .ok (.lstore 11, 2) := by decide +kernel
theorem dX6_goOn_89 : decode cX6_goOn 89 = .ok (.iload 6, 2) := by decide +kernel
theorem dX6_goOn_91 : decode cX6_goOn 91 = .ok (.iconst 3, 1) := by decide +kernel
theorem dX6_goOn_92 : decode cX6_goOn 92 = .ok (.if_icmp .ne 29, 3) := by decide +kernel
theorem dX6_goOn_95 : decode cX6_goOn 95 = .ok (.iload 10, 2) := by decide +kernel
theorem dX6_goOn_97 : decode cX6_goOn 97 = .ok (.ifCond .eq 18, 3) := by decide +kernel
theorem dX6_goOn_100 : decode cX6_goOn 100 = .ok (.aload_n 0, 1) := by decide +kernel
theorem dX6_goOn_101 : decode cX6_goOn 101 = .ok (.getfield 56, 3) := by decide +kernel
theorem dX6_goOn_104 : decode cX6_goOn 104 = .ok (.bipush 8, 2) := by decide +kernel
theorem dX6_goOn_106 : decode cX6_goOn 106 = .ok (.iload_n 1, 1) := by decide +kernel
theorem dX6_goOn_107 : decode cX6_goOn 107 = .ok (.imul, 1) := by decide +kernel
theorem dX6_goOn_108 : decode cX6_goOn 108 = .ok (.iload 7, 2) := by decide +kernel
theorem dX6_goOn_110 : decode cX6_goOn 110 = .ok (.iadd, 1) := by decide +kernel
theorem dX6_goOn_111 : decode cX6_goOn 111 = .ok (.laload, 1) := by decide +kernel
theorem dX6_goOn_112 : decode cX6_goOn 112 = .ok (.goto 4, 3) := by decide +kernel
theorem dX6_goOn_115 : decode cX6_goOn 115 = .ok (.lconst 0, 1) := by decide +kernel
theorem dX6_goOn_116 : decode cX6_goOn 116 = .ok (.lstore 11, 2) := by decide +kernel
theorem dX6_goOn_118 : decode cX6_goOn 118 = .ok (.goto 35, 3) := by decide +kernel
theorem dX6_goOn_121 : decode cX6_goOn 121 = .ok (.iload 6, 2) := by decide +kernel
theorem dX6_goOn_123 : decode cX6_goOn 123 = .ok (.iconst 5, 1) := by decide +kernel
theorem dX6_goOn_124 : decode cX6_goOn 124 = .ok (.if_icmp .eq 19, 3) := by decide +kernel
theorem dX6_goOn_127 : decode cX6_goOn 127 = .ok (.iload 6, 2) := by decide +kernel
theorem dX6_goOn_129 : decode cX6_goOn 129 = .ok (.iconst 4, 1) := by decide +kernel
theorem dX6_goOn_130 : decode cX6_goOn 130 = .ok (.if_icmp .ne 23, 3) := by decide +kernel
theorem dX6_goOn_133 : decode cX6_goOn 133 = .ok (.aload_n 0, 1) := by decide +kernel
theorem dX6_goOn_134 : decode cX6_goOn 134 = .ok (.iload_n 1, 1) := by decide +kernel
theorem dX6_goOn_135 : decode cX6_goOn 135 = .ok (.iload_n 2, 1) := by decide +kernel
theorem dX6_goOn_136 : decode cX6_goOn 136 = .ok (.iload_n 3, 1) := by decide +kernel
theorem dX6_goOn_137 : decode cX6_goOn 137 = .ok (.invokevirtual 100, 3) := by decide +kernel
theorem dX6_goOn_140 : decode cX6_goOn 140 = .ok (.ifCond .ne 13, 3) := by decide +kernel
theorem dX6_goOn_143 : decode cX6_goOn 143 = .ok (.aload_n 0, 1) := by decide +kernel
theorem dX6_goOn_144 : decode cX6_goOn 144 = .ok (.lload 8, 2) := by decide +kernel
theorem dX6_goOn_146 : decode cX6_goOn 146 = .ok (.iload 7, 2) := by decide +kernel
theorem dX6_goOn_148 : decode cX6_goOn 148 = .ok (.invokevirtual 103, 3) := by decide +kernel
theorem dX6_goOn_151 : decode cX6_goOn 151 = .ok (.lstore 11, 2) := by decide +kernel
theorem dX6_goOn_153 : decode cX6_goOn 153 = .ok (.aload_n 0, 1) := by decide +kernel
theorem dX6_goOn_154 : decode cX6_goOn 154 = .ok (.aload_n 0, 1) := by decide +kernel
theorem dX6_goOn_155 : decode cX6_goOn 155 = .ok (.getfield 59, 3) := by decide +kernel
theorem dX6_goOn_158 : decode cX6_goOn 158 = .ok (.iload 4, 2) := by decide +kernel
theorem dX6_goOn_160 : decode cX6_goOn 160 = .ok (.lload 8, 2) := by decide +kernel
theorem dX6_goOn_162 : decode cX6_goOn 162 = .ok (.lload 11, 2) := by decide +kernel
theorem dX6_goOn_164 : decode cX6_goOn 164 = .ok (.lor, 1) := by decide +kernel
theorem dX6_goOn_165 : decode cX6_goOn 165 = .ok (.invokevirtual 107, 3) := by decide +kernel
theorem dX6_goOn_168 : decode cX6_goOn 168 = .ok (.iload 10, 2) := by decide +kernel
theorem dX6_goOn_170 : decode cX6_goOn 170 = .ok (.ifCond .eq 42, 3) := by decide +kernel
theorem dX6_goOn_173 : decode cX6_goOn 173 = .ok (.aload_n 0, 1) := by decide +kernel
theorem dX6_goOn_174 : decode cX6_goOn 174 = .ok (.aload_n 0, 1) := by decide +kernel
theorem dX6_goOn_175 : decode cX6_goOn 175 = .ok (.getfield 53, 3) := by decide +kernel
theorem dX6_goOn_178 : decode cX6_goOn 178 = .ok (.bipush 8, 2) := by decide +kernel
theorem dX6_goOn_180 : decode cX6_goOn 180 = .ok (.iload_n 1, 1) := by decide +kernel
theorem dX6_goOn_181 : decode cX6_goOn 181 = .ok (.imul, 1) := by decide +kernel
theorem dX6_goOn_182 : decode cX6_goOn 182 = .ok (.iload 7, 2) := by decide +kernel
theorem dX6_goOn_184 : decode cX6_goOn 184 = .ok (.iadd, 1) := by decide +kernel
theorem dX6_goOn_185 : decode cX6_goOn 185 = .ok (.lload 8, 2) := by decide +kernel
theorem dX6_goOn_187 : decode cX6_goOn 187 = .ok (.invokevirtual 107, 3) := by decide +kernel
theorem dX6_goOn_190 : decode cX6_goOn 190 = .ok (.aload_n 0, 1) := by decide +kernel
theorem dX6_goOn_191 : decode cX6_goOn 191 = .ok (.aload_n 0, 1) := by decide +kernel
theorem dX6_goOn_192 : decode cX6_goOn 192 = .ok (.getfield 59, 3) := by decide +kernel
theorem dX6_goOn_195 : decode cX6_goOn 195 = .ok (.iload 4, 2) := by decide +kernel
theorem dX6_goOn_197 : decode cX6_goOn 197 = .ok (.aload_n 0, 1) := by decide +kernel
theorem dX6_goOn_198 : decode cX6_goOn 198 = .ok (.getfield 59, 3) := by decide +kernel
theorem dX6_goOn_201 : decode cX6_goOn 201 = .ok (.bipush 8, 2) := by decide +kernel
theorem dX6_goOn_203 : decode cX6_goOn 203 = .ok (.iload_n 1, 1) := by decide +kernel
theorem dX6_goOn_204 : decode cX6_goOn 204 = .ok (.imul, 1) := by decide +kernel
theorem dX6_goOn_205 : decode cX6_goOn 205 = .ok (.iload 7, 2) := by decide +kernel
theorem dX6_goOn_207 : decode cX6_goOn 207 = .ok (.iadd, 1) := by decide +kernel
theorem dX6_goOn_208 : decode cX6_goOn 208 = .ok (.laload, 1) := by decide +kernel
theorem dX6_goOn_209 : decode cX6_goOn 209 = .ok (.invokevirtual 107, 3) := by decide +kernel
theorem dX6_goOn_212 : decode cX6_goOn 212 = .ok (.iload 6, 2) := by decide +kernel
theorem dX6_goOn_214 : decode cX6_goOn 214 = .ok (.bipush 6, 2) := by decide +kernel
theorem dX6_goOn_216 : decode cX6_goOn 216 = .ok (.if_icmp .ne 15, 3) := by decide +kernel
theorem dX6_goOn_219 : decode cX6_goOn 219 = .ok (.aload_n 0, 1) := by decide +kernel
theorem dX6_goOn_220 : decode cX6_goOn 220 = .ok (.aload_n 0, 1) := by decide +kernel
theorem dX6_goOn_221 : decode cX6_goOn 221 = .ok (.getfield 56, 3) := by decide +kernel
theorem dX6_goOn_224 : decode cX6_goOn 224 = .ok (.iload 4, 2) := by decide +kernel
theorem dX6_goOn_226 : decode cX6_goOn 226 = .ok (.lload 8, 2) := by decide +kernel
theorem dX6_goOn_228 : decode cX6_goOn 228 = .ok (.invokevirtual 107, 3) := by decide +kernel
theorem dX6_goOn_231 : decode cX6_goOn 231 = .ok (.iload 6, 2) := by decide +kernel
theorem dX6_goOn_233 : decode cX6_goOn 233 = .ok (.iconst 1, 1) := by decide +kernel
theorem dX6_goOn_234 : decode cX6_goOn 234 = .ok (.if_icmp .eq 9, 3) := by decide +kernel
theorem dX6_goOn_237 : decode cX6_goOn 237 = .ok (.iload 6, 2) := by decide +kernel
theorem dX6_goOn_239 : decode cX6_goOn 239 = .ok (.iconst 2, 1) := by decide +kernel
theorem dX6_goOn_240 : decode cX6_goOn 240 = .ok (.if_icmp .ne 18, 3) := by decide +kernel
theorem dX6_goOn_243 : decode cX6_goOn 243 = .ok (.aload_n 0, 1) := by decide +kernel
theorem dX6_goOn_244 : decode cX6_goOn 244 = .ok (.aload_n 0, 1) := by decide +kernel
theorem dX6_goOn_245 : decode cX6_goOn 245 = .ok (.getfield 49, 3) := by decide +kernel
theorem dX6_goOn_248 : decode cX6_goOn 248 = .ok (.iload 5, 2) := by decide +kernel
theorem dX6_goOn_250 : decode cX6_goOn 250 = .ok (.iload 7, 2) := by decide +kernel
theorem dX6_goOn_252 : decode cX6_goOn 252 = .ok (.iadd, 1) := by decide +kernel
theorem dX6_goOn_253 : decode cX6_goOn 253 = .ok (.lload 11, 2) := by decide +kernel
theorem dX6_goOn_255 : decode cX6_goOn 255 = .ok (.invokevirtual 107, 3) := by decide +kernel
theorem dX6_goOn_258 : decode cX6_goOn 258 = .ok (.iload 6, 2) := by decide +kernel
theorem dX6_goOn_260 : decode cX6_goOn 260 = .ok (.iconst 1, 1) := by decide +kernel
theorem dX6_goOn_261 : decode cX6_goOn 261 = .ok (.if_icmp .eq 46, 3) := by decide +kernel
theorem dX6_goOn_264 : decode cX6_goOn 264 = .ok (.iload 6, 2) := by decide +kernel
theorem dX6_goOn_266 : decode cX6_goOn 266 = .ok (.bipush 6, 2) := by decide +kernel
theorem dX6_goOn_268 : decode cX6_goOn 268 = .ok (.if_icmp .eq 39, 3) := by decide +kernel
theorem dX6_goOn_271 : decode cX6_goOn 271 = .ok (.iload 6, 2) := by decide +kernel
theorem dX6_goOn_273 : decode cX6_goOn 273 = .ok (.bipush 7, 2) := by decide +kernel
theorem dX6_goOn_275 : decode cX6_goOn 275 = .ok (.if_icmp .eq 32, 3) := by decide +kernel
theorem dX6_goOn_278 : decode cX6_goOn 278 = .ok (.iload_n 3, 1) := by decide +kernel
theorem dX6_goOn_279 : decode cX6_goOn 279 = .ok (.iconst 1, 1) := by decide +kernel
theorem dX6_goOn_280 : decode cX6_goOn 280 = .ok (.iadd, 1) := by decide +kernel
theorem dX6_goOn_281 : decode cX6_goOn 281 = .ok (.aload_n 0, 1) := by decide +kernel
theorem dX6_goOn_282 : decode cX6_goOn 282 = .ok (.getfield 25, 3) := by decide +kernel
theorem dX6_goOn_285 : decode cX6_goOn 285 = .ok (.iload 4, 2) := by decide +kernel
theorem dX6_goOn_287 : decode cX6_goOn 287 = .ok (.iaload, 1) := by decide +kernel
theorem dX6_goOn_288 : decode cX6_goOn 288 = .ok (.if_icmp .ge 19, 3) := by decide +kernel
theorem dX6_goOn_291 : decode cX6_goOn 291 = .ok (.aload_n 0, 1) := by decide +kernel
theorem dX6_goOn_292 : decode cX6_goOn 292 = .ok (.aload_n 0, 1) := by decide +kernel
theorem dX6_goOn_293 : decode cX6_goOn 293 = .ok (.getfield 49, 3) := by decide +kernel
theorem dX6_goOn_296 : decode cX6_goOn 296 = .ok (.iload 5, 2) := by decide +kernel
theorem dX6_goOn_298 : decode cX6_goOn 298 = .ok (.iload_n 3, 1) := by decide +kernel
theorem dX6_goOn_299 : decode cX6_goOn 299 = .ok (.iadd, 1) := by decide +kernel
theorem dX6_goOn_300 : decode cX6_goOn 300 = .ok (.iconst 1, 1) := by decide +kernel
theorem dX6_goOn_301 : decode cX6_goOn 301 = .ok (.iadd, 1) := by decide +kernel
theorem dX6_goOn_302 : decode cX6_goOn 302 = .ok (.lload 11, 2) := by decide +kernel
theorem dX6_goOn_304 : decode cX6_goOn 304 = .ok (.invokevirtual 107, 3) := by decide +kernel
theorem dX6_goOn_307 : decode cX6_goOn 307 = .ok (.bipush 6, 2) := by decide +kernel
theorem dX6_goOn_309 : decode cX6_goOn 309 = .ok (.iload 4, 2) := by decide +kernel
theorem dX6_goOn_311 : decode cX6_goOn 311 = .ok (.imul, 1) := by decide +kernel
theorem dX6_goOn_312 : decode cX6_goOn 312 = .ok (.istore 13, 2) := by decide +kernel
theorem dX6_goOn_314 : decode cX6_goOn 314 = .ok (.iload 13, 2) := by decide +kernel
theorem dX6_goOn_316 : decode cX6_goOn 316 = .ok (.bipush 6, 2) := by decide +kernel
theorem dX6_goOn_318 : decode cX6_goOn 318 = .ok (.iload 4, 2) := by decide +kernel
theorem dX6_goOn_320 : decode cX6_goOn 320 = .ok (.imul, 1) := by decide +kernel
theorem dX6_goOn_321 : decode cX6_goOn 321 = .ok (.aload_n 0, 1) := by decide +kernel
theorem dX6_goOn_322 : decode cX6_goOn 322 = .ok (.getfield 28, 3) := by decide +kernel
theorem dX6_goOn_325 : decode cX6_goOn 325 = .ok (.iload 4, 2) := by decide +kernel
theorem dX6_goOn_327 : decode cX6_goOn 327 = .ok (.iaload, 1) := by decide +kernel
theorem dX6_goOn_328 : decode cX6_goOn 328 = .ok (.iadd, 1) := by decide +kernel
theorem dX6_goOn_329 : decode cX6_goOn 329 = .ok (.if_icmp .ge 106, 3) := by decide +kernel
theorem dX6_goOn_332 : decode cX6_goOn 332 = .ok (.aload_n 0, 1) := by decide +kernel
theorem dX6_goOn_333 : decode cX6_goOn 333 = .ok (.getfield 37, 3) := by decide +kernel
theorem dX6_goOn_336 : decode cX6_goOn 336 = .ok (.iload 13, 2) := by decide +kernel
theorem dX6_goOn_338 : decode cX6_goOn 338 = .ok (.iaload, 1) := by decide +kernel
theorem dX6_goOn_339 : decode cX6_goOn 339 = .ok (.iload_n 3, 1) := by decide +kernel
theorem dX6_goOn_340 : decode cX6_goOn 340 = .ok (.if_icmp .gt 18, 3) := by decide +kernel
theorem dX6_goOn_343 : decode cX6_goOn 343 = .ok (.iload_n 3, 1) := by decide +kernel
theorem dX6_goOn_344 : decode cX6_goOn 344 = .ok (.aload_n 0, 1) := by decide +kernel
theorem dX6_goOn_345 : decode cX6_goOn 345 = .ok (.getfield 40, 3) := by decide +kernel
theorem dX6_goOn_348 : decode cX6_goOn 348 = .ok (.iload 13, 2) := by decide +kernel
theorem dX6_goOn_350 : decode cX6_goOn 350 = .ok (.iaload, 1) := by decide +kernel
theorem dX6_goOn_351 : decode cX6_goOn 351 = .ok (.if_icmp .ge 7, 3) := by decide +kernel
theorem dX6_goOn_354 : decode cX6_goOn 354 = .ok (.iconst 1, 1) := by decide +kernel
theorem dX6_goOn_355 : decode cX6_goOn 355 = .ok (.goto 4, 3) := by decide +kernel
theorem dX6_goOn_358 : decode cX6_goOn 358 = .ok (.iconst 0, 1) := by decide +kernel
theorem dX6_goOn_359 : decode cX6_goOn 359 = .ok (.istore 14, 2) := by decide +kernel
theorem dX6_goOn_361 : decode cX6_goOn 361 = .ok (.iload 14, 2) := by decide +kernel
theorem dX6_goOn_363 : decode cX6_goOn 363 = .ok (.ifCond .eq 66, 3) := by decide +kernel
theorem dX6_goOn_366 : decode cX6_goOn 366 = .ok (.iload 6, 2) := by decide +kernel
theorem dX6_goOn_368 : decode cX6_goOn 368 = .ok (.iconst 3, 1) := by decide +kernel
theorem dX6_goOn_369 : decode cX6_goOn 369 = .ok (.if_icmp .eq 17, 3) := by decide +kernel
theorem dX6_goOn_372 : decode cX6_goOn 372 = .ok (.iload 6, 2) := by decide +kernel
theorem dX6_goOn_374 : decode cX6_goOn 374 = .ok (.bipush 7, 2) := by decide +kernel
theorem dX6_goOn_376 : decode cX6_goOn 376 = .ok (.if_icmp .eq 10, 3) := by decide +kernel
theorem dX6_goOn_379 : decode cX6_goOn 379 = .ok (.iload 6, 2) := by decide +kernel
theorem dX6_goOn_381 : decode cX6_goOn 381 = .ok (.bipush 8, 2) := by decide +kernel
theorem dX6_goOn_383 : decode cX6_goOn 383 = .ok (.if_icmp .ne 46, 3) := by decide +kernel
theorem dX6_goOn_386 : decode cX6_goOn 386 = .ok (.aload_n 0, 1) := by decide +kernel
theorem dX6_goOn_387 : decode cX6_goOn 387 = .ok (.aload_n 0, 1) := by decide +kernel
theorem dX6_goOn_388 : decode cX6_goOn 388 = .ok (.getfield 49, 3) := by decide +kernel
theorem dX6_goOn_391 : decode cX6_goOn 391 = .ok (.iload 5, 2) := by decide +kernel
theorem dX6_goOn_393 : decode cX6_goOn 393 = .ok (.aload_n 0, 1) := by decide +kernel
theorem dX6_goOn_394 : decode cX6_goOn 394 = .ok (.getfield 43, 3) := by decide +kernel
theorem dX6_goOn_397 : decode cX6_goOn 397 = .ok (.iload 13, 2) := by decide +kernel
theorem dX6_goOn_399 : decode cX6_goOn 399 = .ok (.iaload, 1) := by decide +kernel
theorem dX6_goOn_400 : decode cX6_goOn 400 = .ok (.iadd, 1) := by decide +kernel
theorem dX6_goOn_401 : decode cX6_goOn 401 = .ok (.iload 10, 2) := by decide +kernel
theorem dX6_goOn_403 : decode cX6_goOn 403 = .ok (.ifCond .eq 21, 3) := by decide +kernel
theorem dX6_goOn_406 : decode cX6_goOn 406 = .ok (.lload 8, 2) := by decide +kernel
theorem dX6_goOn_408 : decode cX6_goOn 408 = .ok (.aload_n 0, 1) := by decide +kernel
theorem dX6_goOn_409 : decode cX6_goOn 409 = .ok (.getfield 59, 3) := by decide +kernel
theorem dX6_goOn_412 : decode cX6_goOn 412 = .ok (.bipush 8, 2) := by decide +kernel
theorem dX6_goOn_414 : decode cX6_goOn 414 = .ok (.iload_n 1, 1) := by decide +kernel
theorem dX6_goOn_415 : decode cX6_goOn 415 = .ok (.imul, 1) := by decide +kernel
theorem dX6_goOn_416 : decode cX6_goOn 416 = .ok (.iload 7, 2) := by decide +kernel
theorem dX6_goOn_418 : decode cX6_goOn 418 = .ok (.iadd, 1) := by decide +kernel
theorem dX6_goOn_419 : decode cX6_goOn 419 = .ok (.laload, 1) := by decide +kernel
theorem dX6_goOn_420 : decode cX6_goOn 420 = .ok (.lor, 1) := by decide +kernel
theorem dX6_goOn_421 : decode cX6_goOn 421 = .ok (.goto 5, 3) := by decide +kernel
theorem dX6_goOn_424 : decode cX6_goOn 424 = .ok (.lload 8, 2) := by decide +kernel
theorem dX6_goOn_426 : decode cX6_goOn 426 = .ok (.invokevirtual 107, 3) := by decide +kernel
theorem dX6_goOn_429 : decode cX6_goOn 429 = .ok (.iinc 13 1, 3) := by decide +kernel
theorem dX6_goOn_432 : decode cX6_goOn 432 = .ok (.goto (-118), 3) := by decide +kernel
theorem dX6_goOn_435 : decode cX6_goOn 435 = .ok (.return_, 1) := by decide +kernel
def gm_X6_goOn_429 (fu : Nat) (K314 : Nat → Int32 → Int32 → Int32 → Int32 → Int32 → Int32 → Int64 → Int32 → Int32 → gx_H → Option gx_H) (a0 : Nat) (x1 : Int32) (x3 : Int32) (x4 : Int32) (x5 : Int32) (x6 : Int32) (x7 : Int32) (y8 : Int64) (x10 : Int32) (x13 : Int32) (X : gx_H) : Option gx_H :=
  K314 a0 x1 x3 x4 x5 x6 x7 y8 x10 (x13 + 1) X
set_option maxHeartbeats 1000000 in
set_option maxRecDepth 20000 in
theorem gt_X6_goOn_429 {p : Program} {l : Launch} {e : Env} {s : State} {m : MethodId} {args : Array Value} {below : List Frame} {meth : Method} {c : Code} {D : gx_D} {X2 : gx_H}  (C : gx_C D gz_cl gz_at gz_tb gz_nb p s m meth c cX6_goOn 15 RX6 none) (fu : Nat) (K314 : Nat → Int32 → Int32 → Int32 → Int32 → Int32 → Int32 → Int64 → Int32 → Int32 → gx_H → Option gx_H) (hK314 : ∀ (a0 : Nat) (x1 : Int32) (x3 : Int32) (x4 : Int32) (x5 : Int32) (x6 : Int32) (x7 : Int32) (y8 : Int64) (x10 : Int32) (x13 : Int32) (X : gx_H), K314 a0 x1 x3 x4 x5 x6 x7 y8 x10 x13 X = some X2 → gx_W D gz_cl 15 p l e (gx_rm 2 49 0 0) s m args below meth c 0 0 (MQ below (gx_Q D gz_cl none X2) args s 0 0 (gx_Z D)) X 314 [some (gx_r (some a0)), some (gx_i x1), none, some (gx_i x3), some (gx_i x4), some (gx_i x5), some (gx_i x6), some (gx_i x7), some (gx_l y8), none, some (gx_i x10), none, none, some (gx_i x13), none] []) (a0 : Nat) (x1 : Int32) (x3 : Int32) (x4 : Int32) (x5 : Int32) (x6 : Int32) (x7 : Int32) (y8 : Int64) (x10 : Int32) (x13 : Int32) (X : gx_H) (h : gm_X6_goOn_429 fu K314 a0 x1 x3 x4 x5 x6 x7 y8 x10 x13 X = some X2) : gx_W D gz_cl 15 p l e (gx_rm 2 49 0 0) s m args below meth c 0 0 (MQ below (gx_Q D gz_cl none X2) args s 0 0 (gx_Z D)) X 429 [some (gx_r (some a0)), some (gx_i x1), none, some (gx_i x3), some (gx_i x4), some (gx_i x5), some (gx_i x6), some (gx_i x7), some (gx_l y8), none, some (gx_i x10), none, none, some (gx_i x13), none] [] := by
  unfold gm_X6_goOn_429 at h
  refine gx_iinc (v := (x13 + 1)) (lv2 := [some (gx_r (some a0)), some (gx_i x1), none, some (gx_i x3), some (gx_i x4), some (gx_i x5), some (gx_i x6), some (gx_i x7), some (gx_l y8), none, some (gx_i x10), none, none, some (gx_i (x13 + 1)), none]) C dX6_goOn_429 rfl rfl (by decide) rfl ?_
  refine gx_goto (tgt := 314) C dX6_goOn_432 (by decide) ?_
  exact hK314 a0 x1 x3 x4 x5 x6 x7 y8 x10 (x13 + 1) X h
def gm_X6_goOn_426 (fu : Nat) (K314 : Nat → Int32 → Int32 → Int32 → Int32 → Int32 → Int32 → Int64 → Int32 → Int32 → gx_H → Option gx_H) (a0 : Nat) (x1 : Int32) (x3 : Int32) (x4 : Int32) (x5 : Int32) (x6 : Int32) (x7 : Int32) (y8 : Int64) (x10 : Int32) (x13 : Int32) (sa0 : Nat) (sa1 : Nat) (sx2 : Int32) (sy3 : Int64) (X : gx_H) : Option gx_H :=
  gx_ob X sa0 6 <|
  (gm_X6_join fu sa0 sa1 sx2 sy3 X).bind fun Xz2 =>
  gm_X6_goOn_429 fu K314 a0 x1 x3 x4 x5 x6 x7 y8 x10 x13 Xz2
set_option maxHeartbeats 1000000 in
set_option maxRecDepth 20000 in
theorem gt_X6_goOn_426 {p : Program} {l : Launch} {e : Env} {s : State} {m : MethodId} {args : Array Value} {below : List Frame} {meth : Method} {c : Code} {D : gx_D} {X2 : gx_H}  (C : gx_C D gz_cl gz_at gz_tb gz_nb p s m meth c cX6_goOn 15 RX6 none) (fu : Nat) (K314 : Nat → Int32 → Int32 → Int32 → Int32 → Int32 → Int32 → Int64 → Int32 → Int32 → gx_H → Option gx_H) (hK314 : ∀ (a0 : Nat) (x1 : Int32) (x3 : Int32) (x4 : Int32) (x5 : Int32) (x6 : Int32) (x7 : Int32) (y8 : Int64) (x10 : Int32) (x13 : Int32) (X : gx_H), K314 a0 x1 x3 x4 x5 x6 x7 y8 x10 x13 X = some X2 → gx_W D gz_cl 15 p l e (gx_rm 2 49 0 0) s m args below meth c 0 0 (MQ below (gx_Q D gz_cl none X2) args s 0 0 (gx_Z D)) X 314 [some (gx_r (some a0)), some (gx_i x1), none, some (gx_i x3), some (gx_i x4), some (gx_i x5), some (gx_i x6), some (gx_i x7), some (gx_l y8), none, some (gx_i x10), none, none, some (gx_i x13), none] []) (a0 : Nat) (x1 : Int32) (x3 : Int32) (x4 : Int32) (x5 : Int32) (x6 : Int32) (x7 : Int32) (y8 : Int64) (x10 : Int32) (x13 : Int32) (sa0 : Nat) (sa1 : Nat) (sx2 : Int32) (sy3 : Int64) (X : gx_H) (h : gm_X6_goOn_426 fu K314 a0 x1 x3 x4 x5 x6 x7 y8 x10 x13 sa0 sa1 sx2 sy3 X = some X2) : gx_W D gz_cl 15 p l e (gx_rm 2 49 0 0) s m args below meth c 0 0 (MQ below (gx_Q D gz_cl none X2) args s 0 0 (gx_Z D)) X 426 [some (gx_r (some a0)), some (gx_i x1), none, some (gx_i x3), some (gx_i x4), some (gx_i x5), some (gx_i x6), some (gx_i x7), some (gx_l y8), none, some (gx_i x10), none, none, some (gx_i x13), none] [gx_l sy3, gx_i sx2, gx_r (some sa1), gx_r (some sa0)] := by
  unfold gm_X6_goOn_426 at h
  obtain ⟨hoz1, h⟩ := gx_obs h
  obtain ⟨Xz2, eXz2, h⟩ := gx_bd h
  refine gx_callV (As := [gx_r (some sa1), gx_i sx2, gx_l sy3]) (st := []) (stk2 := []) C cd_X6_join wl_631 ws_X6_join wl_629 rfl hoz1 (gc_X6_join fu sa0 sa1 sx2 sy3 X Xz2 eXz2) rfl ⟨Nat.le_of_ble_eq_true rfl, Nat.le_of_ble_eq_true rfl⟩ ⟨Nat.le_of_ble_eq_true rfl, Nat.le_of_ble_eq_true rfl⟩ (Nat.le_of_ble_eq_true rfl) rfl rfl dX6_goOn_426 ?_
  exact gt_X6_goOn_429 C fu K314 hK314 a0 x1 x3 x4 x5 x6 x7 y8 x10 x13 Xz2 h
def gm_X6_goOn_386 (fu : Nat) (K314 : Nat → Int32 → Int32 → Int32 → Int32 → Int32 → Int32 → Int64 → Int32 → Int32 → gx_H → Option gx_H) (a0 : Nat) (x1 : Int32) (x3 : Int32) (x4 : Int32) (x5 : Int32) (x6 : Int32) (x7 : Int32) (y8 : Int64) (x10 : Int32) (x13 : Int32) (X : gx_H) : Option gx_H :=
  (gx_gd X a0 6 14).bind fun az3 =>
  (gx_gd X a0 6 11).bind fun az4 =>
  (gx_gai X az4 0 x13).bind fun vz5 =>
  if x10 = 0 then (
  gm_X6_goOn_426 fu K314 a0 x1 x3 x4 x5 x6 x7 y8 x10 x13 a0 az3 (x5 + vz5) y8 X) else (
  (gx_gd X a0 6 17).bind fun az7 =>
  (gx_gal X az7 1 (((8 : Int32) * x1) + x7)).bind fun vz8 =>
  gm_X6_goOn_426 fu K314 a0 x1 x3 x4 x5 x6 x7 y8 x10 x13 a0 az3 (x5 + vz5) (y8 ||| vz8) X)
set_option maxHeartbeats 1000000 in
set_option maxRecDepth 20000 in
theorem gt_X6_goOn_386 {p : Program} {l : Launch} {e : Env} {s : State} {m : MethodId} {args : Array Value} {below : List Frame} {meth : Method} {c : Code} {D : gx_D} {X2 : gx_H}  (C : gx_C D gz_cl gz_at gz_tb gz_nb p s m meth c cX6_goOn 15 RX6 none) (fu : Nat) (K314 : Nat → Int32 → Int32 → Int32 → Int32 → Int32 → Int32 → Int64 → Int32 → Int32 → gx_H → Option gx_H) (hK314 : ∀ (a0 : Nat) (x1 : Int32) (x3 : Int32) (x4 : Int32) (x5 : Int32) (x6 : Int32) (x7 : Int32) (y8 : Int64) (x10 : Int32) (x13 : Int32) (X : gx_H), K314 a0 x1 x3 x4 x5 x6 x7 y8 x10 x13 X = some X2 → gx_W D gz_cl 15 p l e (gx_rm 2 49 0 0) s m args below meth c 0 0 (MQ below (gx_Q D gz_cl none X2) args s 0 0 (gx_Z D)) X 314 [some (gx_r (some a0)), some (gx_i x1), none, some (gx_i x3), some (gx_i x4), some (gx_i x5), some (gx_i x6), some (gx_i x7), some (gx_l y8), none, some (gx_i x10), none, none, some (gx_i x13), none] []) (a0 : Nat) (x1 : Int32) (x3 : Int32) (x4 : Int32) (x5 : Int32) (x6 : Int32) (x7 : Int32) (y8 : Int64) (x10 : Int32) (x13 : Int32) (X : gx_H) (h : gm_X6_goOn_386 fu K314 a0 x1 x3 x4 x5 x6 x7 y8 x10 x13 X = some X2) : gx_W D gz_cl 15 p l e (gx_rm 2 49 0 0) s m args below meth c 0 0 (MQ below (gx_Q D gz_cl none X2) args s 0 0 (gx_Z D)) X 386 [some (gx_r (some a0)), some (gx_i x1), none, some (gx_i x3), some (gx_i x4), some (gx_i x5), some (gx_i x6), some (gx_i x7), some (gx_l y8), none, some (gx_i x10), none, none, some (gx_i x13), none] [] := by
  unfold gm_X6_goOn_386 at h
  refine gx_aload_n C dX6_goOn_386 rfl rfl ?_
  refine gx_aload_n C dX6_goOn_387 rfl rfl ?_
  obtain ⟨az3, eaz3, h⟩ := gx_bd h
  refine gx_get C kcX6 14 (by decide) wl_511 (gx_gd_s eaz3) dX6_goOn_388 ?_
  refine gx_iload C dX6_goOn_391 rfl ?_
  refine gx_aload_n C dX6_goOn_393 rfl rfl ?_
  obtain ⟨az4, eaz4, h⟩ := gx_bd h
  refine gx_get C kcX6 11 (by decide) wl_508 (gx_gd_s eaz4) dX6_goOn_394 ?_
  refine gx_iload C dX6_goOn_397 rfl ?_
  obtain ⟨vz5, evz5, h⟩ := gx_bd h
  refine gx_iald C (t := 0) rfl evz5 dX6_goOn_399 ?_
  refine gx_iadd C dX6_goOn_400 ?_
  refine gx_iload C dX6_goOn_401 rfl ?_
  refine gx_if_eq (tgt := 424) C dX6_goOn_403 (by decide) (fun qz6 => ?_) (fun qz6 => ?_)
  · rw [if_pos qz6] at h
    refine gx_lload C dX6_goOn_424 rfl ?_
    exact gt_X6_goOn_426 C fu K314 hK314 a0 x1 x3 x4 x5 x6 x7 y8 x10 x13 a0 az3 (x5 + vz5) y8 X h
  · rw [if_neg qz6] at h
    refine gx_lload C dX6_goOn_406 rfl ?_
    refine gx_aload_n C dX6_goOn_408 rfl rfl ?_
    obtain ⟨az7, eaz7, h⟩ := gx_bd h
    refine gx_get C kcX6 17 (by decide) wl_514 (gx_gd_s eaz7) dX6_goOn_409 ?_
    refine gx_bipush (v := 8) C dX6_goOn_412 (by decide) ?_
    refine gx_iload_n C dX6_goOn_414 rfl rfl ?_
    refine gx_imul C dX6_goOn_415 ?_
    refine gx_iload C dX6_goOn_416 rfl ?_
    refine gx_iadd C dX6_goOn_418 ?_
    obtain ⟨vz8, evz8, h⟩ := gx_bd h
    refine gx_lald C (t := 1) rfl evz8 dX6_goOn_419 ?_
    refine gx_lor C dX6_goOn_420 ?_
    refine gx_goto (tgt := 426) C dX6_goOn_421 (by decide) ?_
    exact gt_X6_goOn_426 C fu K314 hK314 a0 x1 x3 x4 x5 x6 x7 y8 x10 x13 a0 az3 (x5 + vz5) (y8 ||| vz8) X h
def gm_X6_goOn_359 (fu : Nat) (K314 : Nat → Int32 → Int32 → Int32 → Int32 → Int32 → Int32 → Int64 → Int32 → Int32 → gx_H → Option gx_H) (a0 : Nat) (x1 : Int32) (x3 : Int32) (x4 : Int32) (x5 : Int32) (x6 : Int32) (x7 : Int32) (y8 : Int64) (x10 : Int32) (x13 : Int32) (sx0 : Int32) (X : gx_H) : Option gx_H :=
  if sx0 = 0 then (
  gm_X6_goOn_429 fu K314 a0 x1 x3 x4 x5 x6 x7 y8 x10 x13 X) else (
  if x6 = (3 : Int32) then (
  gm_X6_goOn_386 fu K314 a0 x1 x3 x4 x5 x6 x7 y8 x10 x13 X) else (
  if x6 = (7 : Int32) then (
  gm_X6_goOn_386 fu K314 a0 x1 x3 x4 x5 x6 x7 y8 x10 x13 X) else (
  if x6 = (8 : Int32) then (
  gm_X6_goOn_386 fu K314 a0 x1 x3 x4 x5 x6 x7 y8 x10 x13 X) else (
  gm_X6_goOn_429 fu K314 a0 x1 x3 x4 x5 x6 x7 y8 x10 x13 X))))
set_option maxHeartbeats 1000000 in
set_option maxRecDepth 20000 in
theorem gt_X6_goOn_359 {p : Program} {l : Launch} {e : Env} {s : State} {m : MethodId} {args : Array Value} {below : List Frame} {meth : Method} {c : Code} {D : gx_D} {X2 : gx_H}  (C : gx_C D gz_cl gz_at gz_tb gz_nb p s m meth c cX6_goOn 15 RX6 none) (fu : Nat) (K314 : Nat → Int32 → Int32 → Int32 → Int32 → Int32 → Int32 → Int64 → Int32 → Int32 → gx_H → Option gx_H) (hK314 : ∀ (a0 : Nat) (x1 : Int32) (x3 : Int32) (x4 : Int32) (x5 : Int32) (x6 : Int32) (x7 : Int32) (y8 : Int64) (x10 : Int32) (x13 : Int32) (X : gx_H), K314 a0 x1 x3 x4 x5 x6 x7 y8 x10 x13 X = some X2 → gx_W D gz_cl 15 p l e (gx_rm 2 49 0 0) s m args below meth c 0 0 (MQ below (gx_Q D gz_cl none X2) args s 0 0 (gx_Z D)) X 314 [some (gx_r (some a0)), some (gx_i x1), none, some (gx_i x3), some (gx_i x4), some (gx_i x5), some (gx_i x6), some (gx_i x7), some (gx_l y8), none, some (gx_i x10), none, none, some (gx_i x13), none] []) (a0 : Nat) (x1 : Int32) (x3 : Int32) (x4 : Int32) (x5 : Int32) (x6 : Int32) (x7 : Int32) (y8 : Int64) (x10 : Int32) (x13 : Int32) (sx0 : Int32) (X : gx_H) (h : gm_X6_goOn_359 fu K314 a0 x1 x3 x4 x5 x6 x7 y8 x10 x13 sx0 X = some X2) : gx_W D gz_cl 15 p l e (gx_rm 2 49 0 0) s m args below meth c 0 0 (MQ below (gx_Q D gz_cl none X2) args s 0 0 (gx_Z D)) X 359 [some (gx_r (some a0)), some (gx_i x1), none, some (gx_i x3), some (gx_i x4), some (gx_i x5), some (gx_i x6), some (gx_i x7), some (gx_l y8), none, some (gx_i x10), none, none, some (gx_i x13), none] [gx_i sx0] := by
  unfold gm_X6_goOn_359 at h
  refine gx_istore (lv2 := [some (gx_r (some a0)), some (gx_i x1), none, some (gx_i x3), some (gx_i x4), some (gx_i x5), some (gx_i x6), some (gx_i x7), some (gx_l y8), none, some (gx_i x10), none, none, some (gx_i x13), some (gx_i sx0)]) C dX6_goOn_359 (by decide) rfl ?_
  refine gx_iload C dX6_goOn_361 rfl ?_
  refine gx_if_eq (tgt := 429) C dX6_goOn_363 (by decide) (fun qz9 => ?_) (fun qz9 => ?_)
  · rw [if_pos qz9] at h
    refine gx_sub (lv2 := [some (gx_r (some a0)), some (gx_i x1), none, some (gx_i x3), some (gx_i x4), some (gx_i x5), some (gx_i x6), some (gx_i x7), some (gx_l y8), none, some (gx_i x10), none, none, some (gx_i x13), none]) [true, true, false, true, true, true, true, true, true, false, true, false, false, true, false] rfl ?_
    exact gt_X6_goOn_429 C fu K314 hK314 a0 x1 x3 x4 x5 x6 x7 y8 x10 x13 X h
  · rw [if_neg qz9] at h
    refine gx_iload C dX6_goOn_366 rfl ?_
    refine gx_iconst (v := 3) C dX6_goOn_368 (by decide) ?_
    refine gx_icmp_eq (tgt := 386) C dX6_goOn_369 (by decide) (fun qz10 => ?_) (fun qz10 => ?_)
    · rw [if_pos qz10] at h
      refine gx_sub (lv2 := [some (gx_r (some a0)), some (gx_i x1), none, some (gx_i x3), some (gx_i x4), some (gx_i x5), some (gx_i x6), some (gx_i x7), some (gx_l y8), none, some (gx_i x10), none, none, some (gx_i x13), none]) [true, true, false, true, true, true, true, true, true, false, true, false, false, true, false] rfl ?_
      exact gt_X6_goOn_386 C fu K314 hK314 a0 x1 x3 x4 x5 x6 x7 y8 x10 x13 X h
    · rw [if_neg qz10] at h
      refine gx_iload C dX6_goOn_372 rfl ?_
      refine gx_bipush (v := 7) C dX6_goOn_374 (by decide) ?_
      refine gx_icmp_eq (tgt := 386) C dX6_goOn_376 (by decide) (fun qz11 => ?_) (fun qz11 => ?_)
      · rw [if_pos qz11] at h
        refine gx_sub (lv2 := [some (gx_r (some a0)), some (gx_i x1), none, some (gx_i x3), some (gx_i x4), some (gx_i x5), some (gx_i x6), some (gx_i x7), some (gx_l y8), none, some (gx_i x10), none, none, some (gx_i x13), none]) [true, true, false, true, true, true, true, true, true, false, true, false, false, true, false] rfl ?_
        exact gt_X6_goOn_386 C fu K314 hK314 a0 x1 x3 x4 x5 x6 x7 y8 x10 x13 X h
      · rw [if_neg qz11] at h
        refine gx_iload C dX6_goOn_379 rfl ?_
        refine gx_bipush (v := 8) C dX6_goOn_381 (by decide) ?_
        refine gx_icmp_ne (tgt := 429) C dX6_goOn_383 (by decide) (fun qz12 => ?_) (fun qz12 => ?_)
        · rw [if_neg qz12] at h
          refine gx_sub (lv2 := [some (gx_r (some a0)), some (gx_i x1), none, some (gx_i x3), some (gx_i x4), some (gx_i x5), some (gx_i x6), some (gx_i x7), some (gx_l y8), none, some (gx_i x10), none, none, some (gx_i x13), none]) [true, true, false, true, true, true, true, true, true, false, true, false, false, true, false] rfl ?_
          exact gt_X6_goOn_429 C fu K314 hK314 a0 x1 x3 x4 x5 x6 x7 y8 x10 x13 X h
        · rw [if_pos qz12] at h
          refine gx_sub (lv2 := [some (gx_r (some a0)), some (gx_i x1), none, some (gx_i x3), some (gx_i x4), some (gx_i x5), some (gx_i x6), some (gx_i x7), some (gx_l y8), none, some (gx_i x10), none, none, some (gx_i x13), none]) [true, true, false, true, true, true, true, true, true, false, true, false, false, true, false] rfl ?_
          exact gt_X6_goOn_386 C fu K314 hK314 a0 x1 x3 x4 x5 x6 x7 y8 x10 x13 X h
def gm_X6_goOn_358 (fu : Nat) (K314 : Nat → Int32 → Int32 → Int32 → Int32 → Int32 → Int32 → Int64 → Int32 → Int32 → gx_H → Option gx_H) (a0 : Nat) (x1 : Int32) (x3 : Int32) (x4 : Int32) (x5 : Int32) (x6 : Int32) (x7 : Int32) (y8 : Int64) (x10 : Int32) (x13 : Int32) (X : gx_H) : Option gx_H :=
  gm_X6_goOn_359 fu K314 a0 x1 x3 x4 x5 x6 x7 y8 x10 x13 (0 : Int32) X
set_option maxHeartbeats 1000000 in
set_option maxRecDepth 20000 in
theorem gt_X6_goOn_358 {p : Program} {l : Launch} {e : Env} {s : State} {m : MethodId} {args : Array Value} {below : List Frame} {meth : Method} {c : Code} {D : gx_D} {X2 : gx_H}  (C : gx_C D gz_cl gz_at gz_tb gz_nb p s m meth c cX6_goOn 15 RX6 none) (fu : Nat) (K314 : Nat → Int32 → Int32 → Int32 → Int32 → Int32 → Int32 → Int64 → Int32 → Int32 → gx_H → Option gx_H) (hK314 : ∀ (a0 : Nat) (x1 : Int32) (x3 : Int32) (x4 : Int32) (x5 : Int32) (x6 : Int32) (x7 : Int32) (y8 : Int64) (x10 : Int32) (x13 : Int32) (X : gx_H), K314 a0 x1 x3 x4 x5 x6 x7 y8 x10 x13 X = some X2 → gx_W D gz_cl 15 p l e (gx_rm 2 49 0 0) s m args below meth c 0 0 (MQ below (gx_Q D gz_cl none X2) args s 0 0 (gx_Z D)) X 314 [some (gx_r (some a0)), some (gx_i x1), none, some (gx_i x3), some (gx_i x4), some (gx_i x5), some (gx_i x6), some (gx_i x7), some (gx_l y8), none, some (gx_i x10), none, none, some (gx_i x13), none] []) (a0 : Nat) (x1 : Int32) (x3 : Int32) (x4 : Int32) (x5 : Int32) (x6 : Int32) (x7 : Int32) (y8 : Int64) (x10 : Int32) (x13 : Int32) (X : gx_H) (h : gm_X6_goOn_358 fu K314 a0 x1 x3 x4 x5 x6 x7 y8 x10 x13 X = some X2) : gx_W D gz_cl 15 p l e (gx_rm 2 49 0 0) s m args below meth c 0 0 (MQ below (gx_Q D gz_cl none X2) args s 0 0 (gx_Z D)) X 358 [some (gx_r (some a0)), some (gx_i x1), none, some (gx_i x3), some (gx_i x4), some (gx_i x5), some (gx_i x6), some (gx_i x7), some (gx_l y8), none, some (gx_i x10), none, none, some (gx_i x13), none] [] := by
  unfold gm_X6_goOn_358 at h
  refine gx_iconst (v := 0) C dX6_goOn_358 (by decide) ?_
  exact gt_X6_goOn_359 C fu K314 hK314 a0 x1 x3 x4 x5 x6 x7 y8 x10 x13 (0 : Int32) X h
def gm_X6_goOn_314 (fu : Nat) : Nat → Nat → Int32 → Int32 → Int32 → Int32 → Int32 → Int32 → Int64 → Int32 → Int32 → gx_H → Option gx_H
  | 0, _, _, _, _, _, _, _, _, _, _, _ => none
  | n + 1, a0, x1, x3, x4, x5, x6, x7, y8, x10, x13, X =>
    (gx_gd X a0 6 6).bind fun az13 =>
    (gx_gai X az13 0 x4).bind fun vz14 =>
    if (((6 : Int32) * x4) + vz14) ≤ x13 then (
    some X) else (
    (gx_gd X a0 6 9).bind fun az16 =>
    (gx_gai X az16 0 x13).bind fun vz17 =>
    if x3 < vz17 then (
    gm_X6_goOn_358 fu (gm_X6_goOn_314 fu  n) a0 x1 x3 x4 x5 x6 x7 y8 x10 x13 X) else (
    (gx_gd X a0 6 10).bind fun az19 =>
    (gx_gai X az19 0 x13).bind fun vz20 =>
    if vz20 ≤ x3 then (
    gm_X6_goOn_358 fu (gm_X6_goOn_314 fu  n) a0 x1 x3 x4 x5 x6 x7 y8 x10 x13 X) else (
    gm_X6_goOn_359 fu (gm_X6_goOn_314 fu  n) a0 x1 x3 x4 x5 x6 x7 y8 x10 x13 (1 : Int32) X)))
set_option maxHeartbeats 1000000 in
set_option maxRecDepth 20000 in
theorem gt_X6_goOn_314 {p : Program} {l : Launch} {e : Env} {s : State} {m : MethodId} {args : Array Value} {below : List Frame} {meth : Method} {c : Code} {D : gx_D} {X2 : gx_H}  (C : gx_C D gz_cl gz_at gz_tb gz_nb p s m meth c cX6_goOn 15 RX6 none) (fu : Nat) : ∀ (n : Nat) (a0 : Nat) (x1 : Int32) (x3 : Int32) (x4 : Int32) (x5 : Int32) (x6 : Int32) (x7 : Int32) (y8 : Int64) (x10 : Int32) (x13 : Int32) (X : gx_H) , gm_X6_goOn_314 fu  n a0 x1 x3 x4 x5 x6 x7 y8 x10 x13 X = some X2 → gx_W D gz_cl 15 p l e (gx_rm 2 49 0 0) s m args below meth c 0 0 (MQ below (gx_Q D gz_cl none X2) args s 0 0 (gx_Z D)) X 314 [some (gx_r (some a0)), some (gx_i x1), none, some (gx_i x3), some (gx_i x4), some (gx_i x5), some (gx_i x6), some (gx_i x7), some (gx_l y8), none, some (gx_i x10), none, none, some (gx_i x13), none] [] := by
  intro n
  induction n with
  | zero =>
    intro a0 x1 x3 x4 x5 x6 x7 y8 x10 x13 X h
    have h : none = some _ := h
    cases h
  | succ n ih =>
    intro a0 x1 x3 x4 x5 x6 x7 y8 x10 x13 X h
    rw [gm_X6_goOn_314] at h
    refine gx_iload C dX6_goOn_314 rfl ?_
    refine gx_bipush (v := 6) C dX6_goOn_316 (by decide) ?_
    refine gx_iload C dX6_goOn_318 rfl ?_
    refine gx_imul C dX6_goOn_320 ?_
    refine gx_aload_n C dX6_goOn_321 rfl rfl ?_
    obtain ⟨az13, eaz13, h⟩ := gx_bd h
    refine gx_get C kcX6 6 (by decide) wl_503 (gx_gd_s eaz13) dX6_goOn_322 ?_
    refine gx_iload C dX6_goOn_325 rfl ?_
    obtain ⟨vz14, evz14, h⟩ := gx_bd h
    refine gx_iald C (t := 0) rfl evz14 dX6_goOn_327 ?_
    refine gx_iadd C dX6_goOn_328 ?_
    refine gx_icmp_ge (tgt := 435) C dX6_goOn_329 (by decide) (fun qz15 => ?_) (fun qz15 => ?_)
    · rw [if_pos qz15] at h
      cases h
      exact gx_vret C dX6_goOn_435
    · rw [if_neg qz15] at h
      refine gx_aload_n C dX6_goOn_332 rfl rfl ?_
      obtain ⟨az16, eaz16, h⟩ := gx_bd h
      refine gx_get C kcX6 9 (by decide) wl_506 (gx_gd_s eaz16) dX6_goOn_333 ?_
      refine gx_iload C dX6_goOn_336 rfl ?_
      obtain ⟨vz17, evz17, h⟩ := gx_bd h
      refine gx_iald C (t := 0) rfl evz17 dX6_goOn_338 ?_
      refine gx_iload_n C dX6_goOn_339 rfl rfl ?_
      refine gx_icmp_gt (tgt := 358) C dX6_goOn_340 (by decide) (fun qz18 => ?_) (fun qz18 => ?_)
      · rw [if_pos qz18] at h
        exact gt_X6_goOn_358 C fu (gm_X6_goOn_314 fu  n) ih a0 x1 x3 x4 x5 x6 x7 y8 x10 x13 X h
      · rw [if_neg qz18] at h
        refine gx_iload_n C dX6_goOn_343 rfl rfl ?_
        refine gx_aload_n C dX6_goOn_344 rfl rfl ?_
        obtain ⟨az19, eaz19, h⟩ := gx_bd h
        refine gx_get C kcX6 10 (by decide) wl_507 (gx_gd_s eaz19) dX6_goOn_345 ?_
        refine gx_iload C dX6_goOn_348 rfl ?_
        obtain ⟨vz20, evz20, h⟩ := gx_bd h
        refine gx_iald C (t := 0) rfl evz20 dX6_goOn_350 ?_
        refine gx_icmp_ge (tgt := 358) C dX6_goOn_351 (by decide) (fun qz21 => ?_) (fun qz21 => ?_)
        · rw [if_pos qz21] at h
          exact gt_X6_goOn_358 C fu (gm_X6_goOn_314 fu  n) ih a0 x1 x3 x4 x5 x6 x7 y8 x10 x13 X h
        · rw [if_neg qz21] at h
          refine gx_iconst (v := 1) C dX6_goOn_354 (by decide) ?_
          refine gx_goto (tgt := 359) C dX6_goOn_355 (by decide) ?_
          exact gt_X6_goOn_359 C fu (gm_X6_goOn_314 fu  n) ih a0 x1 x3 x4 x5 x6 x7 y8 x10 x13 (1 : Int32) X h
def gm_X6_goOn_307 (fu : Nat) (a0 : Nat) (x1 : Int32) (x3 : Int32) (x4 : Int32) (x5 : Int32) (x6 : Int32) (x7 : Int32) (y8 : Int64) (x10 : Int32) (X : gx_H) : Option gx_H :=
  gm_X6_goOn_314 fu  fu a0 x1 x3 x4 x5 x6 x7 y8 x10 ((6 : Int32) * x4) X
set_option maxHeartbeats 1000000 in
set_option maxRecDepth 20000 in
theorem gt_X6_goOn_307 {p : Program} {l : Launch} {e : Env} {s : State} {m : MethodId} {args : Array Value} {below : List Frame} {meth : Method} {c : Code} {D : gx_D} {X2 : gx_H}  (C : gx_C D gz_cl gz_at gz_tb gz_nb p s m meth c cX6_goOn 15 RX6 none) (fu : Nat) (a0 : Nat) (x1 : Int32) (x3 : Int32) (x4 : Int32) (x5 : Int32) (x6 : Int32) (x7 : Int32) (y8 : Int64) (x10 : Int32) (X : gx_H) (h : gm_X6_goOn_307 fu  a0 x1 x3 x4 x5 x6 x7 y8 x10 X = some X2) : gx_W D gz_cl 15 p l e (gx_rm 2 49 0 0) s m args below meth c 0 0 (MQ below (gx_Q D gz_cl none X2) args s 0 0 (gx_Z D)) X 307 [some (gx_r (some a0)), some (gx_i x1), none, some (gx_i x3), some (gx_i x4), some (gx_i x5), some (gx_i x6), some (gx_i x7), some (gx_l y8), none, some (gx_i x10), none, none, none, none] [] := by
  unfold gm_X6_goOn_307 at h
  refine gx_bipush (v := 6) C dX6_goOn_307 (by decide) ?_
  refine gx_iload C dX6_goOn_309 rfl ?_
  refine gx_imul C dX6_goOn_311 ?_
  refine gx_istore (lv2 := [some (gx_r (some a0)), some (gx_i x1), none, some (gx_i x3), some (gx_i x4), some (gx_i x5), some (gx_i x6), some (gx_i x7), some (gx_l y8), none, some (gx_i x10), none, none, some (gx_i ((6 : Int32) * x4)), none]) C dX6_goOn_312 (by decide) rfl ?_
  exact gt_X6_goOn_314 C fu  fu a0 x1 x3 x4 x5 x6 x7 y8 x10 ((6 : Int32) * x4) X h
def gm_X6_goOn_258 (fu : Nat) (a0 : Nat) (x1 : Int32) (x3 : Int32) (x4 : Int32) (x5 : Int32) (x6 : Int32) (x7 : Int32) (y8 : Int64) (x10 : Int32) (y11 : Int64) (X : gx_H) : Option gx_H :=
  if x6 = (1 : Int32) then (
  gm_X6_goOn_307 fu  a0 x1 x3 x4 x5 x6 x7 y8 x10 X) else (
  if x6 = (6 : Int32) then (
  gm_X6_goOn_307 fu  a0 x1 x3 x4 x5 x6 x7 y8 x10 X) else (
  if x6 = (7 : Int32) then (
  gm_X6_goOn_307 fu  a0 x1 x3 x4 x5 x6 x7 y8 x10 X) else (
  (gx_gd X a0 6 5).bind fun az25 =>
  (gx_gai X az25 0 x4).bind fun vz26 =>
  if vz26 ≤ (x3 + (1 : Int32)) then (
  gm_X6_goOn_307 fu  a0 x1 x3 x4 x5 x6 x7 y8 x10 X) else (
  (gx_gd X a0 6 14).bind fun az28 =>
  gx_ob X a0 6 <|
  (gm_X6_join fu a0 az28 ((x5 + x3) + (1 : Int32)) y11 X).bind fun Xz30 =>
  gm_X6_goOn_307 fu  a0 x1 x3 x4 x5 x6 x7 y8 x10 Xz30))))
set_option maxHeartbeats 1000000 in
set_option maxRecDepth 20000 in
theorem gt_X6_goOn_258 {p : Program} {l : Launch} {e : Env} {s : State} {m : MethodId} {args : Array Value} {below : List Frame} {meth : Method} {c : Code} {D : gx_D} {X2 : gx_H}  (C : gx_C D gz_cl gz_at gz_tb gz_nb p s m meth c cX6_goOn 15 RX6 none) (fu : Nat) (a0 : Nat) (x1 : Int32) (x3 : Int32) (x4 : Int32) (x5 : Int32) (x6 : Int32) (x7 : Int32) (y8 : Int64) (x10 : Int32) (y11 : Int64) (X : gx_H) (h : gm_X6_goOn_258 fu  a0 x1 x3 x4 x5 x6 x7 y8 x10 y11 X = some X2) : gx_W D gz_cl 15 p l e (gx_rm 2 49 0 0) s m args below meth c 0 0 (MQ below (gx_Q D gz_cl none X2) args s 0 0 (gx_Z D)) X 258 [some (gx_r (some a0)), some (gx_i x1), none, some (gx_i x3), some (gx_i x4), some (gx_i x5), some (gx_i x6), some (gx_i x7), some (gx_l y8), none, some (gx_i x10), some (gx_l y11), none, none, none] [] := by
  unfold gm_X6_goOn_258 at h
  refine gx_iload C dX6_goOn_258 rfl ?_
  refine gx_iconst (v := 1) C dX6_goOn_260 (by decide) ?_
  refine gx_icmp_eq (tgt := 307) C dX6_goOn_261 (by decide) (fun qz22 => ?_) (fun qz22 => ?_)
  · rw [if_pos qz22] at h
    refine gx_sub (lv2 := [some (gx_r (some a0)), some (gx_i x1), none, some (gx_i x3), some (gx_i x4), some (gx_i x5), some (gx_i x6), some (gx_i x7), some (gx_l y8), none, some (gx_i x10), none, none, none, none]) [true, true, false, true, true, true, true, true, true, false, true, false, false, false, false] rfl ?_
    exact gt_X6_goOn_307 C fu  a0 x1 x3 x4 x5 x6 x7 y8 x10 X h
  · rw [if_neg qz22] at h
    refine gx_iload C dX6_goOn_264 rfl ?_
    refine gx_bipush (v := 6) C dX6_goOn_266 (by decide) ?_
    refine gx_icmp_eq (tgt := 307) C dX6_goOn_268 (by decide) (fun qz23 => ?_) (fun qz23 => ?_)
    · rw [if_pos qz23] at h
      refine gx_sub (lv2 := [some (gx_r (some a0)), some (gx_i x1), none, some (gx_i x3), some (gx_i x4), some (gx_i x5), some (gx_i x6), some (gx_i x7), some (gx_l y8), none, some (gx_i x10), none, none, none, none]) [true, true, false, true, true, true, true, true, true, false, true, false, false, false, false] rfl ?_
      exact gt_X6_goOn_307 C fu  a0 x1 x3 x4 x5 x6 x7 y8 x10 X h
    · rw [if_neg qz23] at h
      refine gx_iload C dX6_goOn_271 rfl ?_
      refine gx_bipush (v := 7) C dX6_goOn_273 (by decide) ?_
      refine gx_icmp_eq (tgt := 307) C dX6_goOn_275 (by decide) (fun qz24 => ?_) (fun qz24 => ?_)
      · rw [if_pos qz24] at h
        refine gx_sub (lv2 := [some (gx_r (some a0)), some (gx_i x1), none, some (gx_i x3), some (gx_i x4), some (gx_i x5), some (gx_i x6), some (gx_i x7), some (gx_l y8), none, some (gx_i x10), none, none, none, none]) [true, true, false, true, true, true, true, true, true, false, true, false, false, false, false] rfl ?_
        exact gt_X6_goOn_307 C fu  a0 x1 x3 x4 x5 x6 x7 y8 x10 X h
      · rw [if_neg qz24] at h
        refine gx_iload_n C dX6_goOn_278 rfl rfl ?_
        refine gx_iconst (v := 1) C dX6_goOn_279 (by decide) ?_
        refine gx_iadd C dX6_goOn_280 ?_
        refine gx_aload_n C dX6_goOn_281 rfl rfl ?_
        obtain ⟨az25, eaz25, h⟩ := gx_bd h
        refine gx_get C kcX6 5 (by decide) wl_502 (gx_gd_s eaz25) dX6_goOn_282 ?_
        refine gx_iload C dX6_goOn_285 rfl ?_
        obtain ⟨vz26, evz26, h⟩ := gx_bd h
        refine gx_iald C (t := 0) rfl evz26 dX6_goOn_287 ?_
        refine gx_icmp_ge (tgt := 307) C dX6_goOn_288 (by decide) (fun qz27 => ?_) (fun qz27 => ?_)
        · rw [if_pos qz27] at h
          refine gx_sub (lv2 := [some (gx_r (some a0)), some (gx_i x1), none, some (gx_i x3), some (gx_i x4), some (gx_i x5), some (gx_i x6), some (gx_i x7), some (gx_l y8), none, some (gx_i x10), none, none, none, none]) [true, true, false, true, true, true, true, true, true, false, true, false, false, false, false] rfl ?_
          exact gt_X6_goOn_307 C fu  a0 x1 x3 x4 x5 x6 x7 y8 x10 X h
        · rw [if_neg qz27] at h
          refine gx_aload_n C dX6_goOn_291 rfl rfl ?_
          refine gx_aload_n C dX6_goOn_292 rfl rfl ?_
          obtain ⟨az28, eaz28, h⟩ := gx_bd h
          refine gx_get C kcX6 14 (by decide) wl_511 (gx_gd_s eaz28) dX6_goOn_293 ?_
          refine gx_iload C dX6_goOn_296 rfl ?_
          refine gx_iload_n C dX6_goOn_298 rfl rfl ?_
          refine gx_iadd C dX6_goOn_299 ?_
          refine gx_iconst (v := 1) C dX6_goOn_300 (by decide) ?_
          refine gx_iadd C dX6_goOn_301 ?_
          refine gx_lload C dX6_goOn_302 rfl ?_
          obtain ⟨hoz29, h⟩ := gx_obs h
          obtain ⟨Xz30, eXz30, h⟩ := gx_bd h
          refine gx_callV (As := [gx_r (some az28), gx_i ((x5 + x3) + (1 : Int32)), gx_l y11]) (st := []) (stk2 := []) C cd_X6_join wl_631 ws_X6_join wl_629 rfl hoz29 (gc_X6_join fu a0 az28 ((x5 + x3) + (1 : Int32)) y11 X Xz30 eXz30) rfl ⟨Nat.le_of_ble_eq_true rfl, Nat.le_of_ble_eq_true rfl⟩ ⟨Nat.le_of_ble_eq_true rfl, Nat.le_of_ble_eq_true rfl⟩ (Nat.le_of_ble_eq_true rfl) rfl rfl dX6_goOn_304 ?_
          refine gx_sub (lv2 := [some (gx_r (some a0)), some (gx_i x1), none, some (gx_i x3), some (gx_i x4), some (gx_i x5), some (gx_i x6), some (gx_i x7), some (gx_l y8), none, some (gx_i x10), none, none, none, none]) [true, true, false, true, true, true, true, true, true, false, true, false, false, false, false] rfl ?_
          exact gt_X6_goOn_307 C fu  a0 x1 x3 x4 x5 x6 x7 y8 x10 Xz30 h
def gm_X6_goOn_243 (fu : Nat) (a0 : Nat) (x1 : Int32) (x3 : Int32) (x4 : Int32) (x5 : Int32) (x6 : Int32) (x7 : Int32) (y8 : Int64) (x10 : Int32) (y11 : Int64) (X : gx_H) : Option gx_H :=
  (gx_gd X a0 6 14).bind fun az31 =>
  gx_ob X a0 6 <|
  (gm_X6_join fu a0 az31 (x5 + x7) y11 X).bind fun Xz33 =>
  gm_X6_goOn_258 fu  a0 x1 x3 x4 x5 x6 x7 y8 x10 y11 Xz33
set_option maxHeartbeats 1000000 in
set_option maxRecDepth 20000 in
theorem gt_X6_goOn_243 {p : Program} {l : Launch} {e : Env} {s : State} {m : MethodId} {args : Array Value} {below : List Frame} {meth : Method} {c : Code} {D : gx_D} {X2 : gx_H}  (C : gx_C D gz_cl gz_at gz_tb gz_nb p s m meth c cX6_goOn 15 RX6 none) (fu : Nat) (a0 : Nat) (x1 : Int32) (x3 : Int32) (x4 : Int32) (x5 : Int32) (x6 : Int32) (x7 : Int32) (y8 : Int64) (x10 : Int32) (y11 : Int64) (X : gx_H) (h : gm_X6_goOn_243 fu  a0 x1 x3 x4 x5 x6 x7 y8 x10 y11 X = some X2) : gx_W D gz_cl 15 p l e (gx_rm 2 49 0 0) s m args below meth c 0 0 (MQ below (gx_Q D gz_cl none X2) args s 0 0 (gx_Z D)) X 243 [some (gx_r (some a0)), some (gx_i x1), none, some (gx_i x3), some (gx_i x4), some (gx_i x5), some (gx_i x6), some (gx_i x7), some (gx_l y8), none, some (gx_i x10), some (gx_l y11), none, none, none] [] := by
  unfold gm_X6_goOn_243 at h
  refine gx_aload_n C dX6_goOn_243 rfl rfl ?_
  refine gx_aload_n C dX6_goOn_244 rfl rfl ?_
  obtain ⟨az31, eaz31, h⟩ := gx_bd h
  refine gx_get C kcX6 14 (by decide) wl_511 (gx_gd_s eaz31) dX6_goOn_245 ?_
  refine gx_iload C dX6_goOn_248 rfl ?_
  refine gx_iload C dX6_goOn_250 rfl ?_
  refine gx_iadd C dX6_goOn_252 ?_
  refine gx_lload C dX6_goOn_253 rfl ?_
  obtain ⟨hoz32, h⟩ := gx_obs h
  obtain ⟨Xz33, eXz33, h⟩ := gx_bd h
  refine gx_callV (As := [gx_r (some az31), gx_i (x5 + x7), gx_l y11]) (st := []) (stk2 := []) C cd_X6_join wl_631 ws_X6_join wl_629 rfl hoz32 (gc_X6_join fu a0 az31 (x5 + x7) y11 X Xz33 eXz33) rfl ⟨Nat.le_of_ble_eq_true rfl, Nat.le_of_ble_eq_true rfl⟩ ⟨Nat.le_of_ble_eq_true rfl, Nat.le_of_ble_eq_true rfl⟩ (Nat.le_of_ble_eq_true rfl) rfl rfl dX6_goOn_255 ?_
  exact gt_X6_goOn_258 C fu  a0 x1 x3 x4 x5 x6 x7 y8 x10 y11 Xz33 h
def gm_X6_goOn_231 (fu : Nat) (a0 : Nat) (x1 : Int32) (x3 : Int32) (x4 : Int32) (x5 : Int32) (x6 : Int32) (x7 : Int32) (y8 : Int64) (x10 : Int32) (y11 : Int64) (X : gx_H) : Option gx_H :=
  if x6 = (1 : Int32) then (
  gm_X6_goOn_243 fu  a0 x1 x3 x4 x5 x6 x7 y8 x10 y11 X) else (
  if x6 = (2 : Int32) then (
  gm_X6_goOn_243 fu  a0 x1 x3 x4 x5 x6 x7 y8 x10 y11 X) else (
  gm_X6_goOn_258 fu  a0 x1 x3 x4 x5 x6 x7 y8 x10 y11 X))
set_option maxHeartbeats 1000000 in
set_option maxRecDepth 20000 in
theorem gt_X6_goOn_231 {p : Program} {l : Launch} {e : Env} {s : State} {m : MethodId} {args : Array Value} {below : List Frame} {meth : Method} {c : Code} {D : gx_D} {X2 : gx_H}  (C : gx_C D gz_cl gz_at gz_tb gz_nb p s m meth c cX6_goOn 15 RX6 none) (fu : Nat) (a0 : Nat) (x1 : Int32) (x3 : Int32) (x4 : Int32) (x5 : Int32) (x6 : Int32) (x7 : Int32) (y8 : Int64) (x10 : Int32) (y11 : Int64) (X : gx_H) (h : gm_X6_goOn_231 fu  a0 x1 x3 x4 x5 x6 x7 y8 x10 y11 X = some X2) : gx_W D gz_cl 15 p l e (gx_rm 2 49 0 0) s m args below meth c 0 0 (MQ below (gx_Q D gz_cl none X2) args s 0 0 (gx_Z D)) X 231 [some (gx_r (some a0)), some (gx_i x1), none, some (gx_i x3), some (gx_i x4), some (gx_i x5), some (gx_i x6), some (gx_i x7), some (gx_l y8), none, some (gx_i x10), some (gx_l y11), none, none, none] [] := by
  unfold gm_X6_goOn_231 at h
  refine gx_iload C dX6_goOn_231 rfl ?_
  refine gx_iconst (v := 1) C dX6_goOn_233 (by decide) ?_
  refine gx_icmp_eq (tgt := 243) C dX6_goOn_234 (by decide) (fun qz34 => ?_) (fun qz34 => ?_)
  · rw [if_pos qz34] at h
    exact gt_X6_goOn_243 C fu  a0 x1 x3 x4 x5 x6 x7 y8 x10 y11 X h
  · rw [if_neg qz34] at h
    refine gx_iload C dX6_goOn_237 rfl ?_
    refine gx_iconst (v := 2) C dX6_goOn_239 (by decide) ?_
    refine gx_icmp_ne (tgt := 258) C dX6_goOn_240 (by decide) (fun qz35 => ?_) (fun qz35 => ?_)
    · rw [if_neg qz35] at h
      exact gt_X6_goOn_258 C fu  a0 x1 x3 x4 x5 x6 x7 y8 x10 y11 X h
    · rw [if_pos qz35] at h
      exact gt_X6_goOn_243 C fu  a0 x1 x3 x4 x5 x6 x7 y8 x10 y11 X h
def gm_X6_goOn_212 (fu : Nat) (a0 : Nat) (x1 : Int32) (x3 : Int32) (x4 : Int32) (x5 : Int32) (x6 : Int32) (x7 : Int32) (y8 : Int64) (x10 : Int32) (y11 : Int64) (X : gx_H) : Option gx_H :=
  if x6 = (6 : Int32) then (
  (gx_gd X a0 6 16).bind fun az37 =>
  gx_ob X a0 6 <|
  (gm_X6_join fu a0 az37 x4 y8 X).bind fun Xz39 =>
  gm_X6_goOn_231 fu  a0 x1 x3 x4 x5 x6 x7 y8 x10 y11 Xz39) else (
  gm_X6_goOn_231 fu  a0 x1 x3 x4 x5 x6 x7 y8 x10 y11 X)
set_option maxHeartbeats 1000000 in
set_option maxRecDepth 20000 in
theorem gt_X6_goOn_212 {p : Program} {l : Launch} {e : Env} {s : State} {m : MethodId} {args : Array Value} {below : List Frame} {meth : Method} {c : Code} {D : gx_D} {X2 : gx_H}  (C : gx_C D gz_cl gz_at gz_tb gz_nb p s m meth c cX6_goOn 15 RX6 none) (fu : Nat) (a0 : Nat) (x1 : Int32) (x3 : Int32) (x4 : Int32) (x5 : Int32) (x6 : Int32) (x7 : Int32) (y8 : Int64) (x10 : Int32) (y11 : Int64) (X : gx_H) (h : gm_X6_goOn_212 fu  a0 x1 x3 x4 x5 x6 x7 y8 x10 y11 X = some X2) : gx_W D gz_cl 15 p l e (gx_rm 2 49 0 0) s m args below meth c 0 0 (MQ below (gx_Q D gz_cl none X2) args s 0 0 (gx_Z D)) X 212 [some (gx_r (some a0)), some (gx_i x1), none, some (gx_i x3), some (gx_i x4), some (gx_i x5), some (gx_i x6), some (gx_i x7), some (gx_l y8), none, some (gx_i x10), some (gx_l y11), none, none, none] [] := by
  unfold gm_X6_goOn_212 at h
  refine gx_iload C dX6_goOn_212 rfl ?_
  refine gx_bipush (v := 6) C dX6_goOn_214 (by decide) ?_
  refine gx_icmp_ne (tgt := 231) C dX6_goOn_216 (by decide) (fun qz36 => ?_) (fun qz36 => ?_)
  · rw [if_neg qz36] at h
    exact gt_X6_goOn_231 C fu  a0 x1 x3 x4 x5 x6 x7 y8 x10 y11 X h
  · rw [if_pos qz36] at h
    refine gx_aload_n C dX6_goOn_219 rfl rfl ?_
    refine gx_aload_n C dX6_goOn_220 rfl rfl ?_
    obtain ⟨az37, eaz37, h⟩ := gx_bd h
    refine gx_get C kcX6 16 (by decide) wl_513 (gx_gd_s eaz37) dX6_goOn_221 ?_
    refine gx_iload C dX6_goOn_224 rfl ?_
    refine gx_lload C dX6_goOn_226 rfl ?_
    obtain ⟨hoz38, h⟩ := gx_obs h
    obtain ⟨Xz39, eXz39, h⟩ := gx_bd h
    refine gx_callV (As := [gx_r (some az37), gx_i x4, gx_l y8]) (st := []) (stk2 := []) C cd_X6_join wl_631 ws_X6_join wl_629 rfl hoz38 (gc_X6_join fu a0 az37 x4 y8 X Xz39 eXz39) rfl ⟨Nat.le_of_ble_eq_true rfl, Nat.le_of_ble_eq_true rfl⟩ ⟨Nat.le_of_ble_eq_true rfl, Nat.le_of_ble_eq_true rfl⟩ (Nat.le_of_ble_eq_true rfl) rfl rfl dX6_goOn_228 ?_
    exact gt_X6_goOn_231 C fu  a0 x1 x3 x4 x5 x6 x7 y8 x10 y11 Xz39 h
def gm_X6_goOn_153 (fu : Nat) (a0 : Nat) (x1 : Int32) (x3 : Int32) (x4 : Int32) (x5 : Int32) (x6 : Int32) (x7 : Int32) (y8 : Int64) (x10 : Int32) (y11 : Int64) (X : gx_H) : Option gx_H :=
  (gx_gd X a0 6 17).bind fun az40 =>
  gx_ob X a0 6 <|
  (gm_X6_join fu a0 az40 x4 (y8 ||| y11) X).bind fun Xz42 =>
  if x10 = 0 then (
  gm_X6_goOn_212 fu  a0 x1 x3 x4 x5 x6 x7 y8 x10 y11 Xz42) else (
  (gx_gd Xz42 a0 6 15).bind fun az44 =>
  gx_ob Xz42 a0 6 <|
  (gm_X6_join fu a0 az44 (((8 : Int32) * x1) + x7) y8 Xz42).bind fun Xz46 =>
  (gx_gd Xz46 a0 6 17).bind fun az47 =>
  (gx_gd Xz46 a0 6 17).bind fun az48 =>
  (gx_gal Xz46 az48 1 (((8 : Int32) * x1) + x7)).bind fun vz49 =>
  gx_ob Xz46 a0 6 <|
  (gm_X6_join fu a0 az47 x4 vz49 Xz46).bind fun Xz51 =>
  gm_X6_goOn_212 fu  a0 x1 x3 x4 x5 x6 x7 y8 x10 y11 Xz51)
set_option maxHeartbeats 1000000 in
set_option maxRecDepth 20000 in
theorem gt_X6_goOn_153 {p : Program} {l : Launch} {e : Env} {s : State} {m : MethodId} {args : Array Value} {below : List Frame} {meth : Method} {c : Code} {D : gx_D} {X2 : gx_H}  (C : gx_C D gz_cl gz_at gz_tb gz_nb p s m meth c cX6_goOn 15 RX6 none) (fu : Nat) (a0 : Nat) (x1 : Int32) (x3 : Int32) (x4 : Int32) (x5 : Int32) (x6 : Int32) (x7 : Int32) (y8 : Int64) (x10 : Int32) (y11 : Int64) (X : gx_H) (h : gm_X6_goOn_153 fu  a0 x1 x3 x4 x5 x6 x7 y8 x10 y11 X = some X2) : gx_W D gz_cl 15 p l e (gx_rm 2 49 0 0) s m args below meth c 0 0 (MQ below (gx_Q D gz_cl none X2) args s 0 0 (gx_Z D)) X 153 [some (gx_r (some a0)), some (gx_i x1), none, some (gx_i x3), some (gx_i x4), some (gx_i x5), some (gx_i x6), some (gx_i x7), some (gx_l y8), none, some (gx_i x10), some (gx_l y11), none, none, none] [] := by
  unfold gm_X6_goOn_153 at h
  refine gx_aload_n C dX6_goOn_153 rfl rfl ?_
  refine gx_aload_n C dX6_goOn_154 rfl rfl ?_
  obtain ⟨az40, eaz40, h⟩ := gx_bd h
  refine gx_get C kcX6 17 (by decide) wl_514 (gx_gd_s eaz40) dX6_goOn_155 ?_
  refine gx_iload C dX6_goOn_158 rfl ?_
  refine gx_lload C dX6_goOn_160 rfl ?_
  refine gx_lload C dX6_goOn_162 rfl ?_
  refine gx_lor C dX6_goOn_164 ?_
  obtain ⟨hoz41, h⟩ := gx_obs h
  obtain ⟨Xz42, eXz42, h⟩ := gx_bd h
  refine gx_callV (As := [gx_r (some az40), gx_i x4, gx_l (y8 ||| y11)]) (st := []) (stk2 := []) C cd_X6_join wl_631 ws_X6_join wl_629 rfl hoz41 (gc_X6_join fu a0 az40 x4 (y8 ||| y11) X Xz42 eXz42) rfl ⟨Nat.le_of_ble_eq_true rfl, Nat.le_of_ble_eq_true rfl⟩ ⟨Nat.le_of_ble_eq_true rfl, Nat.le_of_ble_eq_true rfl⟩ (Nat.le_of_ble_eq_true rfl) rfl rfl dX6_goOn_165 ?_
  refine gx_iload C dX6_goOn_168 rfl ?_
  refine gx_if_eq (tgt := 212) C dX6_goOn_170 (by decide) (fun qz43 => ?_) (fun qz43 => ?_)
  · rw [if_pos qz43] at h
    exact gt_X6_goOn_212 C fu  a0 x1 x3 x4 x5 x6 x7 y8 x10 y11 Xz42 h
  · rw [if_neg qz43] at h
    refine gx_aload_n C dX6_goOn_173 rfl rfl ?_
    refine gx_aload_n C dX6_goOn_174 rfl rfl ?_
    obtain ⟨az44, eaz44, h⟩ := gx_bd h
    refine gx_get C kcX6 15 (by decide) wl_512 (gx_gd_s eaz44) dX6_goOn_175 ?_
    refine gx_bipush (v := 8) C dX6_goOn_178 (by decide) ?_
    refine gx_iload_n C dX6_goOn_180 rfl rfl ?_
    refine gx_imul C dX6_goOn_181 ?_
    refine gx_iload C dX6_goOn_182 rfl ?_
    refine gx_iadd C dX6_goOn_184 ?_
    refine gx_lload C dX6_goOn_185 rfl ?_
    obtain ⟨hoz45, h⟩ := gx_obs h
    obtain ⟨Xz46, eXz46, h⟩ := gx_bd h
    refine gx_callV (As := [gx_r (some az44), gx_i (((8 : Int32) * x1) + x7), gx_l y8]) (st := []) (stk2 := []) C cd_X6_join wl_631 ws_X6_join wl_629 rfl hoz45 (gc_X6_join fu a0 az44 (((8 : Int32) * x1) + x7) y8 Xz42 Xz46 eXz46) rfl ⟨Nat.le_of_ble_eq_true rfl, Nat.le_of_ble_eq_true rfl⟩ ⟨Nat.le_of_ble_eq_true rfl, Nat.le_of_ble_eq_true rfl⟩ (Nat.le_of_ble_eq_true rfl) rfl rfl dX6_goOn_187 ?_
    refine gx_aload_n C dX6_goOn_190 rfl rfl ?_
    refine gx_aload_n C dX6_goOn_191 rfl rfl ?_
    obtain ⟨az47, eaz47, h⟩ := gx_bd h
    refine gx_get C kcX6 17 (by decide) wl_514 (gx_gd_s eaz47) dX6_goOn_192 ?_
    refine gx_iload C dX6_goOn_195 rfl ?_
    refine gx_aload_n C dX6_goOn_197 rfl rfl ?_
    obtain ⟨az48, eaz48, h⟩ := gx_bd h
    refine gx_get C kcX6 17 (by decide) wl_514 (gx_gd_s eaz48) dX6_goOn_198 ?_
    refine gx_bipush (v := 8) C dX6_goOn_201 (by decide) ?_
    refine gx_iload_n C dX6_goOn_203 rfl rfl ?_
    refine gx_imul C dX6_goOn_204 ?_
    refine gx_iload C dX6_goOn_205 rfl ?_
    refine gx_iadd C dX6_goOn_207 ?_
    obtain ⟨vz49, evz49, h⟩ := gx_bd h
    refine gx_lald C (t := 1) rfl evz49 dX6_goOn_208 ?_
    obtain ⟨hoz50, h⟩ := gx_obs h
    obtain ⟨Xz51, eXz51, h⟩ := gx_bd h
    refine gx_callV (As := [gx_r (some az47), gx_i x4, gx_l vz49]) (st := []) (stk2 := []) C cd_X6_join wl_631 ws_X6_join wl_629 rfl hoz50 (gc_X6_join fu a0 az47 x4 vz49 Xz46 Xz51 eXz51) rfl ⟨Nat.le_of_ble_eq_true rfl, Nat.le_of_ble_eq_true rfl⟩ ⟨Nat.le_of_ble_eq_true rfl, Nat.le_of_ble_eq_true rfl⟩ (Nat.le_of_ble_eq_true rfl) rfl rfl dX6_goOn_209 ?_
    exact gt_X6_goOn_212 C fu  a0 x1 x3 x4 x5 x6 x7 y8 x10 y11 Xz51 h
def gm_X6_goOn_116 (fu : Nat) (a0 : Nat) (x1 : Int32) (x3 : Int32) (x4 : Int32) (x5 : Int32) (x6 : Int32) (x7 : Int32) (y8 : Int64) (x10 : Int32) (sy0 : Int64) (X : gx_H) : Option gx_H :=
  gm_X6_goOn_153 fu  a0 x1 x3 x4 x5 x6 x7 y8 x10 sy0 X
set_option maxHeartbeats 1000000 in
set_option maxRecDepth 20000 in
theorem gt_X6_goOn_116 {p : Program} {l : Launch} {e : Env} {s : State} {m : MethodId} {args : Array Value} {below : List Frame} {meth : Method} {c : Code} {D : gx_D} {X2 : gx_H}  (C : gx_C D gz_cl gz_at gz_tb gz_nb p s m meth c cX6_goOn 15 RX6 none) (fu : Nat) (a0 : Nat) (x1 : Int32) (x3 : Int32) (x4 : Int32) (x5 : Int32) (x6 : Int32) (x7 : Int32) (y8 : Int64) (x10 : Int32) (sy0 : Int64) (X : gx_H) (h : gm_X6_goOn_116 fu  a0 x1 x3 x4 x5 x6 x7 y8 x10 sy0 X = some X2) : gx_W D gz_cl 15 p l e (gx_rm 2 49 0 0) s m args below meth c 0 0 (MQ below (gx_Q D gz_cl none X2) args s 0 0 (gx_Z D)) X 116 [some (gx_r (some a0)), some (gx_i x1), none, some (gx_i x3), some (gx_i x4), some (gx_i x5), some (gx_i x6), some (gx_i x7), some (gx_l y8), none, some (gx_i x10), none, none, none, none] [gx_l sy0] := by
  unfold gm_X6_goOn_116 at h
  refine gx_lstore (lv2 := [some (gx_r (some a0)), some (gx_i x1), none, some (gx_i x3), some (gx_i x4), some (gx_i x5), some (gx_i x6), some (gx_i x7), some (gx_l y8), none, some (gx_i x10), some (gx_l sy0), none, none, none]) C dX6_goOn_116 (by decide) rfl ?_
  refine gx_goto (tgt := 153) C dX6_goOn_118 (by decide) ?_
  exact gt_X6_goOn_153 C fu  a0 x1 x3 x4 x5 x6 x7 y8 x10 sy0 X h
def gm_X6_goOn_143 (fu : Nat) (a0 : Nat) (x1 : Int32) (x3 : Int32) (x4 : Int32) (x5 : Int32) (x6 : Int32) (x7 : Int32) (y8 : Int64) (x10 : Int32) (X : gx_H) : Option gx_H :=
  gx_ob X a0 6 <|
  gx_b2 (gm_X6_led fu a0 y8 x7 X) fun vz54 Xz53 =>
  gm_X6_goOn_153 fu  a0 x1 x3 x4 x5 x6 x7 y8 x10 vz54 Xz53
set_option maxHeartbeats 1000000 in
set_option maxRecDepth 20000 in
theorem gt_X6_goOn_143 {p : Program} {l : Launch} {e : Env} {s : State} {m : MethodId} {args : Array Value} {below : List Frame} {meth : Method} {c : Code} {D : gx_D} {X2 : gx_H}  (C : gx_C D gz_cl gz_at gz_tb gz_nb p s m meth c cX6_goOn 15 RX6 none) (fu : Nat) (a0 : Nat) (x1 : Int32) (x3 : Int32) (x4 : Int32) (x5 : Int32) (x6 : Int32) (x7 : Int32) (y8 : Int64) (x10 : Int32) (X : gx_H) (h : gm_X6_goOn_143 fu  a0 x1 x3 x4 x5 x6 x7 y8 x10 X = some X2) : gx_W D gz_cl 15 p l e (gx_rm 2 49 0 0) s m args below meth c 0 0 (MQ below (gx_Q D gz_cl none X2) args s 0 0 (gx_Z D)) X 143 [some (gx_r (some a0)), some (gx_i x1), none, some (gx_i x3), some (gx_i x4), some (gx_i x5), some (gx_i x6), some (gx_i x7), some (gx_l y8), none, some (gx_i x10), none, none, none, none] [] := by
  unfold gm_X6_goOn_143 at h
  refine gx_aload_n C dX6_goOn_143 rfl rfl ?_
  refine gx_lload C dX6_goOn_144 rfl ?_
  refine gx_iload C dX6_goOn_146 rfl ?_
  obtain ⟨hoz52, h⟩ := gx_obs h
  obtain ⟨vz54, Xz53, eXz53, h⟩ := gx_bd2 h
  refine gx_callV (As := [gx_l y8, gx_i x7]) (st := []) (stk2 := [gx_l vz54]) C cd_X6_led wl_647 ws_X6_led wl_645 rfl hoz52 (gc_X6_led fu a0 y8 x7 X vz54 Xz53 eXz53) rfl ⟨Nat.le_of_ble_eq_true rfl, Nat.le_of_ble_eq_true rfl⟩ ⟨Nat.le_of_ble_eq_true rfl, Nat.le_of_ble_eq_true rfl⟩ (Nat.le_of_ble_eq_true rfl) rfl rfl dX6_goOn_148 ?_
  refine gx_lstore (lv2 := [some (gx_r (some a0)), some (gx_i x1), none, some (gx_i x3), some (gx_i x4), some (gx_i x5), some (gx_i x6), some (gx_i x7), some (gx_l y8), none, some (gx_i x10), some (gx_l vz54), none, none, none]) C dX6_goOn_151 (by decide) rfl ?_
  exact gt_X6_goOn_153 C fu  a0 x1 x3 x4 x5 x6 x7 y8 x10 vz54 Xz53 h
def gm_X6_goOn_83 (fu : Nat) (a0 : Nat) (x1 : Int32) (x2 : Int32) (x3 : Int32) (x4 : Int32) (x5 : Int32) (x6 : Int32) (x7 : Int32) (y8 : Int64) (sx0 : Int32) (X : gx_H) : Option gx_H :=
  if x6 = (3 : Int32) then (
  if sx0 = 0 then (
  gm_X6_goOn_116 fu  a0 x1 x3 x4 x5 x6 x7 y8 sx0 (0 : Int64) X) else (
  (gx_gd X a0 6 16).bind fun az63 =>
  (gx_gal X az63 1 (((8 : Int32) * x1) + x7)).bind fun vz64 =>
  gm_X6_goOn_116 fu  a0 x1 x3 x4 x5 x6 x7 y8 sx0 vz64 X)) else (
  if x6 = (5 : Int32) then (
  gm_X6_goOn_143 fu  a0 x1 x3 x4 x5 x6 x7 y8 sx0 X) else (
  if x6 = (4 : Int32) then (
  gx_ob X a0 6 <|
  gx_b2 (gm_X6_isGuarded fu a0 x1 x2 x3 X) fun vz60 Xz59 =>
  if vz60 = 0 then (
  gm_X6_goOn_143 fu  a0 x1 x3 x4 x5 x6 x7 y8 sx0 Xz59) else (
  gm_X6_goOn_153 fu  a0 x1 x3 x4 x5 x6 x7 y8 sx0 y8 Xz59)) else (
  gm_X6_goOn_153 fu  a0 x1 x3 x4 x5 x6 x7 y8 sx0 y8 X)))
set_option maxHeartbeats 1000000 in
set_option maxRecDepth 20000 in
theorem gt_X6_goOn_83 {p : Program} {l : Launch} {e : Env} {s : State} {m : MethodId} {args : Array Value} {below : List Frame} {meth : Method} {c : Code} {D : gx_D} {X2 : gx_H}  (C : gx_C D gz_cl gz_at gz_tb gz_nb p s m meth c cX6_goOn 15 RX6 none) (fu : Nat) (a0 : Nat) (x1 : Int32) (x2 : Int32) (x3 : Int32) (x4 : Int32) (x5 : Int32) (x6 : Int32) (x7 : Int32) (y8 : Int64) (sx0 : Int32) (X : gx_H) (h : gm_X6_goOn_83 fu  a0 x1 x2 x3 x4 x5 x6 x7 y8 sx0 X = some X2) : gx_W D gz_cl 15 p l e (gx_rm 2 49 0 0) s m args below meth c 0 0 (MQ below (gx_Q D gz_cl none X2) args s 0 0 (gx_Z D)) X 83 [some (gx_r (some a0)), some (gx_i x1), some (gx_i x2), some (gx_i x3), some (gx_i x4), some (gx_i x5), some (gx_i x6), some (gx_i x7), some (gx_l y8), none, none, none, none, none, none] [gx_i sx0] := by
  unfold gm_X6_goOn_83 at h
  refine gx_istore (lv2 := [some (gx_r (some a0)), some (gx_i x1), some (gx_i x2), some (gx_i x3), some (gx_i x4), some (gx_i x5), some (gx_i x6), some (gx_i x7), some (gx_l y8), none, some (gx_i sx0), none, none, none, none]) C dX6_goOn_83 (by decide) rfl ?_
  refine gx_lload C dX6_goOn_85 rfl ?_
  refine gx_lstore (lv2 := [some (gx_r (some a0)), some (gx_i x1), some (gx_i x2), some (gx_i x3), some (gx_i x4), some (gx_i x5), some (gx_i x6), some (gx_i x7), some (gx_l y8), none, some (gx_i sx0), some (gx_l y8), none, none, none]) C dX6_goOn_87 (by decide) rfl ?_
  refine gx_iload C dX6_goOn_89 rfl ?_
  refine gx_iconst (v := 3) C dX6_goOn_91 (by decide) ?_
  refine gx_icmp_ne (tgt := 121) C dX6_goOn_92 (by decide) (fun qz55 => ?_) (fun qz55 => ?_)
  · rw [if_neg qz55] at h
    refine gx_iload C dX6_goOn_121 rfl ?_
    refine gx_iconst (v := 5) C dX6_goOn_123 (by decide) ?_
    refine gx_icmp_eq (tgt := 143) C dX6_goOn_124 (by decide) (fun qz56 => ?_) (fun qz56 => ?_)
    · rw [if_pos qz56] at h
      refine gx_sub (lv2 := [some (gx_r (some a0)), some (gx_i x1), none, some (gx_i x3), some (gx_i x4), some (gx_i x5), some (gx_i x6), some (gx_i x7), some (gx_l y8), none, some (gx_i sx0), none, none, none, none]) [true, true, false, true, true, true, true, true, true, false, true, false, false, false, false] rfl ?_
      exact gt_X6_goOn_143 C fu  a0 x1 x3 x4 x5 x6 x7 y8 sx0 X h
    · rw [if_neg qz56] at h
      refine gx_iload C dX6_goOn_127 rfl ?_
      refine gx_iconst (v := 4) C dX6_goOn_129 (by decide) ?_
      refine gx_icmp_ne (tgt := 153) C dX6_goOn_130 (by decide) (fun qz57 => ?_) (fun qz57 => ?_)
      · rw [if_neg qz57] at h
        refine gx_sub (lv2 := [some (gx_r (some a0)), some (gx_i x1), none, some (gx_i x3), some (gx_i x4), some (gx_i x5), some (gx_i x6), some (gx_i x7), some (gx_l y8), none, some (gx_i sx0), some (gx_l y8), none, none, none]) [true, true, false, true, true, true, true, true, true, false, true, true, false, false, false] rfl ?_
        exact gt_X6_goOn_153 C fu  a0 x1 x3 x4 x5 x6 x7 y8 sx0 y8 X h
      · rw [if_pos qz57] at h
        refine gx_aload_n C dX6_goOn_133 rfl rfl ?_
        refine gx_iload_n C dX6_goOn_134 rfl rfl ?_
        refine gx_iload_n C dX6_goOn_135 rfl rfl ?_
        refine gx_iload_n C dX6_goOn_136 rfl rfl ?_
        obtain ⟨hoz58, h⟩ := gx_obs h
        obtain ⟨vz60, Xz59, eXz59, h⟩ := gx_bd2 h
        refine gx_callV (As := [gx_i x1, gx_i x2, gx_i x3]) (st := []) (stk2 := [gx_i vz60]) C cd_X6_isGuarded wl_639 ws_X6_isGuarded wl_637 rfl hoz58 (gc_X6_isGuarded fu a0 x1 x2 x3 X vz60 Xz59 eXz59) rfl ⟨Nat.le_of_ble_eq_true rfl, Nat.le_of_ble_eq_true rfl⟩ ⟨Nat.le_of_ble_eq_true rfl, Nat.le_of_ble_eq_true rfl⟩ (Nat.le_of_ble_eq_true rfl) rfl rfl dX6_goOn_137 ?_
        refine gx_if_ne (tgt := 153) C dX6_goOn_140 (by decide) (fun qz61 => ?_) (fun qz61 => ?_)
        · rw [if_neg qz61] at h
          refine gx_sub (lv2 := [some (gx_r (some a0)), some (gx_i x1), none, some (gx_i x3), some (gx_i x4), some (gx_i x5), some (gx_i x6), some (gx_i x7), some (gx_l y8), none, some (gx_i sx0), some (gx_l y8), none, none, none]) [true, true, false, true, true, true, true, true, true, false, true, true, false, false, false] rfl ?_
          exact gt_X6_goOn_153 C fu  a0 x1 x3 x4 x5 x6 x7 y8 sx0 y8 Xz59 h
        · rw [if_pos qz61] at h
          refine gx_sub (lv2 := [some (gx_r (some a0)), some (gx_i x1), none, some (gx_i x3), some (gx_i x4), some (gx_i x5), some (gx_i x6), some (gx_i x7), some (gx_l y8), none, some (gx_i sx0), none, none, none, none]) [true, true, false, true, true, true, true, true, true, false, true, false, false, false, false] rfl ?_
          exact gt_X6_goOn_143 C fu  a0 x1 x3 x4 x5 x6 x7 y8 sx0 Xz59 h
  · rw [if_pos qz55] at h
    refine gx_iload C dX6_goOn_95 rfl ?_
    refine gx_if_eq (tgt := 115) C dX6_goOn_97 (by decide) (fun qz62 => ?_) (fun qz62 => ?_)
    · rw [if_pos qz62] at h
      refine gx_lconst (v := 0) C dX6_goOn_115 (by decide) ?_
      refine gx_sub (lv2 := [some (gx_r (some a0)), some (gx_i x1), none, some (gx_i x3), some (gx_i x4), some (gx_i x5), some (gx_i x6), some (gx_i x7), some (gx_l y8), none, some (gx_i sx0), none, none, none, none]) [true, true, false, true, true, true, true, true, true, false, true, false, false, false, false] rfl ?_
      exact gt_X6_goOn_116 C fu  a0 x1 x3 x4 x5 x6 x7 y8 sx0 (0 : Int64) X h
    · rw [if_neg qz62] at h
      refine gx_aload_n C dX6_goOn_100 rfl rfl ?_
      obtain ⟨az63, eaz63, h⟩ := gx_bd h
      refine gx_get C kcX6 16 (by decide) wl_513 (gx_gd_s eaz63) dX6_goOn_101 ?_
      refine gx_bipush (v := 8) C dX6_goOn_104 (by decide) ?_
      refine gx_iload_n C dX6_goOn_106 rfl rfl ?_
      refine gx_imul C dX6_goOn_107 ?_
      refine gx_iload C dX6_goOn_108 rfl ?_
      refine gx_iadd C dX6_goOn_110 ?_
      obtain ⟨vz64, evz64, h⟩ := gx_bd h
      refine gx_lald C (t := 1) rfl evz64 dX6_goOn_111 ?_
      refine gx_goto (tgt := 116) C dX6_goOn_112 (by decide) ?_
      refine gx_sub (lv2 := [some (gx_r (some a0)), some (gx_i x1), none, some (gx_i x3), some (gx_i x4), some (gx_i x5), some (gx_i x6), some (gx_i x7), some (gx_l y8), none, some (gx_i sx0), none, none, none, none]) [true, true, false, true, true, true, true, true, true, false, true, false, false, false, false] rfl ?_
      exact gt_X6_goOn_116 C fu  a0 x1 x3 x4 x5 x6 x7 y8 sx0 vz64 X h
def gm_X6_goOn_82 (fu : Nat) (a0 : Nat) (x1 : Int32) (x2 : Int32) (x3 : Int32) (x4 : Int32) (x5 : Int32) (x6 : Int32) (x7 : Int32) (y8 : Int64) (X : gx_H) : Option gx_H :=
  gm_X6_goOn_83 fu  a0 x1 x2 x3 x4 x5 x6 x7 y8 (0 : Int32) X
set_option maxHeartbeats 1000000 in
set_option maxRecDepth 20000 in
theorem gt_X6_goOn_82 {p : Program} {l : Launch} {e : Env} {s : State} {m : MethodId} {args : Array Value} {below : List Frame} {meth : Method} {c : Code} {D : gx_D} {X2 : gx_H}  (C : gx_C D gz_cl gz_at gz_tb gz_nb p s m meth c cX6_goOn 15 RX6 none) (fu : Nat) (a0 : Nat) (x1 : Int32) (x2 : Int32) (x3 : Int32) (x4 : Int32) (x5 : Int32) (x6 : Int32) (x7 : Int32) (y8 : Int64) (X : gx_H) (h : gm_X6_goOn_82 fu  a0 x1 x2 x3 x4 x5 x6 x7 y8 X = some X2) : gx_W D gz_cl 15 p l e (gx_rm 2 49 0 0) s m args below meth c 0 0 (MQ below (gx_Q D gz_cl none X2) args s 0 0 (gx_Z D)) X 82 [some (gx_r (some a0)), some (gx_i x1), some (gx_i x2), some (gx_i x3), some (gx_i x4), some (gx_i x5), some (gx_i x6), some (gx_i x7), some (gx_l y8), none, none, none, none, none, none] [] := by
  unfold gm_X6_goOn_82 at h
  refine gx_iconst (v := 0) C dX6_goOn_82 (by decide) ?_
  exact gt_X6_goOn_83 C fu  a0 x1 x2 x3 x4 x5 x6 x7 y8 (0 : Int32) X h
def gm_X6_goOn (fu : Nat) (this : Nat) (p_0 : Int32) (p_1 : Int32) (p_2 : Int32) (X : gx_H) : Option gx_H :=
  (gx_gd X this 6 7).bind fun az65 =>
  (gx_gai X az65 0 ((((1600 : Int32) * p_0) + ((200 : Int32) * p_1)) + p_2)).bind fun vz66 =>
  (gx_gd X this 6 8).bind fun az67 =>
  (gx_gai X az67 0 ((((1600 : Int32) * p_0) + ((200 : Int32) * p_1)) + p_2)).bind fun vz68 =>
  (gx_gd X this 6 14).bind fun az69 =>
  (gx_gal X az69 1 ((((1600 : Int32) * p_0) + ((200 : Int32) * p_1)) + p_2)).bind fun vz70 =>
  if vz66 = (3 : Int32) then (
  (gx_gd X this 6 4).bind fun az72 =>
  (gx_gai X az72 0 p_0).bind fun vz73 =>
  if vz73 ≤ vz68 then (
  gm_X6_goOn_82 fu  this p_0 p_1 p_2 (((8 : Int32) * p_0) + p_1) (((1600 : Int32) * p_0) + ((200 : Int32) * p_1)) vz66 vz68 vz70 X) else (
  if (lg_cmp vz70 (0 : Int64)) = 0 then (
  gm_X6_goOn_82 fu  this p_0 p_1 p_2 (((8 : Int32) * p_0) + p_1) (((1600 : Int32) * p_0) + ((200 : Int32) * p_1)) vz66 vz68 vz70 X) else (
  gm_X6_goOn_83 fu  this p_0 p_1 p_2 (((8 : Int32) * p_0) + p_1) (((1600 : Int32) * p_0) + ((200 : Int32) * p_1)) vz66 vz68 vz70 (1 : Int32) X))) else (
  gm_X6_goOn_82 fu  this p_0 p_1 p_2 (((8 : Int32) * p_0) + p_1) (((1600 : Int32) * p_0) + ((200 : Int32) * p_1)) vz66 vz68 vz70 X)
set_option maxHeartbeats 1000000 in
set_option maxRecDepth 20000 in
theorem gc_X6_goOn {l : Launch} {D : gx_D} (fu : Nat) (this : Nat) (p_0 : Int32) (p_1 : Int32) (p_2 : Int32) (X : gx_H) (X2 : gx_H) (h : gm_X6_goOn fu this p_0 p_1 p_2 X = some X2) : gx_M D gz_cl gz_at gz_tb gz_nb l yX6_goOn cX6_goOn 15 none 2 49 [gx_r (some this), gx_i p_0, gx_i p_1, gx_i p_2] X none X2 0 0 := by
  unfold gm_X6_goOn at h
  refine gx_enter [some (gx_r (some this)), some (gx_i p_0), some (gx_i p_1), some (gx_i p_2), none, none, none, none, none, none, none, none, none, none, none] rfl (by decide) (Nat.le_of_ble_eq_true rfl) ?_
  intro p e s m below meth c C _
  refine gx_bipush (v := 8) C dX6_goOn_0 (by decide) ?_
  refine gx_iload_n C dX6_goOn_2 rfl rfl ?_
  refine gx_imul C dX6_goOn_3 ?_
  refine gx_iload_n C dX6_goOn_4 rfl rfl ?_
  refine gx_iadd C dX6_goOn_5 ?_
  refine gx_istore (lv2 := [some (gx_r (some this)), some (gx_i p_0), some (gx_i p_1), some (gx_i p_2), some (gx_i (((8 : Int32) * p_0) + p_1)), none, none, none, none, none, none, none, none, none, none]) C dX6_goOn_6 (by decide) rfl ?_
  refine gx_sipush (v := 1600) C dX6_goOn_8 (by decide) ?_
  refine gx_iload_n C dX6_goOn_11 rfl rfl ?_
  refine gx_imul C dX6_goOn_12 ?_
  refine gx_sipush (v := 200) C dX6_goOn_13 (by decide) ?_
  refine gx_iload_n C dX6_goOn_16 rfl rfl ?_
  refine gx_imul C dX6_goOn_17 ?_
  refine gx_iadd C dX6_goOn_18 ?_
  refine gx_istore (lv2 := [some (gx_r (some this)), some (gx_i p_0), some (gx_i p_1), some (gx_i p_2), some (gx_i (((8 : Int32) * p_0) + p_1)), some (gx_i (((1600 : Int32) * p_0) + ((200 : Int32) * p_1))), none, none, none, none, none, none, none, none, none]) C dX6_goOn_19 (by decide) rfl ?_
  refine gx_aload_n C dX6_goOn_21 rfl rfl ?_
  obtain ⟨az65, eaz65, h⟩ := gx_bd h
  refine gx_get C kcX6 7 (by decide) wl_504 (gx_gd_s eaz65) dX6_goOn_22 ?_
  refine gx_iload C dX6_goOn_25 rfl ?_
  refine gx_iload_n C dX6_goOn_27 rfl rfl ?_
  refine gx_iadd C dX6_goOn_28 ?_
  obtain ⟨vz66, evz66, h⟩ := gx_bd h
  refine gx_iald C (t := 0) rfl evz66 dX6_goOn_29 ?_
  refine gx_istore (lv2 := [some (gx_r (some this)), some (gx_i p_0), some (gx_i p_1), some (gx_i p_2), some (gx_i (((8 : Int32) * p_0) + p_1)), some (gx_i (((1600 : Int32) * p_0) + ((200 : Int32) * p_1))), some (gx_i vz66), none, none, none, none, none, none, none, none]) C dX6_goOn_30 (by decide) rfl ?_
  refine gx_aload_n C dX6_goOn_32 rfl rfl ?_
  obtain ⟨az67, eaz67, h⟩ := gx_bd h
  refine gx_get C kcX6 8 (by decide) wl_505 (gx_gd_s eaz67) dX6_goOn_33 ?_
  refine gx_iload C dX6_goOn_36 rfl ?_
  refine gx_iload_n C dX6_goOn_38 rfl rfl ?_
  refine gx_iadd C dX6_goOn_39 ?_
  obtain ⟨vz68, evz68, h⟩ := gx_bd h
  refine gx_iald C (t := 0) rfl evz68 dX6_goOn_40 ?_
  refine gx_istore (lv2 := [some (gx_r (some this)), some (gx_i p_0), some (gx_i p_1), some (gx_i p_2), some (gx_i (((8 : Int32) * p_0) + p_1)), some (gx_i (((1600 : Int32) * p_0) + ((200 : Int32) * p_1))), some (gx_i vz66), some (gx_i vz68), none, none, none, none, none, none, none]) C dX6_goOn_41 (by decide) rfl ?_
  refine gx_aload_n C dX6_goOn_43 rfl rfl ?_
  obtain ⟨az69, eaz69, h⟩ := gx_bd h
  refine gx_get C kcX6 14 (by decide) wl_511 (gx_gd_s eaz69) dX6_goOn_44 ?_
  refine gx_iload C dX6_goOn_47 rfl ?_
  refine gx_iload_n C dX6_goOn_49 rfl rfl ?_
  refine gx_iadd C dX6_goOn_50 ?_
  obtain ⟨vz70, evz70, h⟩ := gx_bd h
  refine gx_lald C (t := 1) rfl evz70 dX6_goOn_51 ?_
  refine gx_lstore (lv2 := [some (gx_r (some this)), some (gx_i p_0), some (gx_i p_1), some (gx_i p_2), some (gx_i (((8 : Int32) * p_0) + p_1)), some (gx_i (((1600 : Int32) * p_0) + ((200 : Int32) * p_1))), some (gx_i vz66), some (gx_i vz68), some (gx_l vz70), none, none, none, none, none, none]) C dX6_goOn_52 (by decide) rfl ?_
  refine gx_iload C dX6_goOn_54 rfl ?_
  refine gx_iconst (v := 3) C dX6_goOn_56 (by decide) ?_
  refine gx_icmp_ne (tgt := 82) C dX6_goOn_57 (by decide) (fun qz71 => ?_) (fun qz71 => ?_)
  · rw [if_neg qz71] at h
    exact gt_X6_goOn_82 C fu  this p_0 p_1 p_2 (((8 : Int32) * p_0) + p_1) (((1600 : Int32) * p_0) + ((200 : Int32) * p_1)) vz66 vz68 vz70 X h
  · rw [if_pos qz71] at h
    refine gx_iload C dX6_goOn_60 rfl ?_
    refine gx_aload_n C dX6_goOn_62 rfl rfl ?_
    obtain ⟨az72, eaz72, h⟩ := gx_bd h
    refine gx_get C kcX6 4 (by decide) wl_501 (gx_gd_s eaz72) dX6_goOn_63 ?_
    refine gx_iload_n C dX6_goOn_66 rfl rfl ?_
    obtain ⟨vz73, evz73, h⟩ := gx_bd h
    refine gx_iald C (t := 0) rfl evz73 dX6_goOn_67 ?_
    refine gx_icmp_ge (tgt := 82) C dX6_goOn_68 (by decide) (fun qz74 => ?_) (fun qz74 => ?_)
    · rw [if_pos qz74] at h
      exact gt_X6_goOn_82 C fu  this p_0 p_1 p_2 (((8 : Int32) * p_0) + p_1) (((1600 : Int32) * p_0) + ((200 : Int32) * p_1)) vz66 vz68 vz70 X h
    · rw [if_neg qz74] at h
      refine gx_lload C dX6_goOn_71 rfl ?_
      refine gx_lconst (v := 0) C dX6_goOn_73 (by decide) ?_
      refine gx_lcmp C dX6_goOn_74 ?_
      refine gx_if_eq (tgt := 82) C dX6_goOn_75 (by decide) (fun qz75 => ?_) (fun qz75 => ?_)
      · rw [if_pos qz75] at h
        exact gt_X6_goOn_82 C fu  this p_0 p_1 p_2 (((8 : Int32) * p_0) + p_1) (((1600 : Int32) * p_0) + ((200 : Int32) * p_1)) vz66 vz68 vz70 X h
      · rw [if_neg qz75] at h
        refine gx_iconst (v := 1) C dX6_goOn_78 (by decide) ?_
        refine gx_goto (tgt := 83) C dX6_goOn_79 (by decide) ?_
        exact gt_X6_goOn_83 C fu  this p_0 p_1 p_2 (((8 : Int32) * p_0) + p_1) (((1600 : Int32) * p_0) + ((200 : Int32) * p_1)) vz66 vz68 vz70 (1 : Int32) X h
