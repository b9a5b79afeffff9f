/-! methods: X6_take, X6_way -/
theorem dX6_take_0 : decode cX6_take 0 = .ok (.aload_n 0, 1) := by decide +kernel
theorem dX6_take_1 : decode cX6_take 1 = .ok (.iconst 0, 1) := by decide +kernel
theorem dX6_take_2 : decode cX6_take 2 = .ok (.putfield 65, 3) := by decide +kernel
theorem dX6_take_5 : decode cX6_take 5 = .ok (.aload_n 0, 1) := by decide +kernel
theorem dX6_take_6 : decode cX6_take 6 = .ok (.getfield 68, 3) := by decide +kernel
theorem dX6_take_9 : decode cX6_take 9 = .ok (.ifCond .ne 5, 3) := by decide +kernel
theorem dX6_take_12 : decode cX6_take 12 = .ok (.iconst 0, 1) := by decide +kernel
theorem dX6_take_13 : decode cX6_take 13 = .ok (.ireturn, 1) := by decide +kernel
theorem dX6_take_14 : decode cX6_take 14 = .ok (.aload_n 0, 1) := by decide +kernel
theorem dX6_take_15 : decode cX6_take 15 = .ok (.getfield 21, 3) := by decide +kernel
theorem dX6_take_18 : decode cX6_take 18 = .ok (.iconst 0, 1) := by decide +kernel
theorem dX6_take_19 : decode cX6_take 19 = .ok (.aload_n 0, 1) := by decide +kernel
theorem dX6_take_20 : decode cX6_take 20 = .ok (.getfield 21, 3) := by decide +kernel
theorem dX6_take_23 : decode cX6_take 23 = .ok (.iconst 1, 1) := by decide +kernel
theorem dX6_take_24 : decode cX6_take 24 = .ok (.iaload, 1) := by decide +kernel
theorem dX6_take_25 : decode cX6_take 25 = .ok (.iastore, 1) := by decide +kernel
theorem dX6_take_26 : decode cX6_take 26 = .ok (.iconst 0, 1) := by decide +kernel
theorem dX6_take_27 : decode cX6_take 27 = .ok (.istore_n 1, 1) := by decide +kernel
theorem dX6_take_28 : decode cX6_take 28 = .ok (.iload_n 1, 1) := by decide +kernel
theorem dX6_take_29 : decode cX6_take 29 = .ok (.sipush 1600, 3) := by decide +kernel
theorem dX6_take_32 : decode cX6_take 32 = .ok (.if_icmp .ge 41, 3) := by decide +kernel
theorem dX6_take_35 : decode cX6_take 35 = .ok (.aload_n 0, 1) := by decide +kernel
theorem dX6_take_36 : decode cX6_take 36 = .ok (.getfield 31, 3) := by decide +kernel
theorem dX6_take_39 : decode cX6_take 39 = .ok (.iload_n 1, 1) := by decide +kernel
theorem dX6_take_40 : decode cX6_take 40 = .ok (.aload_n 0, 1) := by decide +kernel
theorem dX6_take_41 : decode cX6_take 41 = .ok (.getfield 31, 3) := by decide +kernel
theorem dX6_take_44 : decode cX6_take 44 = .ok (.sipush 1600, 3) := by decide +kernel
theorem dX6_take_47 : decode cX6_take 47 = .ok (.iload_n 1, 1) := by decide +kernel
theorem dX6_take_48 : decode cX6_take 48 = .ok (.iadd, 1) := by decide +kernel
theorem dX6_take_49 : decode cX6_take 49 = .ok (.iaload, 1) := by decide +kernel
theorem dX6_take_50 : decode cX6_take 50 = .ok (.iastore, 1) := by decide +kernel
theorem dX6_take_51 : decode cX6_take 51 = .ok (.aload_n 0, 1) := by decide +kernel
theorem dX6_take_52 : decode cX6_take 52 = .ok (.getfield 34, 3) := by decide +kernel
theorem dX6_take_55 : decode cX6_take 55 = .ok (.iload_n 1, 1) := by decide +kernel
theorem dX6_take_56 : decode cX6_take 56 = .ok (.aload_n 0, 1) := by decide +kernel
theorem dX6_take_57 : decode cX6_take 57 = .ok (.getfield 34, 3) := by decide +kernel
theorem dX6_take_60 : decode cX6_take 60 = .ok (.sipush 1600, 3) := by decide +kernel
theorem dX6_take_63 : decode cX6_take 63 = .ok (.iload_n 1, 1) := by decide +kernel
theorem dX6_take_64 : decode cX6_take 64 = .ok (.iadd, 1) := by decide +kernel
theorem dX6_take_65 : decode cX6_take 65 = .ok (.iaload, 1) := by decide +kernel
theorem dX6_take_66 : decode cX6_take 66 = .ok (.iastore, 1) := by decide +kernel
theorem dX6_take_67 : decode cX6_take 67 = .ok (.iinc 1 1, 3) := by decide +kernel
theorem dX6_take_70 : decode cX6_take 70 = .ok (.goto (-42), 3) := by decide +kernel
theorem dX6_take_73 : decode cX6_take 73 = .ok (.iconst 0, 1) := by decide +kernel
theorem dX6_take_74 : decode cX6_take 74 = .ok (.istore_n 1, 1) := by decide +kernel
theorem dX6_take_75 : decode cX6_take 75 = .ok (.iload_n 1, 1) := by decide +kernel
theorem dX6_take_76 : decode cX6_take 76 = .ok (.bipush 8, 2) := by decide +kernel
theorem dX6_take_78 : decode cX6_take 78 = .ok (.if_icmp .ge 39, 3) := by decide +kernel
theorem dX6_take_81 : decode cX6_take 81 = .ok (.aload_n 0, 1) := by decide +kernel
theorem dX6_take_82 : decode cX6_take 82 = .ok (.getfield 25, 3) := by decide +kernel
theorem dX6_take_85 : decode cX6_take 85 = .ok (.iload_n 1, 1) := by decide +kernel
theorem dX6_take_86 : decode cX6_take 86 = .ok (.aload_n 0, 1) := by decide +kernel
theorem dX6_take_87 : decode cX6_take 87 = .ok (.getfield 25, 3) := by decide +kernel
theorem dX6_take_90 : decode cX6_take 90 = .ok (.bipush 8, 2) := by decide +kernel
theorem dX6_take_92 : decode cX6_take 92 = .ok (.iload_n 1, 1) := by decide +kernel
theorem dX6_take_93 : decode cX6_take 93 = .ok (.iadd, 1) := by decide +kernel
theorem dX6_take_94 : decode cX6_take 94 = .ok (.iaload, 1) := by decide +kernel
theorem dX6_take_95 : decode cX6_take 95 = .ok (.iastore, 1) := by decide +kernel
theorem dX6_take_96 : decode cX6_take 96 = .ok (.aload_n 0, 1) := by decide +kernel
theorem dX6_take_97 : decode cX6_take 97 = .ok (.getfield 28, 3) := by decide +kernel
theorem dX6_take_100 : decode cX6_take 100 = .ok (.iload_n 1, 1) := by decide +kernel
theorem dX6_take_101 : decode cX6_take 101 = .ok (.aload_n 0, 1) := by decide +kernel
theorem dX6_take_102 : decode cX6_take 102 = .ok (.getfield 28, 3) := by decide +kernel
theorem dX6_take_105 : decode cX6_take 105 = .ok (.bipush 8, 2) := by decide +kernel
theorem dX6_take_107 : decode cX6_take 107 = .ok (.iload_n 1, 1) := by decide +kernel
theorem dX6_take_108 : decode cX6_take 108 = .ok (.iadd, 1) := by decide +kernel
theorem dX6_take_109 : decode cX6_take 109 = .ok (.iaload, 1) := by decide +kernel
theorem dX6_take_110 : decode cX6_take 110 = .ok (.iastore, 1) := by decide +kernel
theorem dX6_take_111 : decode cX6_take 111 = .ok (.iinc 1 1, 3) := by decide +kernel
theorem dX6_take_114 : decode cX6_take 114 = .ok (.goto (-39), 3) := by decide +kernel
theorem dX6_take_117 : decode cX6_take 117 = .ok (.iconst 0, 1) := by decide +kernel
theorem dX6_take_118 : decode cX6_take 118 = .ok (.istore_n 1, 1) := by decide +kernel
theorem dX6_take_119 : decode cX6_take 119 = .ok (.iload_n 1, 1) := by decide +kernel
theorem dX6_take_120 : decode cX6_take 120 = .ok (.bipush 48, 2) := by decide +kernel
theorem dX6_take_122 : decode cX6_take 122 = .ok (.if_icmp .ge 54, 3) := by decide +kernel
theorem dX6_take_125 : decode cX6_take 125 = .ok (.aload_n 0, 1) := by decide +kernel
theorem dX6_take_126 : decode cX6_take 126 = .ok (.getfield 37, 3) := by decide +kernel
theorem dX6_take_129 : decode cX6_take 129 = .ok (.iload_n 1, 1) := by decide +kernel
theorem dX6_take_130 : decode cX6_take 130 = .ok (.aload_n 0, 1) := by decide +kernel
theorem dX6_take_131 : decode cX6_take 131 = .ok (.getfield 37, 3) := by decide +kernel
theorem dX6_take_134 : decode cX6_take 134 = .ok (.bipush 48, 2) := by decide +kernel
theorem dX6_take_136 : decode cX6_take 136 = .ok (.iload_n 1, 1) := by decide +kernel
theorem dX6_take_137 : decode cX6_take 137 = .ok (.iadd, 1) := by decide +kernel
theorem dX6_take_138 : decode cX6_take 138 = .ok (.iaload, 1) := by decide +kernel
theorem dX6_take_139 : decode cX6_take 139 = .ok (.iastore, 1) := by decide +kernel
theorem dX6_take_140 : decode cX6_take 140 = .ok (.aload_n 0, 1) := by decide +kernel
theorem dX6_take_141 : decode cX6_take 141 = .ok (.getfield 40, 3) := by decide +kernel
theorem dX6_take_144 : decode cX6_take 144 = .ok (.iload_n 1, 1) := by decide +kernel
theorem dX6_take_145 : decode cX6_take 145 = .ok (.aload_n 0, 1) := by decide +kernel
theorem dX6_take_146 : decode cX6_take 146 = .ok (.getfield 40, 3) := by decide +kernel
theorem dX6_take_149 : decode cX6_take 149 = .ok (.bipush 48, 2) := by decide +kernel
theorem dX6_take_151 : decode cX6_take 151 = .ok (.iload_n 1, 1) := by decide +kernel
theorem dX6_take_152 : decode cX6_take 152 = .ok (.iadd, 1) := by decide +kernel
theorem dX6_take_153 : decode cX6_take 153 = .ok (.iaload, 1) := by decide +kernel
theorem dX6_take_154 : decode cX6_take 154 = .ok (.iastore, 1) := by decide +kernel
theorem dX6_take_155 : decode cX6_take 155 = .ok (.aload_n 0, 1) := by decide +kernel
theorem dX6_take_156 : decode cX6_take 156 = .ok (.getfield 43, 3) := by decide +kernel
theorem dX6_take_159 : decode cX6_take 159 = .ok (.iload_n 1, 1) := by decide +kernel
theorem dX6_take_160 : decode cX6_take 160 = .ok (.aload_n 0, 1) := by decide +kernel
theorem dX6_take_161 : decode cX6_take 161 = .ok (.getfield 43, 3) := by decide +kernel
theorem dX6_take_164 : decode cX6_take 164 = .ok (.bipush 48, 2) := by decide +kernel
theorem dX6_take_166 : decode cX6_take 166 = .ok (.iload_n 1, 1) := by decide +kernel
theorem dX6_take_167 : decode cX6_take 167 = .ok (.iadd, 1) := by decide +kernel
theorem dX6_take_168 : decode cX6_take 168 = .ok (.iaload, 1) := by decide +kernel
theorem dX6_take_169 : decode cX6_take 169 = .ok (.iastore, 1) := by decide +kernel
theorem dX6_take_170 : decode cX6_take 170 = .ok (.iinc 1 1, 3) := by decide +kernel
theorem dX6_take_173 : decode cX6_take 173 = .ok (.goto (-54), 3) := by decide +kernel
theorem dX6_take_176 : decode cX6_take 176 = .ok (.aload_n 0, 1) := by decide +kernel
theorem dX6_take_177 : decode cX6_take 177 = .ok (.invokevirtual 76, 3) := by decide +kernel
theorem dX6_take_180 : decode cX6_take 180 = .ok (.iconst 1, 1) := by decide +kernel
theorem dX6_take_181 : decode cX6_take 181 = .ok (.ireturn, 1) := by decide +kernel
def gm_X6_take_119 (fu : Nat) : Nat → Nat → Int32 → gx_H → Option (Int32 × gx_H)
  | 0, _, _, _ => none
  | n + 1, a0, x1, X =>
    if (48 : Int32) ≤ x1 then (
    gx_ob X a0 6 <|
    (gm_X6_change fu a0 X).bind fun Xz3 =>
    some ((1 : Int32), Xz3)) else (
    (gx_gd X a0 6 9).bind fun az4 =>
    (gx_gd X a0 6 9).bind fun az5 =>
    (gx_gai X az5 0 ((48 : Int32) + x1)).bind fun vz6 =>
    (gx_pai X az4 0 x1 vz6).bind fun Xz7 =>
    (gx_gd Xz7 a0 6 10).bind fun az8 =>
    (gx_gd Xz7 a0 6 10).bind fun az9 =>
    (gx_gai Xz7 az9 0 ((48 : Int32) + x1)).bind fun vz10 =>
    (gx_pai Xz7 az8 0 x1 vz10).bind fun Xz11 =>
    (gx_gd Xz11 a0 6 11).bind fun az12 =>
    (gx_gd Xz11 a0 6 11).bind fun az13 =>
    (gx_gai Xz11 az13 0 ((48 : Int32) + x1)).bind fun vz14 =>
    (gx_pai Xz11 az12 0 x1 vz14).bind fun Xz15 =>
    (gm_X6_take_119 fu  n) a0 (x1 + 1) Xz15)
set_option maxHeartbeats 1000000 in
set_option maxRecDepth 20000 in
theorem gt_X6_take_119 {p : Program} {l : Launch} {e : Env} {s : State} {m : MethodId} {args : Array Value} {below : List Frame} {meth : Method} {c : Code} {D : gx_D} {r : Int32} {X2 : gx_H}  (C : gx_C D gz_cl gz_at gz_tb gz_nb p s m meth c cX6_take 2 RX6 (some .boolean)) (fu : Nat) : ∀ (n : Nat) (a0 : Nat) (x1 : Int32) (X : gx_H) , gm_X6_take_119 fu  n a0 x1 X = some (r, X2) → gx_W D gz_cl 2 p l e (gx_rm 1 20 0 0) s m args below meth c 0 0 (MQ below (gx_Q D gz_cl (some (gx_i r)) X2) args s 0 0 (gx_Z D)) X 119 [some (gx_r (some a0)), some (gx_i x1)] [] := by
  intro n
  induction n with
  | zero =>
    intro a0 x1 X h
    have h : none = some _ := h
    cases h
  | succ n ih =>
    intro a0 x1 X h
    rw [gm_X6_take_119] at h
    refine gx_iload_n C dX6_take_119 rfl rfl ?_
    refine gx_bipush (v := 48) C dX6_take_120 (by decide) ?_
    refine gx_icmp_ge (tgt := 176) C dX6_take_122 (by decide) (fun qz1 => ?_) (fun qz1 => ?_)
    · rw [if_pos qz1] at h
      refine gx_aload_n C dX6_take_176 rfl rfl ?_
      obtain ⟨hoz2, h⟩ := gx_obs h
      obtain ⟨Xz3, eXz3, h⟩ := gx_bd h
      refine gx_callV (As := []) (st := []) (stk2 := []) C cd_X6_change wl_564 ws_X6_change wl_562 rfl hoz2 (gc_X6_change fu a0 X Xz3 eXz3) rfl ⟨Nat.le_of_ble_eq_true rfl, Nat.le_of_ble_eq_true rfl⟩ ⟨Nat.le_of_ble_eq_true rfl, Nat.le_of_ble_eq_true rfl⟩ (Nat.le_of_ble_eq_true rfl) rfl rfl dX6_take_177 ?_
      refine gx_iconst (v := 1) C dX6_take_180 (by decide) ?_
      cases h
      exact gx_zret (Or.inr rfl) C dX6_take_181
    · rw [if_neg qz1] at h
      refine gx_aload_n C dX6_take_125 rfl rfl ?_
      obtain ⟨az4, eaz4, h⟩ := gx_bd h
      refine gx_get C kcX6 9 (by decide) wl_506 (gx_gd_s eaz4) dX6_take_126 ?_
      refine gx_iload_n C dX6_take_129 rfl rfl ?_
      refine gx_aload_n C dX6_take_130 rfl rfl ?_
      obtain ⟨az5, eaz5, h⟩ := gx_bd h
      refine gx_get C kcX6 9 (by decide) wl_506 (gx_gd_s eaz5) dX6_take_131 ?_
      refine gx_bipush (v := 48) C dX6_take_134 (by decide) ?_
      refine gx_iload_n C dX6_take_136 rfl rfl ?_
      refine gx_iadd C dX6_take_137 ?_
      obtain ⟨vz6, evz6, h⟩ := gx_bd h
      refine gx_iald C (t := 0) rfl evz6 dX6_take_138 ?_
      obtain ⟨Xz7, eXz7, h⟩ := gx_bd h
      refine gx_iast C (t := 0) rfl eXz7 dX6_take_139 ?_
      refine gx_aload_n C dX6_take_140 rfl rfl ?_
      obtain ⟨az8, eaz8, h⟩ := gx_bd h
      refine gx_get C kcX6 10 (by decide) wl_507 (gx_gd_s eaz8) dX6_take_141 ?_
      refine gx_iload_n C dX6_take_144 rfl rfl ?_
      refine gx_aload_n C dX6_take_145 rfl rfl ?_
      obtain ⟨az9, eaz9, h⟩ := gx_bd h
      refine gx_get C kcX6 10 (by decide) wl_507 (gx_gd_s eaz9) dX6_take_146 ?_
      refine gx_bipush (v := 48) C dX6_take_149 (by decide) ?_
      refine gx_iload_n C dX6_take_151 rfl rfl ?_
      refine gx_iadd C dX6_take_152 ?_
      obtain ⟨vz10, evz10, h⟩ := gx_bd h
      refine gx_iald C (t := 0) rfl evz10 dX6_take_153 ?_
      obtain ⟨Xz11, eXz11, h⟩ := gx_bd h
      refine gx_iast C (t := 0) rfl eXz11 dX6_take_154 ?_
      refine gx_aload_n C dX6_take_155 rfl rfl ?_
      obtain ⟨az12, eaz12, h⟩ := gx_bd h
      refine gx_get C kcX6 11 (by decide) wl_508 (gx_gd_s eaz12) dX6_take_156 ?_
      refine gx_iload_n C dX6_take_159 rfl rfl ?_
      refine gx_aload_n C dX6_take_160 rfl rfl ?_
      obtain ⟨az13, eaz13, h⟩ := gx_bd h
      refine gx_get C kcX6 11 (by decide) wl_508 (gx_gd_s eaz13) dX6_take_161 ?_
      refine gx_bipush (v := 48) C dX6_take_164 (by decide) ?_
      refine gx_iload_n C dX6_take_166 rfl rfl ?_
      refine gx_iadd C dX6_take_167 ?_
      obtain ⟨vz14, evz14, h⟩ := gx_bd h
      refine gx_iald C (t := 0) rfl evz14 dX6_take_168 ?_
      obtain ⟨Xz15, eXz15, h⟩ := gx_bd h
      refine gx_iast C (t := 0) rfl eXz15 dX6_take_169 ?_
      refine gx_iinc (v := (x1 + 1)) (lv2 := [some (gx_r (some a0)), some (gx_i (x1 + 1))]) C dX6_take_170 rfl rfl (by decide) rfl ?_
      refine gx_goto (tgt := 119) C dX6_take_173 (by decide) ?_
      exact ih a0 (x1 + 1) Xz15 h
def gm_X6_take_75 (fu : Nat) : Nat → Nat → Int32 → gx_H → Option (Int32 × gx_H)
  | 0, _, _, _ => none
  | n + 1, a0, x1, X =>
    if (8 : Int32) ≤ x1 then (
    gm_X6_take_119 fu  fu a0 (0 : Int32) X) else (
    (gx_gd X a0 6 5).bind fun az17 =>
    (gx_gd X a0 6 5).bind fun az18 =>
    (gx_gai X az18 0 ((8 : Int32) + x1)).bind fun vz19 =>
    (gx_pai X az17 0 x1 vz19).bind fun Xz20 =>
    (gx_gd Xz20 a0 6 6).bind fun az21 =>
    (gx_gd Xz20 a0 6 6).bind fun az22 =>
    (gx_gai Xz20 az22 0 ((8 : Int32) + x1)).bind fun vz23 =>
    (gx_pai Xz20 az21 0 x1 vz23).bind fun Xz24 =>
    (gm_X6_take_75 fu  n) a0 (x1 + 1) Xz24)
set_option maxHeartbeats 1000000 in
set_option maxRecDepth 20000 in
theorem gt_X6_take_75 {p : Program} {l : Launch} {e : Env} {s : State} {m : MethodId} {args : Array Value} {below : List Frame} {meth : Method} {c : Code} {D : gx_D} {r : Int32} {X2 : gx_H}  (C : gx_C D gz_cl gz_at gz_tb gz_nb p s m meth c cX6_take 2 RX6 (some .boolean)) (fu : Nat) : ∀ (n : Nat) (a0 : Nat) (x1 : Int32) (X : gx_H) , gm_X6_take_75 fu  n a0 x1 X = some (r, X2) → gx_W D gz_cl 2 p l e (gx_rm 1 20 0 0) s m args below meth c 0 0 (MQ below (gx_Q D gz_cl (some (gx_i r)) X2) args s 0 0 (gx_Z D)) X 75 [some (gx_r (some a0)), some (gx_i x1)] [] := by
  intro n
  induction n with
  | zero =>
    intro a0 x1 X h
    have h : none = some _ := h
    cases h
  | succ n ih =>
    intro a0 x1 X h
    rw [gm_X6_take_75] at h
    refine gx_iload_n C dX6_take_75 rfl rfl ?_
    refine gx_bipush (v := 8) C dX6_take_76 (by decide) ?_
    refine gx_icmp_ge (tgt := 117) C dX6_take_78 (by decide) (fun qz16 => ?_) (fun qz16 => ?_)
    · rw [if_pos qz16] at h
      refine gx_iconst (v := 0) C dX6_take_117 (by decide) ?_
      refine gx_istore_n (lv2 := [some (gx_r (some a0)), some (gx_i (0 : Int32))]) C dX6_take_118 rfl (by decide) rfl ?_
      exact gt_X6_take_119 C fu  fu a0 (0 : Int32) X h
    · rw [if_neg qz16] at h
      refine gx_aload_n C dX6_take_81 rfl rfl ?_
      obtain ⟨az17, eaz17, h⟩ := gx_bd h
      refine gx_get C kcX6 5 (by decide) wl_502 (gx_gd_s eaz17) dX6_take_82 ?_
      refine gx_iload_n C dX6_take_85 rfl rfl ?_
      refine gx_aload_n C dX6_take_86 rfl rfl ?_
      obtain ⟨az18, eaz18, h⟩ := gx_bd h
      refine gx_get C kcX6 5 (by decide) wl_502 (gx_gd_s eaz18) dX6_take_87 ?_
      refine gx_bipush (v := 8) C dX6_take_90 (by decide) ?_
      refine gx_iload_n C dX6_take_92 rfl rfl ?_
      refine gx_iadd C dX6_take_93 ?_
      obtain ⟨vz19, evz19, h⟩ := gx_bd h
      refine gx_iald C (t := 0) rfl evz19 dX6_take_94 ?_
      obtain ⟨Xz20, eXz20, h⟩ := gx_bd h
      refine gx_iast C (t := 0) rfl eXz20 dX6_take_95 ?_
      refine gx_aload_n C dX6_take_96 rfl rfl ?_
      obtain ⟨az21, eaz21, h⟩ := gx_bd h
      refine gx_get C kcX6 6 (by decide) wl_503 (gx_gd_s eaz21) dX6_take_97 ?_
      refine gx_iload_n C dX6_take_100 rfl rfl ?_
      refine gx_aload_n C dX6_take_101 rfl rfl ?_
      obtain ⟨az22, eaz22, h⟩ := gx_bd h
      refine gx_get C kcX6 6 (by decide) wl_503 (gx_gd_s eaz22) dX6_take_102 ?_
      refine gx_bipush (v := 8) C dX6_take_105 (by decide) ?_
      refine gx_iload_n C dX6_take_107 rfl rfl ?_
      refine gx_iadd C dX6_take_108 ?_
      obtain ⟨vz23, evz23, h⟩ := gx_bd h
      refine gx_iald C (t := 0) rfl evz23 dX6_take_109 ?_
      obtain ⟨Xz24, eXz24, h⟩ := gx_bd h
      refine gx_iast C (t := 0) rfl eXz24 dX6_take_110 ?_
      refine gx_iinc (v := (x1 + 1)) (lv2 := [some (gx_r (some a0)), some (gx_i (x1 + 1))]) C dX6_take_111 rfl rfl (by decide) rfl ?_
      refine gx_goto (tgt := 75) C dX6_take_114 (by decide) ?_
      exact ih a0 (x1 + 1) Xz24 h
def gm_X6_take_28 (fu : Nat) : Nat → Nat → Int32 → gx_H → Option (Int32 × gx_H)
  | 0, _, _, _ => none
  | n + 1, a0, x1, X =>
    if (1600 : Int32) ≤ x1 then (
    gm_X6_take_75 fu  fu a0 (0 : Int32) X) else (
    (gx_gd X a0 6 7).bind fun az26 =>
    (gx_gd X a0 6 7).bind fun az27 =>
    (gx_gai X az27 0 ((1600 : Int32) + x1)).bind fun vz28 =>
    (gx_pai X az26 0 x1 vz28).bind fun Xz29 =>
    (gx_gd Xz29 a0 6 8).bind fun az30 =>
    (gx_gd Xz29 a0 6 8).bind fun az31 =>
    (gx_gai Xz29 az31 0 ((1600 : Int32) + x1)).bind fun vz32 =>
    (gx_pai Xz29 az30 0 x1 vz32).bind fun Xz33 =>
    (gm_X6_take_28 fu  n) a0 (x1 + 1) Xz33)
set_option maxHeartbeats 1000000 in
set_option maxRecDepth 20000 in
theorem gt_X6_take_28 {p : Program} {l : Launch} {e : Env} {s : State} {m : MethodId} {args : Array Value} {below : List Frame} {meth : Method} {c : Code} {D : gx_D} {r : Int32} {X2 : gx_H}  (C : gx_C D gz_cl gz_at gz_tb gz_nb p s m meth c cX6_take 2 RX6 (some .boolean)) (fu : Nat) : ∀ (n : Nat) (a0 : Nat) (x1 : Int32) (X : gx_H) , gm_X6_take_28 fu  n a0 x1 X = some (r, X2) → gx_W D gz_cl 2 p l e (gx_rm 1 20 0 0) s m args below meth c 0 0 (MQ below (gx_Q D gz_cl (some (gx_i r)) X2) args s 0 0 (gx_Z D)) X 28 [some (gx_r (some a0)), some (gx_i x1)] [] := by
  intro n
  induction n with
  | zero =>
    intro a0 x1 X h
    have h : none = some _ := h
    cases h
  | succ n ih =>
    intro a0 x1 X h
    rw [gm_X6_take_28] at h
    refine gx_iload_n C dX6_take_28 rfl rfl ?_
    refine gx_sipush (v := 1600) C dX6_take_29 (by decide) ?_
    refine gx_icmp_ge (tgt := 73) C dX6_take_32 (by decide) (fun qz25 => ?_) (fun qz25 => ?_)
    · rw [if_pos qz25] at h
      refine gx_iconst (v := 0) C dX6_take_73 (by decide) ?_
      refine gx_istore_n (lv2 := [some (gx_r (some a0)), some (gx_i (0 : Int32))]) C dX6_take_74 rfl (by decide) rfl ?_
      exact gt_X6_take_75 C fu  fu a0 (0 : Int32) X h
    · rw [if_neg qz25] at h
      refine gx_aload_n C dX6_take_35 rfl rfl ?_
      obtain ⟨az26, eaz26, h⟩ := gx_bd h
      refine gx_get C kcX6 7 (by decide) wl_504 (gx_gd_s eaz26) dX6_take_36 ?_
      refine gx_iload_n C dX6_take_39 rfl rfl ?_
      refine gx_aload_n C dX6_take_40 rfl rfl ?_
      obtain ⟨az27, eaz27, h⟩ := gx_bd h
      refine gx_get C kcX6 7 (by decide) wl_504 (gx_gd_s eaz27) dX6_take_41 ?_
      refine gx_sipush (v := 1600) C dX6_take_44 (by decide) ?_
      refine gx_iload_n C dX6_take_47 rfl rfl ?_
      refine gx_iadd C dX6_take_48 ?_
      obtain ⟨vz28, evz28, h⟩ := gx_bd h
      refine gx_iald C (t := 0) rfl evz28 dX6_take_49 ?_
      obtain ⟨Xz29, eXz29, h⟩ := gx_bd h
      refine gx_iast C (t := 0) rfl eXz29 dX6_take_50 ?_
      refine gx_aload_n C dX6_take_51 rfl rfl ?_
      obtain ⟨az30, eaz30, h⟩ := gx_bd h
      refine gx_get C kcX6 8 (by decide) wl_505 (gx_gd_s eaz30) dX6_take_52 ?_
      refine gx_iload_n C dX6_take_55 rfl rfl ?_
      refine gx_aload_n C dX6_take_56 rfl rfl ?_
      obtain ⟨az31, eaz31, h⟩ := gx_bd h
      refine gx_get C kcX6 8 (by decide) wl_505 (gx_gd_s eaz31) dX6_take_57 ?_
      refine gx_sipush (v := 1600) C dX6_take_60 (by decide) ?_
      refine gx_iload_n C dX6_take_63 rfl rfl ?_
      refine gx_iadd C dX6_take_64 ?_
      obtain ⟨vz32, evz32, h⟩ := gx_bd h
      refine gx_iald C (t := 0) rfl evz32 dX6_take_65 ?_
      obtain ⟨Xz33, eXz33, h⟩ := gx_bd h
      refine gx_iast C (t := 0) rfl eXz33 dX6_take_66 ?_
      refine gx_iinc (v := (x1 + 1)) (lv2 := [some (gx_r (some a0)), some (gx_i (x1 + 1))]) C dX6_take_67 rfl rfl (by decide) rfl ?_
      refine gx_goto (tgt := 28) C dX6_take_70 (by decide) ?_
      exact ih a0 (x1 + 1) Xz33 h
def gm_X6_take (fu : Nat) (this : Nat) (X : gx_H) : Option (Int32 × gx_H) :=
  (gx_pf X this 6 0 (.int (0 : Int32))).bind fun Xz34 =>
  (gx_gi Xz34 this 6 12).bind fun vz35 =>
  if vz35 = 0 then (
  some ((0 : Int32), Xz34)) else (
  (gx_gd Xz34 this 6 4).bind fun az37 =>
  (gx_gd Xz34 this 6 4).bind fun az38 =>
  (gx_gai Xz34 az38 0 (1 : Int32)).bind fun vz39 =>
  (gx_pai Xz34 az37 0 (0 : Int32) vz39).bind fun Xz40 =>
  gm_X6_take_28 fu  fu this (0 : Int32) Xz40)
set_option maxHeartbeats 1000000 in
set_option maxRecDepth 20000 in
theorem gc_X6_take {l : Launch} {D : gx_D} (fu : Nat) (this : Nat) (X : gx_H) (r : Int32) (X2 : gx_H) (h : gm_X6_take fu this X = some (r, X2)) : gx_M D gz_cl gz_at gz_tb gz_nb l yX6_take cX6_take 2 (some .boolean) 1 20 [gx_r (some this)] X (some (gx_i r)) X2 0 0 := by
  unfold gm_X6_take at h
  refine gx_enter [some (gx_r (some this)), none] rfl (by decide) (Nat.le_of_ble_eq_true rfl) ?_
  intro p e s m below meth c C _
  refine gx_aload_n C dX6_take_0 rfl rfl ?_
  refine gx_iconst (v := 0) C dX6_take_1 (by decide) ?_
  obtain ⟨Xz34, eXz34, h⟩ := gx_bd h
  refine gx_put C kcX6 0 (by decide) rfl wl_497 ⟨rfl, rfl⟩ eXz34 dX6_take_2 ?_
  refine gx_aload_n C dX6_take_5 rfl rfl ?_
  obtain ⟨vz35, evz35, h⟩ := gx_bd h
  refine gx_get C kcX6 12 (by decide) wl_509 (gx_gi_s evz35) dX6_take_6 ?_
  refine gx_if_ne (tgt := 14) C dX6_take_9 (by decide) (fun qz36 => ?_) (fun qz36 => ?_)
  · rw [if_neg qz36] at h
    refine gx_aload_n C dX6_take_14 rfl rfl ?_
    obtain ⟨az37, eaz37, h⟩ := gx_bd h
    refine gx_get C kcX6 4 (by decide) wl_501 (gx_gd_s eaz37) dX6_take_15 ?_
    refine gx_iconst (v := 0) C dX6_take_18 (by decide) ?_
    refine gx_aload_n C dX6_take_19 rfl rfl ?_
    obtain ⟨az38, eaz38, h⟩ := gx_bd h
    refine gx_get C kcX6 4 (by decide) wl_501 (gx_gd_s eaz38) dX6_take_20 ?_
    refine gx_iconst (v := 1) C dX6_take_23 (by decide) ?_
    obtain ⟨vz39, evz39, h⟩ := gx_bd h
    refine gx_iald C (t := 0) rfl evz39 dX6_take_24 ?_
    obtain ⟨Xz40, eXz40, h⟩ := gx_bd h
    refine gx_iast C (t := 0) rfl eXz40 dX6_take_25 ?_
    refine gx_iconst (v := 0) C dX6_take_26 (by decide) ?_
    refine gx_istore_n (lv2 := [some (gx_r (some this)), some (gx_i (0 : Int32))]) C dX6_take_27 rfl (by decide) rfl ?_
    exact gt_X6_take_28 C fu  fu this (0 : Int32) Xz40 h
  · rw [if_pos qz36] at h
    refine gx_iconst (v := 0) C dX6_take_12 (by decide) ?_
    cases h
    exact gx_zret (Or.inl rfl) C dX6_take_13
theorem dX6_way_0 : decode cX6_way 0 = .ok (.aload_n 0, 1) := by decide +kernel
theorem dX6_way_1 : decode cX6_way 1 = .ok (.iconst 0, 1) := by decide +kernel
theorem dX6_way_2 : decode cX6_way 2 = .ok (.putfield 65, 3) := by decide +kernel
theorem dX6_way_5 : decode cX6_way 5 = .ok (.aload_n 0, 1) := by decide +kernel
theorem dX6_way_6 : decode cX6_way 6 = .ok (.iload_n 1, 1) := by decide +kernel
theorem dX6_way_7 : decode cX6_way 7 = .ok (.iload_n 2, 1) := by decide +kernel
theorem dX6_way_8 : decode cX6_way 8 = .ok (.iload_n 3, 1) := by decide +kernel
theorem dX6_way_9 : decode cX6_way 9 = .ok (.invokevirtual 79, 3) := by decide +kernel
theorem dX6_way_12 : decode cX6_way 12 = .ok (.ifCond .eq 17, 3) := by decide +kernel
theorem dX6_way_15 : decode cX6_way 15 = .ok (.aload_n 0, 1) := by decide +kernel
theorem dX6_way_16 : decode cX6_way 16 = .ok (.getfield 14, 3) := by decide +kernel
theorem dX6_way_19 : decode cX6_way 19 = .ok (.iload_n 1, 1) := by decide +kernel
theorem dX6_way_20 : decode cX6_way 20 = .ok (.iload_n 2, 1) := by decide +kernel
theorem dX6_way_21 : decode cX6_way 21 = .ok (.iload_n 3, 1) := by decide +kernel
theorem dX6_way_22 : decode cX6_way 22 = .ok (.invokestatic 83, 3) := by decide +kernel
theorem dX6_way_25 : decode cX6_way 25 = .ok (.baload, 1) := by decide +kernel
theorem dX6_way_26 : decode cX6_way 26 = .ok (.ifCond .eq 5, 3) := by decide +kernel
theorem dX6_way_29 : decode cX6_way 29 = .ok (.iconst 0, 1) := by decide +kernel
theorem dX6_way_30 : decode cX6_way 30 = .ok (.ireturn, 1) := by decide +kernel
theorem dX6_way_31 : decode cX6_way 31 = .ok (.aload_n 0, 1) := by decide +kernel
theorem dX6_way_32 : decode cX6_way 32 = .ok (.invokevirtual 76, 3) := by decide +kernel
theorem dX6_way_35 : decode cX6_way 35 = .ok (.aload_n 0, 1) := by decide +kernel
theorem dX6_way_36 : decode cX6_way 36 = .ok (.getfield 14, 3) := by decide +kernel
theorem dX6_way_39 : decode cX6_way 39 = .ok (.iload_n 1, 1) := by decide +kernel
theorem dX6_way_40 : decode cX6_way 40 = .ok (.iload_n 2, 1) := by decide +kernel
theorem dX6_way_41 : decode cX6_way 41 = .ok (.iload_n 3, 1) := by decide +kernel
theorem dX6_way_42 : decode cX6_way 42 = .ok (.invokestatic 83, 3) := by decide +kernel
theorem dX6_way_45 : decode cX6_way 45 = .ok (.iconst 1, 1) := by decide +kernel
theorem dX6_way_46 : decode cX6_way 46 = .ok (.bastore, 1) := by decide +kernel
theorem dX6_way_47 : decode cX6_way 47 = .ok (.iconst 1, 1) := by decide +kernel
theorem dX6_way_48 : decode cX6_way 48 = .ok (.ireturn, 1) := by decide +kernel
def gm_X6_way (fu : Nat) (this : Nat) (p_0 : Int32) (p_1 : Int32) (p_2 : Int32) (X : gx_H) : Option (Int32 × gx_H) :=
  (gx_pf X this 6 0 (.int (0 : Int32))).bind fun Xz1 =>
  gx_ob Xz1 this 6 <|
  gx_b2 (gm_X6_canWay fu this p_0 p_1 p_2 Xz1) fun vz4 Xz3 =>
  if vz4 = 0 then (
  some ((0 : Int32), Xz3)) else (
  (gx_gd Xz3 this 6 2).bind fun az6 =>
  gx_b2 (gm_X6_wayAt fu p_0 p_1 p_2 Xz3) fun vz8 Xz7 =>
  (gx_gai Xz7 az6 2 vz8).bind fun vz9 =>
  if vz9 = 0 then (
  gx_ob Xz7 this 6 <|
  (gm_X6_change fu this Xz7).bind fun Xz12 =>
  (gx_gd Xz12 this 6 2).bind fun az13 =>
  gx_b2 (gm_X6_wayAt fu p_0 p_1 p_2 Xz12) fun vz15 Xz14 =>
  (gx_pai Xz14 az13 2 vz15 (vp_nar .boolean (1 : Int32))).bind fun Xz16 =>
  some ((1 : Int32), Xz16)) else (
  some ((0 : Int32), Xz7)))
set_option maxHeartbeats 1000000 in
set_option maxRecDepth 20000 in
theorem gc_X6_way {l : Launch} {D : gx_D} (fu : Nat) (this : Nat) (p_0 : Int32) (p_1 : Int32) (p_2 : Int32) (X : gx_H) (r : Int32) (X2 : gx_H) (h : gm_X6_way fu this p_0 p_1 p_2 X = some (r, X2)) : gx_M D gz_cl gz_at gz_tb gz_nb l yX6_way cX6_way 4 (some .boolean) 2 44 [gx_r (some this), gx_i p_0, gx_i p_1, gx_i p_2] X (some (gx_i r)) X2 0 0 := by
  unfold gm_X6_way at h
  refine gx_enter [some (gx_r (some this)), some (gx_i p_0), some (gx_i p_1), some (gx_i p_2)] rfl (by decide) (Nat.le_of_ble_eq_true rfl) ?_
  intro p e s m below meth c C _
  refine gx_aload_n C dX6_way_0 rfl rfl ?_
  refine gx_iconst (v := 0) C dX6_way_1 (by decide) ?_
  obtain ⟨Xz1, eXz1, h⟩ := gx_bd h
  refine gx_put C kcX6 0 (by decide) rfl wl_497 ⟨rfl, rfl⟩ eXz1 dX6_way_2 ?_
  refine gx_aload_n C dX6_way_5 rfl rfl ?_
  refine gx_iload_n C dX6_way_6 rfl rfl ?_
  refine gx_iload_n C dX6_way_7 rfl rfl ?_
  refine gx_iload_n C dX6_way_8 rfl rfl ?_
  obtain ⟨hoz2, h⟩ := gx_obs h
  obtain ⟨vz4, Xz3, eXz3, h⟩ := gx_bd2 h
  refine gx_callV (As := [gx_i p_0, gx_i p_1, gx_i p_2]) (st := []) (stk2 := [gx_i vz4]) C cd_X6_canWay wl_572 ws_X6_canWay wl_570 rfl hoz2 (gc_X6_canWay fu this p_0 p_1 p_2 Xz1 vz4 Xz3 eXz3) rfl ⟨Nat.le_of_ble_eq_true rfl, Nat.le_of_ble_eq_true rfl⟩ ⟨Nat.le_of_ble_eq_true rfl, Nat.le_of_ble_eq_true rfl⟩ (Nat.le_of_ble_eq_true rfl) rfl rfl dX6_way_9 ?_
  refine gx_if_eq (tgt := 29) C dX6_way_12 (by decide) (fun qz5 => ?_) (fun qz5 => ?_)
  · rw [if_pos qz5] at h
    refine gx_iconst (v := 0) C dX6_way_29 (by decide) ?_
    cases h
    exact gx_zret (Or.inl rfl) C dX6_way_30
  · rw [if_neg qz5] at h
    refine gx_aload_n C dX6_way_15 rfl rfl ?_
    obtain ⟨az6, eaz6, h⟩ := gx_bd h
    refine gx_get C kcX6 2 (by decide) wl_499 (gx_gd_s eaz6) dX6_way_16 ?_
    refine gx_iload_n C dX6_way_19 rfl rfl ?_
    refine gx_iload_n C dX6_way_20 rfl rfl ?_
    refine gx_iload_n C dX6_way_21 rfl rfl ?_
    obtain ⟨vz8, Xz7, eXz7, h⟩ := gx_bd2 h
    refine gx_callS (As := [gx_i p_0, gx_i p_1, gx_i p_2]) (st := [gx_r (some az6)]) (stk2 := [gx_i vz8, gx_r (some az6)]) C cd_X6_wayAt wl_579 wl_578 (gc_X6_wayAt fu p_0 p_1 p_2 Xz3 vz8 Xz7 eXz7) rfl ⟨Nat.le_of_ble_eq_true rfl, Nat.le_of_ble_eq_true rfl⟩ ⟨Nat.le_of_ble_eq_true rfl, Nat.le_of_ble_eq_true rfl⟩ (Nat.le_of_ble_eq_true rfl) rfl rfl dX6_way_22 ?_
    obtain ⟨vz9, evz9, h⟩ := gx_bd h
    refine gx_zald C (t := 2) rfl evz9 dX6_way_25 ?_
    refine gx_if_eq (tgt := 31) C dX6_way_26 (by decide) (fun qz10 => ?_) (fun qz10 => ?_)
    · rw [if_pos qz10] at h
      refine gx_aload_n C dX6_way_31 rfl rfl ?_
      obtain ⟨hoz11, h⟩ := gx_obs h
      obtain ⟨Xz12, eXz12, h⟩ := gx_bd h
      refine gx_callV (As := []) (st := []) (stk2 := []) C cd_X6_change wl_564 ws_X6_change wl_562 rfl hoz11 (gc_X6_change fu this Xz7 Xz12 eXz12) rfl ⟨Nat.le_of_ble_eq_true rfl, Nat.le_of_ble_eq_true rfl⟩ ⟨Nat.le_of_ble_eq_true rfl, Nat.le_of_ble_eq_true rfl⟩ (Nat.le_of_ble_eq_true rfl) rfl rfl dX6_way_32 ?_
      refine gx_aload_n C dX6_way_35 rfl rfl ?_
      obtain ⟨az13, eaz13, h⟩ := gx_bd h
      refine gx_get C kcX6 2 (by decide) wl_499 (gx_gd_s eaz13) dX6_way_36 ?_
      refine gx_iload_n C dX6_way_39 rfl rfl ?_
      refine gx_iload_n C dX6_way_40 rfl rfl ?_
      refine gx_iload_n C dX6_way_41 rfl rfl ?_
      obtain ⟨vz15, Xz14, eXz14, h⟩ := gx_bd2 h
      refine gx_callS (As := [gx_i p_0, gx_i p_1, gx_i p_2]) (st := [gx_r (some az13)]) (stk2 := [gx_i vz15, gx_r (some az13)]) C cd_X6_wayAt wl_579 wl_578 (gc_X6_wayAt fu p_0 p_1 p_2 Xz12 vz15 Xz14 eXz14) rfl ⟨Nat.le_of_ble_eq_true rfl, Nat.le_of_ble_eq_true rfl⟩ ⟨Nat.le_of_ble_eq_true rfl, Nat.le_of_ble_eq_true rfl⟩ (Nat.le_of_ble_eq_true rfl) rfl rfl dX6_way_42 ?_
      refine gx_iconst (v := 1) C dX6_way_45 (by decide) ?_
      obtain ⟨Xz16, eXz16, h⟩ := gx_bd h
      refine gx_zast C (t := 2) rfl eXz16 dX6_way_46 ?_
      refine gx_iconst (v := 1) C dX6_way_47 (by decide) ?_
      cases h
      exact gx_zret (Or.inr rfl) C dX6_way_48
    · rw [if_neg qz10] at h
      refine gx_iconst (v := 0) C dX6_way_29 (by decide) ?_
      cases h
      exact gx_zret (Or.inl rfl) C dX6_way_30
