/-! methods: X6_find, X6_needs, X6_lacks -/
theorem dX6_find_0 : decode cX6_find 0 = .ok (.aload_n 0, 1) := by decide +kernel
theorem dX6_find_1 : decode cX6_find 1 = .ok (.getfield 46, 3) := by decide +kernel
theorem dX6_find_4 : decode cX6_find 4 = .ok (.iload_n 1, 1) := by decide +kernel
theorem dX6_find_5 : decode cX6_find 5 = .ok (.baload, 1) := by decide +kernel
theorem dX6_find_6 : decode cX6_find 6 = .ok (.ifCond .eq 4, 3) := by decide +kernel
theorem dX6_find_9 : decode cX6_find 9 = .ok (.return_, 1) := by decide +kernel
theorem dX6_find_10 : decode cX6_find 10 = .ok (.aload_n 0, 1) := by decide +kernel
theorem dX6_find_11 : decode cX6_find 11 = .ok (.getfield 46, 3) := by decide +kernel
theorem dX6_find_14 : decode cX6_find 14 = .ok (.iload_n 1, 1) := by decide +kernel
theorem dX6_find_15 : decode cX6_find 15 = .ok (.iconst 1, 1) := by decide +kernel
theorem dX6_find_16 : decode cX6_find 16 = .ok (.bastore, 1) := by decide +kernel
theorem dX6_find_17 : decode cX6_find 17 = .ok (.sipush 1600, 3) := by decide +kernel
theorem dX6_find_20 : decode cX6_find 20 = .ok (.iload_n 1, 1) := by decide +kernel
theorem dX6_find_21 : decode cX6_find 21 = .ok (.imul, 1) := by decide +kernel
theorem dX6_find_22 : decode cX6_find 22 = .ok (.istore_n 2, 1) := by decide +kernel
theorem dX6_find_23 : decode cX6_find 23 = .ok (.iload_n 2, 1) := by decide +kernel
theorem dX6_find_24 : decode cX6_find 24 = .ok (.sipush 1600, 3) := by decide +kernel
theorem dX6_find_27 : decode cX6_find 27 = .ok (.iload_n 1, 1) := by decide +kernel
theorem dX6_find_28 : decode cX6_find 28 = .ok (.iconst 1, 1) := by decide +kernel
theorem dX6_find_29 : decode cX6_find 29 = .ok (.iadd, 1) := by decide +kernel
theorem dX6_find_30 : decode cX6_find 30 = .ok (.imul, 1) := by decide +kernel
theorem dX6_find_31 : decode cX6_find 31 = .ok (.if_icmp .ge 16, 3) := by decide +kernel
theorem dX6_find_34 : decode cX6_find 34 = .ok (.aload_n 0, 1) := by decide +kernel
theorem dX6_find_35 : decode cX6_find 35 = .ok (.getfield 49, 3) := by decide +kernel
theorem dX6_find_38 : decode cX6_find 38 = .ok (.iload_n 2, 1) := by decide +kernel
theorem dX6_find_39 : decode cX6_find 39 = .ok (.lconst 0, 1) := by decide +kernel
theorem dX6_find_40 : decode cX6_find 40 = .ok (.lastore, 1) := by decide +kernel
theorem dX6_find_41 : decode cX6_find 41 = .ok (.iinc 2 1, 3) := by decide +kernel
theorem dX6_find_44 : decode cX6_find 44 = .ok (.goto (-21), 3) := by decide +kernel
theorem dX6_find_47 : decode cX6_find 47 = .ok (.bipush 8, 2) := by decide +kernel
theorem dX6_find_49 : decode cX6_find 49 = .ok (.iload_n 1, 1) := by decide +kernel
theorem dX6_find_50 : decode cX6_find 50 = .ok (.imul, 1) := by decide +kernel
theorem dX6_find_51 : decode cX6_find 51 = .ok (.istore_n 2, 1) := by decide +kernel
theorem dX6_find_52 : decode cX6_find 52 = .ok (.iload_n 2, 1) := by decide +kernel
theorem dX6_find_53 : decode cX6_find 53 = .ok (.bipush 8, 2) := by decide +kernel
theorem dX6_find_55 : decode cX6_find 55 = .ok (.iload_n 1, 1) := by decide +kernel
theorem dX6_find_56 : decode cX6_find 56 = .ok (.imul, 1) := by decide +kernel
theorem dX6_find_57 : decode cX6_find 57 = .ok (.bipush 8, 2) := by decide +kernel
theorem dX6_find_59 : decode cX6_find 59 = .ok (.iadd, 1) := by decide +kernel
theorem dX6_find_60 : decode cX6_find 60 = .ok (.if_icmp .ge 30, 3) := by decide +kernel
theorem dX6_find_63 : decode cX6_find 63 = .ok (.aload_n 0, 1) := by decide +kernel
theorem dX6_find_64 : decode cX6_find 64 = .ok (.getfield 53, 3) := by decide +kernel
theorem dX6_find_67 : decode cX6_find 67 = .ok (.iload_n 2, 1) := by decide +kernel
theorem dX6_find_68 : decode cX6_find 68 = .ok (.lconst 0, 1) := by decide +kernel
theorem dX6_find_69 : decode cX6_find 69 = .ok (.lastore, 1) := by decide +kernel
theorem dX6_find_70 : decode cX6_find 70 = .ok (.aload_n 0, 1) := by decide +kernel
theorem dX6_find_71 : decode cX6_find 71 = .ok (.getfield 56, 3) := by decide +kernel
theorem dX6_find_74 : decode cX6_find 74 = .ok (.iload_n 2, 1) := by decide +kernel
theorem dX6_find_75 : decode cX6_find 75 = .ok (.lconst 0, 1) := by decide +kernel
theorem dX6_find_76 : decode cX6_find 76 = .ok (.lastore, 1) := by decide +kernel
theorem dX6_find_77 : decode cX6_find 77 = .ok (.aload_n 0, 1) := by decide +kernel
theorem dX6_find_78 : decode cX6_find 78 = .ok (.getfield 59, 3) := by decide +kernel
theorem dX6_find_81 : decode cX6_find 81 = .ok (.iload_n 2, 1) := by decide +kernel
theorem dX6_find_82 : decode cX6_find 82 = .ok (.lconst 0, 1) := by decide +kernel
theorem dX6_find_83 : decode cX6_find 83 = .ok (.lastore, 1) := by decide +kernel
theorem dX6_find_84 : decode cX6_find 84 = .ok (.iinc 2 1, 3) := by decide +kernel
theorem dX6_find_87 : decode cX6_find 87 = .ok (.goto (-35), 3) := by decide +kernel
theorem dX6_find_90 : decode cX6_find 90 = .ok (.aload_n 0, 1) := by decide +kernel
theorem dX6_find_91 : decode cX6_find 91 = .ok (.getfield 53, 3) := by decide +kernel
theorem dX6_find_94 : decode cX6_find 94 = .ok (.bipush 8, 2) := by decide +kernel
theorem dX6_find_96 : decode cX6_find 96 = .ok (.iload_n 1, 1) := by decide +kernel
theorem dX6_find_97 : decode cX6_find 97 = .ok (.imul, 1) := by decide +kernel
theorem dX6_find_98 : decode cX6_find 98 = .ok (.aload_n 0, 1) := by decide +kernel
theorem dX6_find_99 : decode cX6_find 99 = .ok (.getfield 21, 3) := by decide +kernel
theorem dX6_find_102 : decode cX6_find 102 = .ok (.iload_n 1, 1) := by decide +kernel
theorem dX6_find_103 : decode cX6_find 103 = .ok (.iaload, 1) := by decide +kernel
theorem dX6_find_104 : decode cX6_find 104 = .ok (.ifCond .le 7, 3) := by decide +kernel
theorem dX6_find_107 : decode cX6_find 107 = .ok (.lconst 1, 1) := by decide +kernel
theorem dX6_find_108 : decode cX6_find 108 = .ok (.goto 4, 3) := by decide +kernel
theorem dX6_find_111 : decode cX6_find 111 = .ok (.lconst 0, 1) := by decide +kernel
theorem dX6_find_112 : decode cX6_find 112 = .ok (.lastore, 1) := by decide +kernel
theorem dX6_find_113 : decode cX6_find 113 = .ok (.aload_n 0, 1) := by decide +kernel
theorem dX6_find_114 : decode cX6_find 114 = .ok (.iconst 1, 1) := by decide +kernel
theorem dX6_find_115 : decode cX6_find 115 = .ok (.putfield 97, 3) := by decide +kernel
theorem dX6_find_118 : decode cX6_find 118 = .ok (.aload_n 0, 1) := by decide +kernel
theorem dX6_find_119 : decode cX6_find 119 = .ok (.getfield 97, 3) := by decide +kernel
theorem dX6_find_122 : decode cX6_find 122 = .ok (.ifCond .eq 89, 3) := by decide +kernel
theorem dX6_find_125 : decode cX6_find 125 = .ok (.aload_n 0, 1) := by decide +kernel
theorem dX6_find_126 : decode cX6_find 126 = .ok (.iconst 0, 1) := by decide +kernel
theorem dX6_find_127 : decode cX6_find 127 = .ok (.putfield 97, 3) := by decide +kernel
theorem dX6_find_130 : decode cX6_find 130 = .ok (.iconst 0, 1) := by decide +kernel
theorem dX6_find_131 : decode cX6_find 131 = .ok (.istore_n 2, 1) := by decide +kernel
theorem dX6_find_132 : decode cX6_find 132 = .ok (.iload_n 2, 1) := by decide +kernel
theorem dX6_find_133 : decode cX6_find 133 = .ok (.aload_n 0, 1) := by decide +kernel
theorem dX6_find_134 : decode cX6_find 134 = .ok (.getfield 21, 3) := by decide +kernel
theorem dX6_find_137 : decode cX6_find 137 = .ok (.iload_n 1, 1) := by decide +kernel
theorem dX6_find_138 : decode cX6_find 138 = .ok (.iaload, 1) := by decide +kernel
theorem dX6_find_139 : decode cX6_find 139 = .ok (.if_icmp .ge 69, 3) := by decide +kernel
theorem dX6_find_142 : decode cX6_find 142 = .ok (.aload_n 0, 1) := by decide +kernel
theorem dX6_find_143 : decode cX6_find 143 = .ok (.aload_n 0, 1) := by decide +kernel
theorem dX6_find_144 : decode cX6_find 144 = .ok (.getfield 49, 3) := by decide +kernel
theorem dX6_find_147 : decode cX6_find 147 = .ok (.sipush 1600, 3) := by decide +kernel
theorem dX6_find_150 : decode cX6_find 150 = .ok (.iload_n 1, 1) := by decide +kernel
theorem dX6_find_151 : decode cX6_find 151 = .ok (.imul, 1) := by decide +kernel
theorem dX6_find_152 : decode cX6_find 152 = .ok (.sipush 200, 3) := by decide +kernel
theorem dX6_find_155 : decode cX6_find 155 = .ok (.iload_n 2, 1) := by decide +kernel
theorem dX6_find_156 : decode cX6_find 156 = .ok (.imul, 1) := by decide +kernel
theorem dX6_find_157 : decode cX6_find 157 = .ok (.iadd, 1) := by decide +kernel
theorem dX6_find_158 : decode cX6_find 158 = .ok (.aload_n 0, 1) := by decide +kernel
theorem dX6_find_159 : decode cX6_find 159 = .ok (.getfield 53, 3) := by decide +kernel
theorem dX6_find_162 : decode cX6_find 162 = .ok (.bipush 8, 2) := by decide +kernel
theorem dX6_find_164 : decode cX6_find 164 = .ok (.iload_n 1, 1) := by decide +kernel
theorem dX6_find_165 : decode cX6_find 165 = .ok (.imul, 1) := by decide +kernel
theorem dX6_find_166 : decode cX6_find 166 = .ok (.iload_n 2, 1) := by decide +kernel
theorem dX6_find_167 : decode cX6_find 167 = .ok (.iadd, 1) := by decide +kernel
theorem dX6_find_168 : decode cX6_find 168 = .ok (.laload, 1) := by decide +kernel
theorem dX6_find_169 : decode cX6_find 169 = .ok (.invokevirtual 107, 3) := by decide +kernel
theorem dX6_find_172 : decode cX6_find 172 = .ok (.iconst 0, 1) := by decide +kernel
theorem dX6_find_173 : decode cX6_find 173 = .ok (.istore_n 3, 1) := by decide +kernel
theorem dX6_find_174 : decode cX6_find 174 = .ok (.iload_n 3, 1) := by decide +kernel
theorem dX6_find_175 : decode cX6_find 175 = .ok (.aload_n 0, 1) := by decide +kernel
theorem dX6_find_176 : decode cX6_find 176 = .ok (.getfield 25, 3) := by decide +kernel
theorem dX6_find_179 : decode cX6_find 179 = .ok (.bipush 8, 2) := by decide +kernel
theorem dX6_find_181 : decode cX6_find 181 = .ok (.iload_n 1, 1) := by decide +kernel
theorem dX6_find_182 : decode cX6_find 182 = .ok (.imul, 1) := by decide +kernel
theorem dX6_find_183 : decode cX6_find 183 = .ok (.iload_n 2, 1) := by decide +kernel
theorem dX6_find_184 : decode cX6_find 184 = .ok (.iadd, 1) := by decide +kernel
theorem dX6_find_185 : decode cX6_find 185 = .ok (.iaload, 1) := by decide +kernel
theorem dX6_find_186 : decode cX6_find 186 = .ok (.if_icmp .ge 16, 3) := by decide +kernel
theorem dX6_find_189 : decode cX6_find 189 = .ok (.aload_n 0, 1) := by decide +kernel
theorem dX6_find_190 : decode cX6_find 190 = .ok (.iload_n 1, 1) := by decide +kernel
theorem dX6_find_191 : decode cX6_find 191 = .ok (.iload_n 2, 1) := by decide +kernel
theorem dX6_find_192 : decode cX6_find 192 = .ok (.iload_n 3, 1) := by decide +kernel
theorem dX6_find_193 : decode cX6_find 193 = .ok (.invokevirtual 111, 3) := by decide +kernel
theorem dX6_find_196 : decode cX6_find 196 = .ok (.iinc 3 1, 3) := by decide +kernel
theorem dX6_find_199 : decode cX6_find 199 = .ok (.goto (-25), 3) := by decide +kernel
theorem dX6_find_202 : decode cX6_find 202 = .ok (.iinc 2 1, 3) := by decide +kernel
theorem dX6_find_205 : decode cX6_find 205 = .ok (.goto (-73), 3) := by decide +kernel
theorem dX6_find_208 : decode cX6_find 208 = .ok (.goto (-90), 3) := by decide +kernel
theorem dX6_find_211 : decode cX6_find 211 = .ok (.return_, 1) := by decide +kernel
def gm_X6_find_174 (fu : Nat) (K118 : Nat → Int32 → gx_H → Option gx_H) (K132 : Nat → Int32 → Int32 → gx_H → Option gx_H) : Nat → Nat → Int32 → Int32 → Int32 → gx_H → Option gx_H
  | 0, _, _, _, _, _ => none
  | n + 1, a0, x1, x2, x3, X =>
    (gx_gd X a0 6 5).bind fun az1 =>
    (gx_gai X az1 0 (((8 : Int32) * x1) + x2)).bind fun vz2 =>
    if vz2 ≤ x3 then (
    K132 a0 x1 (x2 + 1) X) else (
    gx_ob X a0 6 <|
    (gm_X6_goOn fu a0 x1 x2 x3 X).bind fun Xz5 =>
    (gm_X6_find_174 fu K118 K132 n) a0 x1 x2 (x3 + 1) Xz5)
set_option maxHeartbeats 1000000 in
set_option maxRecDepth 20000 in
theorem gt_X6_find_174 {p : Program} {l : Launch} {e : Env} {s : State} {m : MethodId} {args : Array Value} {below : List Frame} {meth : Method} {c : Code} {D : gx_D} {X2 : gx_H}  (C : gx_C D gz_cl gz_at gz_tb gz_nb p s m meth c cX6_find 4 RX6 none) (fu : Nat) (K118 : Nat → Int32 → gx_H → Option gx_H) (hK118 : ∀ (a0 : Nat) (x1 : Int32) (X : gx_H), K118 a0 x1 X = some X2 → gx_W D gz_cl 4 p l e (gx_rm 3 83 0 0) s m args below meth c 0 0 (MQ below (gx_Q D gz_cl none X2) args s 0 0 (gx_Z D)) X 118 [some (gx_r (some a0)), some (gx_i x1), none, none] []) (K132 : Nat → Int32 → Int32 → gx_H → Option gx_H) (hK132 : ∀ (a0 : Nat) (x1 : Int32) (x2 : Int32) (X : gx_H), K132 a0 x1 x2 X = some X2 → gx_W D gz_cl 4 p l e (gx_rm 3 83 0 0) s m args below meth c 0 0 (MQ below (gx_Q D gz_cl none X2) args s 0 0 (gx_Z D)) X 132 [some (gx_r (some a0)), some (gx_i x1), some (gx_i x2), none] []) : ∀ (n : Nat) (a0 : Nat) (x1 : Int32) (x2 : Int32) (x3 : Int32) (X : gx_H) , gm_X6_find_174 fu K118 K132 n a0 x1 x2 x3 X = some X2 → gx_W D gz_cl 4 p l e (gx_rm 3 83 0 0) s m args below meth c 0 0 (MQ below (gx_Q D gz_cl none X2) args s 0 0 (gx_Z D)) X 174 [some (gx_r (some a0)), some (gx_i x1), some (gx_i x2), some (gx_i x3)] [] := by
  intro n
  induction n with
  | zero =>
    intro a0 x1 x2 x3 X h
    have h : none = some _ := h
    cases h
  | succ n ih =>
    intro a0 x1 x2 x3 X h
    rw [gm_X6_find_174] at h
    refine gx_iload_n C dX6_find_174 rfl rfl ?_
    refine gx_aload_n C dX6_find_175 rfl rfl ?_
    obtain ⟨az1, eaz1, h⟩ := gx_bd h
    refine gx_get C kcX6 5 (by decide) wl_502 (gx_gd_s eaz1) dX6_find_176 ?_
    refine gx_bipush (v := 8) C dX6_find_179 (by decide) ?_
    refine gx_iload_n C dX6_find_181 rfl rfl ?_
    refine gx_imul C dX6_find_182 ?_
    refine gx_iload_n C dX6_find_183 rfl rfl ?_
    refine gx_iadd C dX6_find_184 ?_
    obtain ⟨vz2, evz2, h⟩ := gx_bd h
    refine gx_iald C (t := 0) rfl evz2 dX6_find_185 ?_
    refine gx_icmp_ge (tgt := 202) C dX6_find_186 (by decide) (fun qz3 => ?_) (fun qz3 => ?_)
    · rw [if_pos qz3] at h
      refine gx_iinc (v := (x2 + 1)) (lv2 := [some (gx_r (some a0)), some (gx_i x1), some (gx_i (x2 + 1)), some (gx_i x3)]) C dX6_find_202 rfl rfl (by decide) rfl ?_
      refine gx_goto (tgt := 132) C dX6_find_205 (by decide) ?_
      refine gx_sub (lv2 := [some (gx_r (some a0)), some (gx_i x1), some (gx_i (x2 + 1)), none]) [true, true, true, false] rfl ?_
      exact hK132 a0 x1 (x2 + 1) X h
    · rw [if_neg qz3] at h
      refine gx_aload_n C dX6_find_189 rfl rfl ?_
      refine gx_iload_n C dX6_find_190 rfl rfl ?_
      refine gx_iload_n C dX6_find_191 rfl rfl ?_
      refine gx_iload_n C dX6_find_192 rfl rfl ?_
      obtain ⟨hoz4, h⟩ := gx_obs h
      obtain ⟨Xz5, eXz5, h⟩ := gx_bd h
      refine gx_callV (As := [gx_i x1, gx_i x2, gx_i x3]) (st := []) (stk2 := []) C cd_X6_goOn wl_635 ws_X6_goOn wl_633 rfl hoz4 (gc_X6_goOn fu a0 x1 x2 x3 X Xz5 eXz5) rfl ⟨Nat.le_of_ble_eq_true rfl, Nat.le_of_ble_eq_true rfl⟩ ⟨Nat.le_of_ble_eq_true rfl, Nat.le_of_ble_eq_true rfl⟩ (Nat.le_of_ble_eq_true rfl) rfl rfl dX6_find_193 ?_
      refine gx_iinc (v := (x3 + 1)) (lv2 := [some (gx_r (some a0)), some (gx_i x1), some (gx_i x2), some (gx_i (x3 + 1))]) C dX6_find_196 rfl rfl (by decide) rfl ?_
      refine gx_goto (tgt := 174) C dX6_find_199 (by decide) ?_
      exact ih a0 x1 x2 (x3 + 1) Xz5 h
def gm_X6_find_132 (fu : Nat) (K118 : Nat → Int32 → gx_H → Option gx_H) : Nat → Nat → Int32 → Int32 → gx_H → Option gx_H
  | 0, _, _, _, _ => none
  | n + 1, a0, x1, x2, X =>
    (gx_gd X a0 6 4).bind fun az6 =>
    (gx_gai X az6 0 x1).bind fun vz7 =>
    if vz7 ≤ x2 then (
    K118 a0 x1 X) else (
    (gx_gd X a0 6 14).bind fun az9 =>
    (gx_gd X a0 6 15).bind fun az10 =>
    (gx_gal X az10 1 (((8 : Int32) * x1) + x2)).bind fun vz11 =>
    gx_ob X a0 6 <|
    (gm_X6_join fu a0 az9 (((1600 : Int32) * x1) + ((200 : Int32) * x2)) vz11 X).bind fun Xz13 =>
    gm_X6_find_174 fu K118 (gm_X6_find_132 fu K118 n) fu a0 x1 x2 (0 : Int32) Xz13)
set_option maxHeartbeats 1000000 in
set_option maxRecDepth 20000 in
theorem gt_X6_find_132 {p : Program} {l : Launch} {e : Env} {s : State} {m : MethodId} {args : Array Value} {below : List Frame} {meth : Method} {c : Code} {D : gx_D} {X2 : gx_H}  (C : gx_C D gz_cl gz_at gz_tb gz_nb p s m meth c cX6_find 4 RX6 none) (fu : Nat) (K118 : Nat → Int32 → gx_H → Option gx_H) (hK118 : ∀ (a0 : Nat) (x1 : Int32) (X : gx_H), K118 a0 x1 X = some X2 → gx_W D gz_cl 4 p l e (gx_rm 3 83 0 0) s m args below meth c 0 0 (MQ below (gx_Q D gz_cl none X2) args s 0 0 (gx_Z D)) X 118 [some (gx_r (some a0)), some (gx_i x1), none, none] []) : ∀ (n : Nat) (a0 : Nat) (x1 : Int32) (x2 : Int32) (X : gx_H) , gm_X6_find_132 fu K118 n a0 x1 x2 X = some X2 → gx_W D gz_cl 4 p l e (gx_rm 3 83 0 0) s m args below meth c 0 0 (MQ below (gx_Q D gz_cl none X2) args s 0 0 (gx_Z D)) X 132 [some (gx_r (some a0)), some (gx_i x1), some (gx_i x2), none] [] := by
  intro n
  induction n with
  | zero =>
    intro a0 x1 x2 X h
    have h : none = some _ := h
    cases h
  | succ n ih =>
    intro a0 x1 x2 X h
    rw [gm_X6_find_132] at h
    refine gx_iload_n C dX6_find_132 rfl rfl ?_
    refine gx_aload_n C dX6_find_133 rfl rfl ?_
    obtain ⟨az6, eaz6, h⟩ := gx_bd h
    refine gx_get C kcX6 4 (by decide) wl_501 (gx_gd_s eaz6) dX6_find_134 ?_
    refine gx_iload_n C dX6_find_137 rfl rfl ?_
    obtain ⟨vz7, evz7, h⟩ := gx_bd h
    refine gx_iald C (t := 0) rfl evz7 dX6_find_138 ?_
    refine gx_icmp_ge (tgt := 208) C dX6_find_139 (by decide) (fun qz8 => ?_) (fun qz8 => ?_)
    · rw [if_pos qz8] at h
      refine gx_goto (tgt := 118) C dX6_find_208 (by decide) ?_
      refine gx_sub (lv2 := [some (gx_r (some a0)), some (gx_i x1), none, none]) [true, true, false, false] rfl ?_
      exact hK118 a0 x1 X h
    · rw [if_neg qz8] at h
      refine gx_aload_n C dX6_find_142 rfl rfl ?_
      refine gx_aload_n C dX6_find_143 rfl rfl ?_
      obtain ⟨az9, eaz9, h⟩ := gx_bd h
      refine gx_get C kcX6 14 (by decide) wl_511 (gx_gd_s eaz9) dX6_find_144 ?_
      refine gx_sipush (v := 1600) C dX6_find_147 (by decide) ?_
      refine gx_iload_n C dX6_find_150 rfl rfl ?_
      refine gx_imul C dX6_find_151 ?_
      refine gx_sipush (v := 200) C dX6_find_152 (by decide) ?_
      refine gx_iload_n C dX6_find_155 rfl rfl ?_
      refine gx_imul C dX6_find_156 ?_
      refine gx_iadd C dX6_find_157 ?_
      refine gx_aload_n C dX6_find_158 rfl rfl ?_
      obtain ⟨az10, eaz10, h⟩ := gx_bd h
      refine gx_get C kcX6 15 (by decide) wl_512 (gx_gd_s eaz10) dX6_find_159 ?_
      refine gx_bipush (v := 8) C dX6_find_162 (by decide) ?_
      refine gx_iload_n C dX6_find_164 rfl rfl ?_
      refine gx_imul C dX6_find_165 ?_
      refine gx_iload_n C dX6_find_166 rfl rfl ?_
      refine gx_iadd C dX6_find_167 ?_
      obtain ⟨vz11, evz11, h⟩ := gx_bd h
      refine gx_lald C (t := 1) rfl evz11 dX6_find_168 ?_
      obtain ⟨hoz12, h⟩ := gx_obs h
      obtain ⟨Xz13, eXz13, h⟩ := gx_bd h
      refine gx_callV (As := [gx_r (some az9), gx_i (((1600 : Int32) * x1) + ((200 : Int32) * x2)), gx_l vz11]) (st := []) (stk2 := []) C cd_X6_join wl_631 ws_X6_join wl_629 rfl hoz12 (gc_X6_join fu a0 az9 (((1600 : Int32) * x1) + ((200 : Int32) * x2)) vz11 X Xz13 eXz13) rfl ⟨Nat.le_of_ble_eq_true rfl, Nat.le_of_ble_eq_true rfl⟩ ⟨Nat.le_of_ble_eq_true rfl, Nat.le_of_ble_eq_true rfl⟩ (Nat.le_of_ble_eq_true rfl) rfl rfl dX6_find_169 ?_
      refine gx_iconst (v := 0) C dX6_find_172 (by decide) ?_
      refine gx_istore_n (lv2 := [some (gx_r (some a0)), some (gx_i x1), some (gx_i x2), some (gx_i (0 : Int32))]) C dX6_find_173 rfl (by decide) rfl ?_
      exact gt_X6_find_174 C fu K118 hK118 (gm_X6_find_132 fu K118 n) ih fu a0 x1 x2 (0 : Int32) Xz13 h
def gm_X6_find_118 (fu : Nat) : Nat → Nat → Int32 → gx_H → Option gx_H
  | 0, _, _, _ => none
  | n + 1, a0, x1, X =>
    (gx_gi X a0 6 18).bind fun vz14 =>
    if vz14 = 0 then (
    some X) else (
    (gx_pf X a0 6 18 (.int (0 : Int32))).bind fun Xz16 =>
    gm_X6_find_132 fu (gm_X6_find_118 fu  n) fu a0 x1 (0 : Int32) Xz16)
set_option maxHeartbeats 1000000 in
set_option maxRecDepth 20000 in
theorem gt_X6_find_118 {p : Program} {l : Launch} {e : Env} {s : State} {m : MethodId} {args : Array Value} {below : List Frame} {meth : Method} {c : Code} {D : gx_D} {X2 : gx_H}  (C : gx_C D gz_cl gz_at gz_tb gz_nb p s m meth c cX6_find 4 RX6 none) (fu : Nat) : ∀ (n : Nat) (a0 : Nat) (x1 : Int32) (X : gx_H) , gm_X6_find_118 fu  n a0 x1 X = some X2 → gx_W D gz_cl 4 p l e (gx_rm 3 83 0 0) s m args below meth c 0 0 (MQ below (gx_Q D gz_cl none X2) args s 0 0 (gx_Z D)) X 118 [some (gx_r (some a0)), some (gx_i x1), none, none] [] := by
  intro n
  induction n with
  | zero =>
    intro a0 x1 X h
    have h : none = some _ := h
    cases h
  | succ n ih =>
    intro a0 x1 X h
    rw [gm_X6_find_118] at h
    refine gx_aload_n C dX6_find_118 rfl rfl ?_
    obtain ⟨vz14, evz14, h⟩ := gx_bd h
    refine gx_get C kcX6 18 (by decide) wl_515 (gx_gi_s evz14) dX6_find_119 ?_
    refine gx_if_eq (tgt := 211) C dX6_find_122 (by decide) (fun qz15 => ?_) (fun qz15 => ?_)
    · rw [if_pos qz15] at h
      cases h
      exact gx_vret C dX6_find_211
    · rw [if_neg qz15] at h
      refine gx_aload_n C dX6_find_125 rfl rfl ?_
      refine gx_iconst (v := 0) C dX6_find_126 (by decide) ?_
      obtain ⟨Xz16, eXz16, h⟩ := gx_bd h
      refine gx_put C kcX6 18 (by decide) rfl wl_515 (gx_nz (Or.inl rfl)) eXz16 dX6_find_127 ?_
      refine gx_iconst (v := 0) C dX6_find_130 (by decide) ?_
      refine gx_istore_n (lv2 := [some (gx_r (some a0)), some (gx_i x1), some (gx_i (0 : Int32)), none]) C dX6_find_131 rfl (by decide) rfl ?_
      exact gt_X6_find_132 C fu (gm_X6_find_118 fu  n) ih fu a0 x1 (0 : Int32) Xz16 h
def gm_X6_find_112 (fu : Nat) (a0 : Nat) (x1 : Int32) (sa0 : Nat) (sx1 : Int32) (sy2 : Int64) (X : gx_H) : Option gx_H :=
  (gx_pal X sa0 1 sx1 sy2).bind fun Xz17 =>
  (gx_pf Xz17 a0 6 18 (.int (1 : Int32))).bind fun Xz18 =>
  gm_X6_find_118 fu  fu a0 x1 Xz18
set_option maxHeartbeats 1000000 in
set_option maxRecDepth 20000 in
theorem gt_X6_find_112 {p : Program} {l : Launch} {e : Env} {s : State} {m : MethodId} {args : Array Value} {below : List Frame} {meth : Method} {c : Code} {D : gx_D} {X2 : gx_H}  (C : gx_C D gz_cl gz_at gz_tb gz_nb p s m meth c cX6_find 4 RX6 none) (fu : Nat) (a0 : Nat) (x1 : Int32) (sa0 : Nat) (sx1 : Int32) (sy2 : Int64) (X : gx_H) (h : gm_X6_find_112 fu  a0 x1 sa0 sx1 sy2 X = some X2) : gx_W D gz_cl 4 p l e (gx_rm 3 83 0 0) s m args below meth c 0 0 (MQ below (gx_Q D gz_cl none X2) args s 0 0 (gx_Z D)) X 112 [some (gx_r (some a0)), some (gx_i x1), none, none] [gx_l sy2, gx_i sx1, gx_r (some sa0)] := by
  unfold gm_X6_find_112 at h
  obtain ⟨Xz17, eXz17, h⟩ := gx_bd h
  refine gx_last C (t := 1) rfl eXz17 dX6_find_112 ?_
  refine gx_aload_n C dX6_find_113 rfl rfl ?_
  refine gx_iconst (v := 1) C dX6_find_114 (by decide) ?_
  obtain ⟨Xz18, eXz18, h⟩ := gx_bd h
  refine gx_put C kcX6 18 (by decide) rfl wl_515 (gx_nz (Or.inr rfl)) eXz18 dX6_find_115 ?_
  exact gt_X6_find_118 C fu  fu a0 x1 Xz18 h
def gm_X6_find_52 (fu : Nat) : Nat → Nat → Int32 → Int32 → gx_H → Option gx_H
  | 0, _, _, _, _ => none
  | n + 1, a0, x1, x2, X =>
    if (((8 : Int32) * x1) + (8 : Int32)) ≤ x2 then (
    (gx_gd X a0 6 15).bind fun az20 =>
    (gx_gd X a0 6 4).bind fun az21 =>
    (gx_gai X az21 0 x1).bind fun vz22 =>
    if vz22 ≤ 0 then (
    gm_X6_find_112 fu  a0 x1 az20 ((8 : Int32) * x1) (0 : Int64) X) else (
    gm_X6_find_112 fu  a0 x1 az20 ((8 : Int32) * x1) (1 : Int64) X)) else (
    (gx_gd X a0 6 15).bind fun az24 =>
    (gx_pal X az24 1 x2 (0 : Int64)).bind fun Xz25 =>
    (gx_gd Xz25 a0 6 16).bind fun az26 =>
    (gx_pal Xz25 az26 1 x2 (0 : Int64)).bind fun Xz27 =>
    (gx_gd Xz27 a0 6 17).bind fun az28 =>
    (gx_pal Xz27 az28 1 x2 (0 : Int64)).bind fun Xz29 =>
    (gm_X6_find_52 fu  n) a0 x1 (x2 + 1) Xz29)
set_option maxHeartbeats 1000000 in
set_option maxRecDepth 20000 in
theorem gt_X6_find_52 {p : Program} {l : Launch} {e : Env} {s : State} {m : MethodId} {args : Array Value} {below : List Frame} {meth : Method} {c : Code} {D : gx_D} {X2 : gx_H}  (C : gx_C D gz_cl gz_at gz_tb gz_nb p s m meth c cX6_find 4 RX6 none) (fu : Nat) : ∀ (n : Nat) (a0 : Nat) (x1 : Int32) (x2 : Int32) (X : gx_H) , gm_X6_find_52 fu  n a0 x1 x2 X = some X2 → gx_W D gz_cl 4 p l e (gx_rm 3 83 0 0) s m args below meth c 0 0 (MQ below (gx_Q D gz_cl none X2) args s 0 0 (gx_Z D)) X 52 [some (gx_r (some a0)), some (gx_i x1), some (gx_i x2), none] [] := by
  intro n
  induction n with
  | zero =>
    intro a0 x1 x2 X h
    have h : none = some _ := h
    cases h
  | succ n ih =>
    intro a0 x1 x2 X h
    rw [gm_X6_find_52] at h
    refine gx_iload_n C dX6_find_52 rfl rfl ?_
    refine gx_bipush (v := 8) C dX6_find_53 (by decide) ?_
    refine gx_iload_n C dX6_find_55 rfl rfl ?_
    refine gx_imul C dX6_find_56 ?_
    refine gx_bipush (v := 8) C dX6_find_57 (by decide) ?_
    refine gx_iadd C dX6_find_59 ?_
    refine gx_icmp_ge (tgt := 90) C dX6_find_60 (by decide) (fun qz19 => ?_) (fun qz19 => ?_)
    · rw [if_pos qz19] at h
      refine gx_aload_n C dX6_find_90 rfl rfl ?_
      obtain ⟨az20, eaz20, h⟩ := gx_bd h
      refine gx_get C kcX6 15 (by decide) wl_512 (gx_gd_s eaz20) dX6_find_91 ?_
      refine gx_bipush (v := 8) C dX6_find_94 (by decide) ?_
      refine gx_iload_n C dX6_find_96 rfl rfl ?_
      refine gx_imul C dX6_find_97 ?_
      refine gx_aload_n C dX6_find_98 rfl rfl ?_
      obtain ⟨az21, eaz21, h⟩ := gx_bd h
      refine gx_get C kcX6 4 (by decide) wl_501 (gx_gd_s eaz21) dX6_find_99 ?_
      refine gx_iload_n C dX6_find_102 rfl rfl ?_
      obtain ⟨vz22, evz22, h⟩ := gx_bd h
      refine gx_iald C (t := 0) rfl evz22 dX6_find_103 ?_
      refine gx_if_le (tgt := 111) C dX6_find_104 (by decide) (fun qz23 => ?_) (fun qz23 => ?_)
      · rw [if_pos qz23] at h
        refine gx_lconst (v := 0) C dX6_find_111 (by decide) ?_
        refine gx_sub (lv2 := [some (gx_r (some a0)), some (gx_i x1), none, none]) [true, true, false, false] rfl ?_
        exact gt_X6_find_112 C fu  a0 x1 az20 ((8 : Int32) * x1) (0 : Int64) X h
      · rw [if_neg qz23] at h
        refine gx_lconst (v := 1) C dX6_find_107 (by decide) ?_
        refine gx_goto (tgt := 112) C dX6_find_108 (by decide) ?_
        refine gx_sub (lv2 := [some (gx_r (some a0)), some (gx_i x1), none, none]) [true, true, false, false] rfl ?_
        exact gt_X6_find_112 C fu  a0 x1 az20 ((8 : Int32) * x1) (1 : Int64) X h
    · rw [if_neg qz19] at h
      refine gx_aload_n C dX6_find_63 rfl rfl ?_
      obtain ⟨az24, eaz24, h⟩ := gx_bd h
      refine gx_get C kcX6 15 (by decide) wl_512 (gx_gd_s eaz24) dX6_find_64 ?_
      refine gx_iload_n C dX6_find_67 rfl rfl ?_
      refine gx_lconst (v := 0) C dX6_find_68 (by decide) ?_
      obtain ⟨Xz25, eXz25, h⟩ := gx_bd h
      refine gx_last C (t := 1) rfl eXz25 dX6_find_69 ?_
      refine gx_aload_n C dX6_find_70 rfl rfl ?_
      obtain ⟨az26, eaz26, h⟩ := gx_bd h
      refine gx_get C kcX6 16 (by decide) wl_513 (gx_gd_s eaz26) dX6_find_71 ?_
      refine gx_iload_n C dX6_find_74 rfl rfl ?_
      refine gx_lconst (v := 0) C dX6_find_75 (by decide) ?_
      obtain ⟨Xz27, eXz27, h⟩ := gx_bd h
      refine gx_last C (t := 1) rfl eXz27 dX6_find_76 ?_
      refine gx_aload_n C dX6_find_77 rfl rfl ?_
      obtain ⟨az28, eaz28, h⟩ := gx_bd h
      refine gx_get C kcX6 17 (by decide) wl_514 (gx_gd_s eaz28) dX6_find_78 ?_
      refine gx_iload_n C dX6_find_81 rfl rfl ?_
      refine gx_lconst (v := 0) C dX6_find_82 (by decide) ?_
      obtain ⟨Xz29, eXz29, h⟩ := gx_bd h
      refine gx_last C (t := 1) rfl eXz29 dX6_find_83 ?_
      refine gx_iinc (v := (x2 + 1)) (lv2 := [some (gx_r (some a0)), some (gx_i x1), some (gx_i (x2 + 1)), none]) C dX6_find_84 rfl rfl (by decide) rfl ?_
      refine gx_goto (tgt := 52) C dX6_find_87 (by decide) ?_
      exact ih a0 x1 (x2 + 1) Xz29 h
def gm_X6_find_23 (fu : Nat) : Nat → Nat → Int32 → Int32 → gx_H → Option gx_H
  | 0, _, _, _, _ => none
  | n + 1, a0, x1, x2, X =>
    if ((1600 : Int32) * (x1 + (1 : Int32))) ≤ x2 then (
    gm_X6_find_52 fu  fu a0 x1 ((8 : Int32) * x1) X) else (
    (gx_gd X a0 6 14).bind fun az31 =>
    (gx_pal X az31 1 x2 (0 : Int64)).bind fun Xz32 =>
    (gm_X6_find_23 fu  n) a0 x1 (x2 + 1) Xz32)
set_option maxHeartbeats 1000000 in
set_option maxRecDepth 20000 in
theorem gt_X6_find_23 {p : Program} {l : Launch} {e : Env} {s : State} {m : MethodId} {args : Array Value} {below : List Frame} {meth : Method} {c : Code} {D : gx_D} {X2 : gx_H}  (C : gx_C D gz_cl gz_at gz_tb gz_nb p s m meth c cX6_find 4 RX6 none) (fu : Nat) : ∀ (n : Nat) (a0 : Nat) (x1 : Int32) (x2 : Int32) (X : gx_H) , gm_X6_find_23 fu  n a0 x1 x2 X = some X2 → gx_W D gz_cl 4 p l e (gx_rm 3 83 0 0) s m args below meth c 0 0 (MQ below (gx_Q D gz_cl none X2) args s 0 0 (gx_Z D)) X 23 [some (gx_r (some a0)), some (gx_i x1), some (gx_i x2), none] [] := by
  intro n
  induction n with
  | zero =>
    intro a0 x1 x2 X h
    have h : none = some _ := h
    cases h
  | succ n ih =>
    intro a0 x1 x2 X h
    rw [gm_X6_find_23] at h
    refine gx_iload_n C dX6_find_23 rfl rfl ?_
    refine gx_sipush (v := 1600) C dX6_find_24 (by decide) ?_
    refine gx_iload_n C dX6_find_27 rfl rfl ?_
    refine gx_iconst (v := 1) C dX6_find_28 (by decide) ?_
    refine gx_iadd C dX6_find_29 ?_
    refine gx_imul C dX6_find_30 ?_
    refine gx_icmp_ge (tgt := 47) C dX6_find_31 (by decide) (fun qz30 => ?_) (fun qz30 => ?_)
    · rw [if_pos qz30] at h
      refine gx_bipush (v := 8) C dX6_find_47 (by decide) ?_
      refine gx_iload_n C dX6_find_49 rfl rfl ?_
      refine gx_imul C dX6_find_50 ?_
      refine gx_istore_n (lv2 := [some (gx_r (some a0)), some (gx_i x1), some (gx_i ((8 : Int32) * x1)), none]) C dX6_find_51 rfl (by decide) rfl ?_
      exact gt_X6_find_52 C fu  fu a0 x1 ((8 : Int32) * x1) X h
    · rw [if_neg qz30] at h
      refine gx_aload_n C dX6_find_34 rfl rfl ?_
      obtain ⟨az31, eaz31, h⟩ := gx_bd h
      refine gx_get C kcX6 14 (by decide) wl_511 (gx_gd_s eaz31) dX6_find_35 ?_
      refine gx_iload_n C dX6_find_38 rfl rfl ?_
      refine gx_lconst (v := 0) C dX6_find_39 (by decide) ?_
      obtain ⟨Xz32, eXz32, h⟩ := gx_bd h
      refine gx_last C (t := 1) rfl eXz32 dX6_find_40 ?_
      refine gx_iinc (v := (x2 + 1)) (lv2 := [some (gx_r (some a0)), some (gx_i x1), some (gx_i (x2 + 1)), none]) C dX6_find_41 rfl rfl (by decide) rfl ?_
      refine gx_goto (tgt := 23) C dX6_find_44 (by decide) ?_
      exact ih a0 x1 (x2 + 1) Xz32 h
def gm_X6_find (fu : Nat) (this : Nat) (p_0 : Int32) (X : gx_H) : Option gx_H :=
  (gx_gd X this 6 13).bind fun az33 =>
  (gx_gai X az33 2 p_0).bind fun vz34 =>
  if vz34 = 0 then (
  (gx_gd X this 6 13).bind fun az36 =>
  (gx_pai X az36 2 p_0 (vp_nar .boolean (1 : Int32))).bind fun Xz37 =>
  gm_X6_find_23 fu  fu this p_0 ((1600 : Int32) * p_0) Xz37) else (
  some X)
set_option maxHeartbeats 1000000 in
set_option maxRecDepth 20000 in
theorem gc_X6_find {l : Launch} {D : gx_D} (fu : Nat) (this : Nat) (p_0 : Int32) (X : gx_H) (X2 : gx_H) (h : gm_X6_find fu this p_0 X = some X2) : gx_M D gz_cl gz_at gz_tb gz_nb l yX6_find cX6_find 4 none 3 83 [gx_r (some this), gx_i p_0] X none X2 0 0 := by
  unfold gm_X6_find at h
  refine gx_enter [some (gx_r (some this)), some (gx_i p_0), none, none] rfl (by decide) (Nat.le_of_ble_eq_true rfl) ?_
  intro p e s m below meth c C _
  refine gx_aload_n C dX6_find_0 rfl rfl ?_
  obtain ⟨az33, eaz33, h⟩ := gx_bd h
  refine gx_get C kcX6 13 (by decide) wl_510 (gx_gd_s eaz33) dX6_find_1 ?_
  refine gx_iload_n C dX6_find_4 rfl rfl ?_
  obtain ⟨vz34, evz34, h⟩ := gx_bd h
  refine gx_zald C (t := 2) rfl evz34 dX6_find_5 ?_
  refine gx_if_eq (tgt := 10) C dX6_find_6 (by decide) (fun qz35 => ?_) (fun qz35 => ?_)
  · rw [if_pos qz35] at h
    refine gx_aload_n C dX6_find_10 rfl rfl ?_
    obtain ⟨az36, eaz36, h⟩ := gx_bd h
    refine gx_get C kcX6 13 (by decide) wl_510 (gx_gd_s eaz36) dX6_find_11 ?_
    refine gx_iload_n C dX6_find_14 rfl rfl ?_
    refine gx_iconst (v := 1) C dX6_find_15 (by decide) ?_
    obtain ⟨Xz37, eXz37, h⟩ := gx_bd h
    refine gx_zast C (t := 2) rfl eXz37 dX6_find_16 ?_
    refine gx_sipush (v := 1600) C dX6_find_17 (by decide) ?_
    refine gx_iload_n C dX6_find_20 rfl rfl ?_
    refine gx_imul C dX6_find_21 ?_
    refine gx_istore_n (lv2 := [some (gx_r (some this)), some (gx_i p_0), some (gx_i ((1600 : Int32) * p_0)), none]) C dX6_find_22 rfl (by decide) rfl ?_
    exact gt_X6_find_23 C fu  fu this p_0 ((1600 : Int32) * p_0) Xz37 h
  · rw [if_neg qz35] at h
    cases h
    exact gx_vret C dX6_find_9
theorem dX6_needs_0 : decode cX6_needs 0 = .ok (.sipush 1600, 3) := by decide +kernel
theorem dX6_needs_3 : decode cX6_needs 3 = .ok (.iload_n 1, 1) := by decide +kernel
theorem dX6_needs_4 : decode cX6_needs 4 = .ok (.imul, 1) := by decide +kernel
theorem dX6_needs_5 : decode cX6_needs 5 = .ok (.sipush 200, 3) := by decide +kernel
theorem dX6_needs_8 : decode cX6_needs 8 = .ok (.iload_n 2, 1) := by decide +kernel
theorem dX6_needs_9 : decode cX6_needs 9 = .ok (.imul, 1) := by decide +kernel
theorem dX6_needs_10 : decode cX6_needs 10 = .ok (.iadd, 1) := by decide +kernel
theorem dX6_needs_11 : decode cX6_needs 11 = .ok (.iload_n 3, 1) := by decide +kernel
theorem dX6_needs_12 : decode cX6_needs 12 = .ok (.iadd, 1) := by decide +kernel
theorem dX6_needs_13 : decode cX6_needs 13 = .ok (.istore 4, 2) := by decide +kernel
theorem dX6_needs_15 : decode cX6_needs 15 = .ok (.aload_n 0, 1) := by decide +kernel
theorem dX6_needs_16 : decode cX6_needs 16 = .ok (.getfield 31, 3) := by decide +kernel
theorem dX6_needs_19 : decode cX6_needs 19 = .ok (.iload 4, 2) := by decide +kernel
theorem dX6_needs_21 : decode cX6_needs 21 = .ok (.iaload, 1) := by decide +kernel
theorem dX6_needs_22 : decode cX6_needs 22 = .ok (.iconst 4, 1) := by decide +kernel
theorem dX6_needs_23 : decode cX6_needs 23 = .ok (.if_icmp .eq 5, 3) := by decide +kernel
theorem dX6_needs_26 : decode cX6_needs 26 = .ok (.iconst 0, 1) := by decide +kernel
theorem dX6_needs_27 : decode cX6_needs 27 = .ok (.ireturn, 1) := by decide +kernel
theorem dX6_needs_28 : decode cX6_needs 28 = .ok (.aload_n 0, 1) := by decide +kernel
theorem dX6_needs_29 : decode cX6_needs 29 = .ok (.iload_n 1, 1) := by decide +kernel
theorem dX6_needs_30 : decode cX6_needs 30 = .ok (.invokevirtual 115, 3) := by decide +kernel
theorem dX6_needs_33 : decode cX6_needs 33 = .ok (.aload_n 0, 1) := by decide +kernel
theorem dX6_needs_34 : decode cX6_needs 34 = .ok (.getfield 34, 3) := by decide +kernel
theorem dX6_needs_37 : decode cX6_needs 37 = .ok (.iload 4, 2) := by decide +kernel
theorem dX6_needs_39 : decode cX6_needs 39 = .ok (.iaload, 1) := by decide +kernel
theorem dX6_needs_40 : decode cX6_needs 40 = .ok (.istore 5, 2) := by decide +kernel
theorem dX6_needs_42 : decode cX6_needs 42 = .ok (.aload_n 0, 1) := by decide +kernel
theorem dX6_needs_43 : decode cX6_needs 43 = .ok (.getfield 18, 3) := by decide +kernel
theorem dX6_needs_46 : decode cX6_needs 46 = .ok (.iload 5, 2) := by decide +kernel
theorem dX6_needs_48 : decode cX6_needs 48 = .ok (.baload, 1) := by decide +kernel
theorem dX6_needs_49 : decode cX6_needs 49 = .ok (.istore 6, 2) := by decide +kernel
theorem dX6_needs_51 : decode cX6_needs 51 = .ok (.iconst 0, 1) := by decide +kernel
theorem dX6_needs_52 : decode cX6_needs 52 = .ok (.istore 7, 2) := by decide +kernel
theorem dX6_needs_54 : decode cX6_needs 54 = .ok (.iload 7, 2) := by decide +kernel
theorem dX6_needs_56 : decode cX6_needs 56 = .ok (.aload_n 0, 1) := by decide +kernel
theorem dX6_needs_57 : decode cX6_needs 57 = .ok (.getfield 7, 3) := by decide +kernel
theorem dX6_needs_60 : decode cX6_needs 60 = .ok (.if_icmp .ge 113, 3) := by decide +kernel
theorem dX6_needs_63 : decode cX6_needs 63 = .ok (.aload_n 0, 1) := by decide +kernel
theorem dX6_needs_64 : decode cX6_needs 64 = .ok (.getfield 49, 3) := by decide +kernel
theorem dX6_needs_67 : decode cX6_needs 67 = .ok (.iload 4, 2) := by decide +kernel
theorem dX6_needs_69 : decode cX6_needs 69 = .ok (.laload, 1) := by decide +kernel
theorem dX6_needs_70 : decode cX6_needs 70 = .ok (.iload 7, 2) := by decide +kernel
theorem dX6_needs_72 : decode cX6_needs 72 = .ok (.lshr, 1) := by decide +kernel
theorem dX6_needs_73 : decode cX6_needs 73 = .ok (.lconst 1, 1) := by decide +kernel
theorem dX6_needs_74 : decode cX6_needs 74 = .ok (.land, 1) := by decide +kernel
theorem dX6_needs_75 : decode cX6_needs 75 = .ok (.lconst 1, 1) := by decide +kernel
theorem dX6_needs_76 : decode cX6_needs 76 = .ok (.lcmp, 1) := by decide +kernel
theorem dX6_needs_77 : decode cX6_needs 77 = .ok (.ifCond .ne 90, 3) := by decide +kernel
theorem dX6_needs_80 : decode cX6_needs 80 = .ok (.aload_n 0, 1) := by decide +kernel
theorem dX6_needs_81 : decode cX6_needs 81 = .ok (.getfield 14, 3) := by decide +kernel
theorem dX6_needs_84 : decode cX6_needs 84 = .ok (.iload 5, 2) := by decide +kernel
theorem dX6_needs_86 : decode cX6_needs 86 = .ok (.iload 7, 2) := by decide +kernel
theorem dX6_needs_88 : decode cX6_needs 88 = .ok (.iload 7, 2) := by decide +kernel
theorem dX6_needs_90 : decode cX6_needs 90 = .ok (.invokestatic 83, 3) := by decide +kernel
theorem dX6_needs_93 : decode cX6_needs 93 = .ok (.baload, 1) := by decide +kernel
theorem dX6_needs_94 : decode cX6_needs 94 = .ok (.istore 8, 2) := by decide +kernel
theorem dX6_needs_96 : decode cX6_needs 96 = .ok (.iconst (-1), 1) := by decide +kernel
theorem dX6_needs_97 : decode cX6_needs 97 = .ok (.istore 9, 2) := by decide +kernel
theorem dX6_needs_99 : decode cX6_needs 99 = .ok (.iload 9, 2) := by decide +kernel
theorem dX6_needs_101 : decode cX6_needs 101 = .ok (.aload_n 0, 1) := by decide +kernel
theorem dX6_needs_102 : decode cX6_needs 102 = .ok (.getfield 7, 3) := by decide +kernel
theorem dX6_needs_105 : decode cX6_needs 105 = .ok (.if_icmp .ge 45, 3) := by decide +kernel
theorem dX6_needs_108 : decode cX6_needs 108 = .ok (.iload 8, 2) := by decide +kernel
theorem dX6_needs_110 : decode cX6_needs 110 = .ok (.ifCond .eq 31, 3) := by decide +kernel
theorem dX6_needs_113 : decode cX6_needs 113 = .ok (.iload 9, 2) := by decide +kernel
theorem dX6_needs_115 : decode cX6_needs 115 = .ok (.iload 7, 2) := by decide +kernel
theorem dX6_needs_117 : decode cX6_needs 117 = .ok (.if_icmp .eq 20, 3) := by decide +kernel
theorem dX6_needs_120 : decode cX6_needs 120 = .ok (.aload_n 0, 1) := by decide +kernel
theorem dX6_needs_121 : decode cX6_needs 121 = .ok (.getfield 14, 3) := by decide +kernel
theorem dX6_needs_124 : decode cX6_needs 124 = .ok (.iload 5, 2) := by decide +kernel
theorem dX6_needs_126 : decode cX6_needs 126 = .ok (.iload 7, 2) := by decide +kernel
theorem dX6_needs_128 : decode cX6_needs 128 = .ok (.iload 9, 2) := by decide +kernel
theorem dX6_needs_130 : decode cX6_needs 130 = .ok (.invokestatic 83, 3) := by decide +kernel
theorem dX6_needs_133 : decode cX6_needs 133 = .ok (.baload, 1) := by decide +kernel
theorem dX6_needs_134 : decode cX6_needs 134 = .ok (.ifCond .ne 7, 3) := by decide +kernel
theorem dX6_needs_137 : decode cX6_needs 137 = .ok (.iconst 1, 1) := by decide +kernel
theorem dX6_needs_138 : decode cX6_needs 138 = .ok (.goto 4, 3) := by decide +kernel
theorem dX6_needs_141 : decode cX6_needs 141 = .ok (.iconst 0, 1) := by decide +kernel
theorem dX6_needs_142 : decode cX6_needs 142 = .ok (.istore 8, 2) := by decide +kernel
theorem dX6_needs_144 : decode cX6_needs 144 = .ok (.iinc 9 1, 3) := by decide +kernel
theorem dX6_needs_147 : decode cX6_needs 147 = .ok (.goto (-48), 3) := by decide +kernel
theorem dX6_needs_150 : decode cX6_needs 150 = .ok (.iload 6, 2) := by decide +kernel
theorem dX6_needs_152 : decode cX6_needs 152 = .ok (.ifCond .ne 8, 3) := by decide +kernel
theorem dX6_needs_155 : decode cX6_needs 155 = .ok (.iload 8, 2) := by decide +kernel
theorem dX6_needs_157 : decode cX6_needs 157 = .ok (.ifCond .ne 7, 3) := by decide +kernel
theorem dX6_needs_160 : decode cX6_needs 160 = .ok (.iconst 1, 1) := by decide +kernel
theorem dX6_needs_161 : decode cX6_needs 161 = .ok (.goto 4, 3) := by decide +kernel
theorem dX6_needs_164 : decode cX6_needs 164 = .ok (.iconst 0, 1) := by decide +kernel
theorem dX6_needs_165 : decode cX6_needs 165 = .ok (.istore 6, 2) := by decide +kernel
theorem dX6_needs_167 : decode cX6_needs 167 = .ok (.iinc 7 1, 3) := by decide +kernel
theorem dX6_needs_170 : decode cX6_needs 170 = .ok (.goto (-116), 3) := by decide +kernel
theorem dX6_needs_173 : decode cX6_needs 173 = .ok (.iload 6, 2) := by decide +kernel
theorem dX6_needs_175 : decode cX6_needs 175 = .ok (.ireturn, 1) := by decide +kernel
def gm_X6_needs_142 (fu : Nat) (K54 : Nat → Int32 → Int32 → Int32 → Int32 → gx_H → Option (Int32 × gx_H)) (K99 : Nat → Int32 → Int32 → Int32 → Int32 → Int32 → Int32 → gx_H → Option (Int32 × gx_H)) (a0 : Nat) (x4 : Int32) (x5 : Int32) (x6 : Int32) (x7 : Int32) (x9 : Int32) (sx0 : Int32) (X : gx_H) : Option (Int32 × gx_H) :=
  K99 a0 x4 x5 x6 x7 sx0 (x9 + 1) X
set_option maxHeartbeats 1000000 in
set_option maxRecDepth 20000 in
theorem gt_X6_needs_142 {p : Program} {l : Launch} {e : Env} {s : State} {m : MethodId} {args : Array Value} {below : List Frame} {meth : Method} {c : Code} {D : gx_D} {r : Int32} {X2 : gx_H}  (C : gx_C D gz_cl gz_at gz_tb gz_nb p s m meth c cX6_needs 10 RX6 (some .boolean)) (fu : Nat) (K54 : Nat → Int32 → Int32 → Int32 → Int32 → gx_H → Option (Int32 × gx_H)) (hK54 : ∀ (a0 : Nat) (x4 : Int32) (x5 : Int32) (x6 : Int32) (x7 : Int32) (X : gx_H), K54 a0 x4 x5 x6 x7 X = some (r, X2) → gx_W D gz_cl 10 p l e (gx_rm 4 106 0 0) s m args below meth c 0 0 (MQ below (gx_Q D gz_cl (some (gx_i r)) X2) args s 0 0 (gx_Z D)) X 54 [some (gx_r (some a0)), none, none, none, some (gx_i x4), some (gx_i x5), some (gx_i x6), some (gx_i x7), none, none] []) (K99 : Nat → Int32 → Int32 → Int32 → Int32 → Int32 → Int32 → gx_H → Option (Int32 × gx_H)) (hK99 : ∀ (a0 : Nat) (x4 : Int32) (x5 : Int32) (x6 : Int32) (x7 : Int32) (x8 : Int32) (x9 : Int32) (X : gx_H), K99 a0 x4 x5 x6 x7 x8 x9 X = some (r, X2) → gx_W D gz_cl 10 p l e (gx_rm 4 106 0 0) s m args below meth c 0 0 (MQ below (gx_Q D gz_cl (some (gx_i r)) X2) args s 0 0 (gx_Z D)) X 99 [some (gx_r (some a0)), none, none, none, some (gx_i x4), some (gx_i x5), some (gx_i x6), some (gx_i x7), some (gx_i x8), some (gx_i x9)] []) (a0 : Nat) (x4 : Int32) (x5 : Int32) (x6 : Int32) (x7 : Int32) (x9 : Int32) (sx0 : Int32) (X : gx_H) (h : gm_X6_needs_142 fu K54 K99 a0 x4 x5 x6 x7 x9 sx0 X = some (r, X2)) : gx_W D gz_cl 10 p l e (gx_rm 4 106 0 0) s m args below meth c 0 0 (MQ below (gx_Q D gz_cl (some (gx_i r)) X2) args s 0 0 (gx_Z D)) X 142 [some (gx_r (some a0)), none, none, none, some (gx_i x4), some (gx_i x5), some (gx_i x6), some (gx_i x7), none, some (gx_i x9)] [gx_i sx0] := by
  unfold gm_X6_needs_142 at h
  refine gx_istore (lv2 := [some (gx_r (some a0)), none, none, none, some (gx_i x4), some (gx_i x5), some (gx_i x6), some (gx_i x7), some (gx_i sx0), some (gx_i x9)]) C dX6_needs_142 (by decide) rfl ?_
  refine gx_iinc (v := (x9 + 1)) (lv2 := [some (gx_r (some a0)), none, none, none, some (gx_i x4), some (gx_i x5), some (gx_i x6), some (gx_i x7), some (gx_i sx0), some (gx_i (x9 + 1))]) C dX6_needs_144 rfl rfl (by decide) rfl ?_
  refine gx_goto (tgt := 99) C dX6_needs_147 (by decide) ?_
  exact hK99 a0 x4 x5 x6 x7 sx0 (x9 + 1) X h
def gm_X6_needs_137 (fu : Nat) (K54 : Nat → Int32 → Int32 → Int32 → Int32 → gx_H → Option (Int32 × gx_H)) (K99 : Nat → Int32 → Int32 → Int32 → Int32 → Int32 → Int32 → gx_H → Option (Int32 × gx_H)) (a0 : Nat) (x4 : Int32) (x5 : Int32) (x6 : Int32) (x7 : Int32) (x9 : Int32) (X : gx_H) : Option (Int32 × gx_H) :=
  gm_X6_needs_142 fu K54 K99 a0 x4 x5 x6 x7 x9 (1 : Int32) X
set_option maxHeartbeats 1000000 in
set_option maxRecDepth 20000 in
theorem gt_X6_needs_137 {p : Program} {l : Launch} {e : Env} {s : State} {m : MethodId} {args : Array Value} {below : List Frame} {meth : Method} {c : Code} {D : gx_D} {r : Int32} {X2 : gx_H}  (C : gx_C D gz_cl gz_at gz_tb gz_nb p s m meth c cX6_needs 10 RX6 (some .boolean)) (fu : Nat) (K54 : Nat → Int32 → Int32 → Int32 → Int32 → gx_H → Option (Int32 × gx_H)) (hK54 : ∀ (a0 : Nat) (x4 : Int32) (x5 : Int32) (x6 : Int32) (x7 : Int32) (X : gx_H), K54 a0 x4 x5 x6 x7 X = some (r, X2) → gx_W D gz_cl 10 p l e (gx_rm 4 106 0 0) s m args below meth c 0 0 (MQ below (gx_Q D gz_cl (some (gx_i r)) X2) args s 0 0 (gx_Z D)) X 54 [some (gx_r (some a0)), none, none, none, some (gx_i x4), some (gx_i x5), some (gx_i x6), some (gx_i x7), none, none] []) (K99 : Nat → Int32 → Int32 → Int32 → Int32 → Int32 → Int32 → gx_H → Option (Int32 × gx_H)) (hK99 : ∀ (a0 : Nat) (x4 : Int32) (x5 : Int32) (x6 : Int32) (x7 : Int32) (x8 : Int32) (x9 : Int32) (X : gx_H), K99 a0 x4 x5 x6 x7 x8 x9 X = some (r, X2) → gx_W D gz_cl 10 p l e (gx_rm 4 106 0 0) s m args below meth c 0 0 (MQ below (gx_Q D gz_cl (some (gx_i r)) X2) args s 0 0 (gx_Z D)) X 99 [some (gx_r (some a0)), none, none, none, some (gx_i x4), some (gx_i x5), some (gx_i x6), some (gx_i x7), some (gx_i x8), some (gx_i x9)] []) (a0 : Nat) (x4 : Int32) (x5 : Int32) (x6 : Int32) (x7 : Int32) (x9 : Int32) (X : gx_H) (h : gm_X6_needs_137 fu K54 K99 a0 x4 x5 x6 x7 x9 X = some (r, X2)) : gx_W D gz_cl 10 p l e (gx_rm 4 106 0 0) s m args below meth c 0 0 (MQ below (gx_Q D gz_cl (some (gx_i r)) X2) args s 0 0 (gx_Z D)) X 137 [some (gx_r (some a0)), none, none, none, some (gx_i x4), some (gx_i x5), some (gx_i x6), some (gx_i x7), none, some (gx_i x9)] [] := by
  unfold gm_X6_needs_137 at h
  refine gx_iconst (v := 1) C dX6_needs_137 (by decide) ?_
  refine gx_goto (tgt := 142) C dX6_needs_138 (by decide) ?_
  exact gt_X6_needs_142 C fu K54 hK54 K99 hK99 a0 x4 x5 x6 x7 x9 (1 : Int32) X h
def gm_X6_needs_141 (fu : Nat) (K54 : Nat → Int32 → Int32 → Int32 → Int32 → gx_H → Option (Int32 × gx_H)) (K99 : Nat → Int32 → Int32 → Int32 → Int32 → Int32 → Int32 → gx_H → Option (Int32 × gx_H)) (a0 : Nat) (x4 : Int32) (x5 : Int32) (x6 : Int32) (x7 : Int32) (x9 : Int32) (X : gx_H) : Option (Int32 × gx_H) :=
  gm_X6_needs_142 fu K54 K99 a0 x4 x5 x6 x7 x9 (0 : Int32) X
set_option maxHeartbeats 1000000 in
set_option maxRecDepth 20000 in
theorem gt_X6_needs_141 {p : Program} {l : Launch} {e : Env} {s : State} {m : MethodId} {args : Array Value} {below : List Frame} {meth : Method} {c : Code} {D : gx_D} {r : Int32} {X2 : gx_H}  (C : gx_C D gz_cl gz_at gz_tb gz_nb p s m meth c cX6_needs 10 RX6 (some .boolean)) (fu : Nat) (K54 : Nat → Int32 → Int32 → Int32 → Int32 → gx_H → Option (Int32 × gx_H)) (hK54 : ∀ (a0 : Nat) (x4 : Int32) (x5 : Int32) (x6 : Int32) (x7 : Int32) (X : gx_H), K54 a0 x4 x5 x6 x7 X = some (r, X2) → gx_W D gz_cl 10 p l e (gx_rm 4 106 0 0) s m args below meth c 0 0 (MQ below (gx_Q D gz_cl (some (gx_i r)) X2) args s 0 0 (gx_Z D)) X 54 [some (gx_r (some a0)), none, none, none, some (gx_i x4), some (gx_i x5), some (gx_i x6), some (gx_i x7), none, none] []) (K99 : Nat → Int32 → Int32 → Int32 → Int32 → Int32 → Int32 → gx_H → Option (Int32 × gx_H)) (hK99 : ∀ (a0 : Nat) (x4 : Int32) (x5 : Int32) (x6 : Int32) (x7 : Int32) (x8 : Int32) (x9 : Int32) (X : gx_H), K99 a0 x4 x5 x6 x7 x8 x9 X = some (r, X2) → gx_W D gz_cl 10 p l e (gx_rm 4 106 0 0) s m args below meth c 0 0 (MQ below (gx_Q D gz_cl (some (gx_i r)) X2) args s 0 0 (gx_Z D)) X 99 [some (gx_r (some a0)), none, none, none, some (gx_i x4), some (gx_i x5), some (gx_i x6), some (gx_i x7), some (gx_i x8), some (gx_i x9)] []) (a0 : Nat) (x4 : Int32) (x5 : Int32) (x6 : Int32) (x7 : Int32) (x9 : Int32) (X : gx_H) (h : gm_X6_needs_141 fu K54 K99 a0 x4 x5 x6 x7 x9 X = some (r, X2)) : gx_W D gz_cl 10 p l e (gx_rm 4 106 0 0) s m args below meth c 0 0 (MQ below (gx_Q D gz_cl (some (gx_i r)) X2) args s 0 0 (gx_Z D)) X 141 [some (gx_r (some a0)), none, none, none, some (gx_i x4), some (gx_i x5), some (gx_i x6), some (gx_i x7), none, some (gx_i x9)] [] := by
  unfold gm_X6_needs_141 at h
  refine gx_iconst (v := 0) C dX6_needs_141 (by decide) ?_
  exact gt_X6_needs_142 C fu K54 hK54 K99 hK99 a0 x4 x5 x6 x7 x9 (0 : Int32) X h
def gm_X6_needs_167 (fu : Nat) (K54 : Nat → Int32 → Int32 → Int32 → Int32 → gx_H → Option (Int32 × gx_H)) (a0 : Nat) (x4 : Int32) (x5 : Int32) (x6 : Int32) (x7 : Int32) (X : gx_H) : Option (Int32 × gx_H) :=
  K54 a0 x4 x5 x6 (x7 + 1) X
set_option maxHeartbeats 1000000 in
set_option maxRecDepth 20000 in
theorem gt_X6_needs_167 {p : Program} {l : Launch} {e : Env} {s : State} {m : MethodId} {args : Array Value} {below : List Frame} {meth : Method} {c : Code} {D : gx_D} {r : Int32} {X2 : gx_H}  (C : gx_C D gz_cl gz_at gz_tb gz_nb p s m meth c cX6_needs 10 RX6 (some .boolean)) (fu : Nat) (K54 : Nat → Int32 → Int32 → Int32 → Int32 → gx_H → Option (Int32 × gx_H)) (hK54 : ∀ (a0 : Nat) (x4 : Int32) (x5 : Int32) (x6 : Int32) (x7 : Int32) (X : gx_H), K54 a0 x4 x5 x6 x7 X = some (r, X2) → gx_W D gz_cl 10 p l e (gx_rm 4 106 0 0) s m args below meth c 0 0 (MQ below (gx_Q D gz_cl (some (gx_i r)) X2) args s 0 0 (gx_Z D)) X 54 [some (gx_r (some a0)), none, none, none, some (gx_i x4), some (gx_i x5), some (gx_i x6), some (gx_i x7), none, none] []) (a0 : Nat) (x4 : Int32) (x5 : Int32) (x6 : Int32) (x7 : Int32) (X : gx_H) (h : gm_X6_needs_167 fu K54 a0 x4 x5 x6 x7 X = some (r, X2)) : gx_W D gz_cl 10 p l e (gx_rm 4 106 0 0) s m args below meth c 0 0 (MQ below (gx_Q D gz_cl (some (gx_i r)) X2) args s 0 0 (gx_Z D)) X 167 [some (gx_r (some a0)), none, none, none, some (gx_i x4), some (gx_i x5), some (gx_i x6), some (gx_i x7), none, none] [] := by
  unfold gm_X6_needs_167 at h
  refine gx_iinc (v := (x7 + 1)) (lv2 := [some (gx_r (some a0)), none, none, none, some (gx_i x4), some (gx_i x5), some (gx_i x6), some (gx_i (x7 + 1)), none, none]) C dX6_needs_167 rfl rfl (by decide) rfl ?_
  refine gx_goto (tgt := 54) C dX6_needs_170 (by decide) ?_
  exact hK54 a0 x4 x5 x6 (x7 + 1) X h
def gm_X6_needs_165 (fu : Nat) (K54 : Nat → Int32 → Int32 → Int32 → Int32 → gx_H → Option (Int32 × gx_H)) (a0 : Nat) (x4 : Int32) (x5 : Int32) (x7 : Int32) (sx0 : Int32) (X : gx_H) : Option (Int32 × gx_H) :=
  gm_X6_needs_167 fu K54 a0 x4 x5 sx0 x7 X
set_option maxHeartbeats 1000000 in
set_option maxRecDepth 20000 in
theorem gt_X6_needs_165 {p : Program} {l : Launch} {e : Env} {s : State} {m : MethodId} {args : Array Value} {below : List Frame} {meth : Method} {c : Code} {D : gx_D} {r : Int32} {X2 : gx_H}  (C : gx_C D gz_cl gz_at gz_tb gz_nb p s m meth c cX6_needs 10 RX6 (some .boolean)) (fu : Nat) (K54 : Nat → Int32 → Int32 → Int32 → Int32 → gx_H → Option (Int32 × gx_H)) (hK54 : ∀ (a0 : Nat) (x4 : Int32) (x5 : Int32) (x6 : Int32) (x7 : Int32) (X : gx_H), K54 a0 x4 x5 x6 x7 X = some (r, X2) → gx_W D gz_cl 10 p l e (gx_rm 4 106 0 0) s m args below meth c 0 0 (MQ below (gx_Q D gz_cl (some (gx_i r)) X2) args s 0 0 (gx_Z D)) X 54 [some (gx_r (some a0)), none, none, none, some (gx_i x4), some (gx_i x5), some (gx_i x6), some (gx_i x7), none, none] []) (a0 : Nat) (x4 : Int32) (x5 : Int32) (x7 : Int32) (sx0 : Int32) (X : gx_H) (h : gm_X6_needs_165 fu K54 a0 x4 x5 x7 sx0 X = some (r, X2)) : gx_W D gz_cl 10 p l e (gx_rm 4 106 0 0) s m args below meth c 0 0 (MQ below (gx_Q D gz_cl (some (gx_i r)) X2) args s 0 0 (gx_Z D)) X 165 [some (gx_r (some a0)), none, none, none, some (gx_i x4), some (gx_i x5), none, some (gx_i x7), none, none] [gx_i sx0] := by
  unfold gm_X6_needs_165 at h
  refine gx_istore (lv2 := [some (gx_r (some a0)), none, none, none, some (gx_i x4), some (gx_i x5), some (gx_i sx0), some (gx_i x7), none, none]) C dX6_needs_165 (by decide) rfl ?_
  exact gt_X6_needs_167 C fu K54 hK54 a0 x4 x5 sx0 x7 X h
def gm_X6_needs_160 (fu : Nat) (K54 : Nat → Int32 → Int32 → Int32 → Int32 → gx_H → Option (Int32 × gx_H)) (a0 : Nat) (x4 : Int32) (x5 : Int32) (x7 : Int32) (X : gx_H) : Option (Int32 × gx_H) :=
  gm_X6_needs_165 fu K54 a0 x4 x5 x7 (1 : Int32) X
set_option maxHeartbeats 1000000 in
set_option maxRecDepth 20000 in
theorem gt_X6_needs_160 {p : Program} {l : Launch} {e : Env} {s : State} {m : MethodId} {args : Array Value} {below : List Frame} {meth : Method} {c : Code} {D : gx_D} {r : Int32} {X2 : gx_H}  (C : gx_C D gz_cl gz_at gz_tb gz_nb p s m meth c cX6_needs 10 RX6 (some .boolean)) (fu : Nat) (K54 : Nat → Int32 → Int32 → Int32 → Int32 → gx_H → Option (Int32 × gx_H)) (hK54 : ∀ (a0 : Nat) (x4 : Int32) (x5 : Int32) (x6 : Int32) (x7 : Int32) (X : gx_H), K54 a0 x4 x5 x6 x7 X = some (r, X2) → gx_W D gz_cl 10 p l e (gx_rm 4 106 0 0) s m args below meth c 0 0 (MQ below (gx_Q D gz_cl (some (gx_i r)) X2) args s 0 0 (gx_Z D)) X 54 [some (gx_r (some a0)), none, none, none, some (gx_i x4), some (gx_i x5), some (gx_i x6), some (gx_i x7), none, none] []) (a0 : Nat) (x4 : Int32) (x5 : Int32) (x7 : Int32) (X : gx_H) (h : gm_X6_needs_160 fu K54 a0 x4 x5 x7 X = some (r, X2)) : gx_W D gz_cl 10 p l e (gx_rm 4 106 0 0) s m args below meth c 0 0 (MQ below (gx_Q D gz_cl (some (gx_i r)) X2) args s 0 0 (gx_Z D)) X 160 [some (gx_r (some a0)), none, none, none, some (gx_i x4), some (gx_i x5), none, some (gx_i x7), none, none] [] := by
  unfold gm_X6_needs_160 at h
  refine gx_iconst (v := 1) C dX6_needs_160 (by decide) ?_
  refine gx_goto (tgt := 165) C dX6_needs_161 (by decide) ?_
  exact gt_X6_needs_165 C fu K54 hK54 a0 x4 x5 x7 (1 : Int32) X h
def gm_X6_needs_99 (fu : Nat) (K54 : Nat → Int32 → Int32 → Int32 → Int32 → gx_H → Option (Int32 × gx_H)) : Nat → Nat → Int32 → Int32 → Int32 → Int32 → Int32 → Int32 → gx_H → Option (Int32 × gx_H)
  | 0, _, _, _, _, _, _, _, _ => none
  | n + 1, a0, x4, x5, x6, x7, x8, x9, X =>
    (gx_gi X a0 6 1).bind fun vz1 =>
    if vz1 ≤ x9 then (
    if x6 = 0 then (
    if x8 = 0 then (
    gm_X6_needs_160 fu K54 a0 x4 x5 x7 X) else (
    gm_X6_needs_165 fu K54 a0 x4 x5 x7 (0 : Int32) X)) else (
    gm_X6_needs_160 fu K54 a0 x4 x5 x7 X)) else (
    if x8 = 0 then (
    gm_X6_needs_141 fu K54 (gm_X6_needs_99 fu K54 n) a0 x4 x5 x6 x7 x9 X) else (
    if x9 = x7 then (
    gm_X6_needs_137 fu K54 (gm_X6_needs_99 fu K54 n) a0 x4 x5 x6 x7 x9 X) else (
    (gx_gd X a0 6 2).bind fun az7 =>
    gx_b2 (gm_X6_wayAt fu x5 x7 x9 X) fun vz9 Xz8 =>
    (gx_gai Xz8 az7 2 vz9).bind fun vz10 =>
    if vz10 = 0 then (
    gm_X6_needs_137 fu K54 (gm_X6_needs_99 fu K54 n) a0 x4 x5 x6 x7 x9 Xz8) else (
    gm_X6_needs_141 fu K54 (gm_X6_needs_99 fu K54 n) a0 x4 x5 x6 x7 x9 Xz8))))
set_option maxHeartbeats 1000000 in
set_option maxRecDepth 20000 in
theorem gt_X6_needs_99 {p : Program} {l : Launch} {e : Env} {s : State} {m : MethodId} {args : Array Value} {below : List Frame} {meth : Method} {c : Code} {D : gx_D} {r : Int32} {X2 : gx_H}  (C : gx_C D gz_cl gz_at gz_tb gz_nb p s m meth c cX6_needs 10 RX6 (some .boolean)) (fu : Nat) (K54 : Nat → Int32 → Int32 → Int32 → Int32 → gx_H → Option (Int32 × gx_H)) (hK54 : ∀ (a0 : Nat) (x4 : Int32) (x5 : Int32) (x6 : Int32) (x7 : Int32) (X : gx_H), K54 a0 x4 x5 x6 x7 X = some (r, X2) → gx_W D gz_cl 10 p l e (gx_rm 4 106 0 0) s m args below meth c 0 0 (MQ below (gx_Q D gz_cl (some (gx_i r)) X2) args s 0 0 (gx_Z D)) X 54 [some (gx_r (some a0)), none, none, none, some (gx_i x4), some (gx_i x5), some (gx_i x6), some (gx_i x7), none, none] []) : ∀ (n : Nat) (a0 : Nat) (x4 : Int32) (x5 : Int32) (x6 : Int32) (x7 : Int32) (x8 : Int32) (x9 : Int32) (X : gx_H) , gm_X6_needs_99 fu K54 n a0 x4 x5 x6 x7 x8 x9 X = some (r, X2) → gx_W D gz_cl 10 p l e (gx_rm 4 106 0 0) s m args below meth c 0 0 (MQ below (gx_Q D gz_cl (some (gx_i r)) X2) args s 0 0 (gx_Z D)) X 99 [some (gx_r (some a0)), none, none, none, some (gx_i x4), some (gx_i x5), some (gx_i x6), some (gx_i x7), some (gx_i x8), some (gx_i x9)] [] := by
  intro n
  induction n with
  | zero =>
    intro a0 x4 x5 x6 x7 x8 x9 X h
    have h : none = some _ := h
    cases h
  | succ n ih =>
    intro a0 x4 x5 x6 x7 x8 x9 X h
    rw [gm_X6_needs_99] at h
    refine gx_iload C dX6_needs_99 rfl ?_
    refine gx_aload_n C dX6_needs_101 rfl rfl ?_
    obtain ⟨vz1, evz1, h⟩ := gx_bd h
    refine gx_get C kcX6 1 (by decide) wl_498 (gx_gi_s evz1) dX6_needs_102 ?_
    refine gx_icmp_ge (tgt := 150) C dX6_needs_105 (by decide) (fun qz2 => ?_) (fun qz2 => ?_)
    · rw [if_pos qz2] at h
      refine gx_iload C dX6_needs_150 rfl ?_
      refine gx_if_ne (tgt := 160) C dX6_needs_152 (by decide) (fun qz3 => ?_) (fun qz3 => ?_)
      · rw [if_neg qz3] at h
        refine gx_sub (lv2 := [some (gx_r (some a0)), none, none, none, some (gx_i x4), some (gx_i x5), none, some (gx_i x7), none, none]) [true, false, false, false, true, true, false, true, false, false] rfl ?_
        exact gt_X6_needs_160 C fu K54 hK54 a0 x4 x5 x7 X h
      · rw [if_pos qz3] at h
        refine gx_iload C dX6_needs_155 rfl ?_
        refine gx_if_ne (tgt := 164) C dX6_needs_157 (by decide) (fun qz4 => ?_) (fun qz4 => ?_)
        · rw [if_neg qz4] at h
          refine gx_iconst (v := 0) C dX6_needs_164 (by decide) ?_
          refine gx_sub (lv2 := [some (gx_r (some a0)), none, none, none, some (gx_i x4), some (gx_i x5), none, some (gx_i x7), none, none]) [true, false, false, false, true, true, false, true, false, false] rfl ?_
          exact gt_X6_needs_165 C fu K54 hK54 a0 x4 x5 x7 (0 : Int32) X h
        · rw [if_pos qz4] at h
          refine gx_sub (lv2 := [some (gx_r (some a0)), none, none, none, some (gx_i x4), some (gx_i x5), none, some (gx_i x7), none, none]) [true, false, false, false, true, true, false, true, false, false] rfl ?_
          exact gt_X6_needs_160 C fu K54 hK54 a0 x4 x5 x7 X h
    · rw [if_neg qz2] at h
      refine gx_iload C dX6_needs_108 rfl ?_
      refine gx_if_eq (tgt := 141) C dX6_needs_110 (by decide) (fun qz5 => ?_) (fun qz5 => ?_)
      · rw [if_pos qz5] at h
        refine gx_sub (lv2 := [some (gx_r (some a0)), none, none, none, some (gx_i x4), some (gx_i x5), some (gx_i x6), some (gx_i x7), none, some (gx_i x9)]) [true, false, false, false, true, true, true, true, false, true] rfl ?_
        exact gt_X6_needs_141 C fu K54 hK54 (gm_X6_needs_99 fu K54 n) ih a0 x4 x5 x6 x7 x9 X h
      · rw [if_neg qz5] at h
        refine gx_iload C dX6_needs_113 rfl ?_
        refine gx_iload C dX6_needs_115 rfl ?_
        refine gx_icmp_eq (tgt := 137) C dX6_needs_117 (by decide) (fun qz6 => ?_) (fun qz6 => ?_)
        · rw [if_pos qz6] at h
          refine gx_sub (lv2 := [some (gx_r (some a0)), none, none, none, some (gx_i x4), some (gx_i x5), some (gx_i x6), some (gx_i x7), none, some (gx_i x9)]) [true, false, false, false, true, true, true, true, false, true] rfl ?_
          exact gt_X6_needs_137 C fu K54 hK54 (gm_X6_needs_99 fu K54 n) ih a0 x4 x5 x6 x7 x9 X h
        · rw [if_neg qz6] at h
          refine gx_aload_n C dX6_needs_120 rfl rfl ?_
          obtain ⟨az7, eaz7, h⟩ := gx_bd h
          refine gx_get C kcX6 2 (by decide) wl_499 (gx_gd_s eaz7) dX6_needs_121 ?_
          refine gx_iload C dX6_needs_124 rfl ?_
          refine gx_iload C dX6_needs_126 rfl ?_
          refine gx_iload C dX6_needs_128 rfl ?_
          obtain ⟨vz9, Xz8, eXz8, h⟩ := gx_bd2 h
          refine gx_callS (As := [gx_i x5, gx_i x7, gx_i x9]) (st := [gx_r (some az7)]) (stk2 := [gx_i vz9, gx_r (some az7)]) C cd_X6_wayAt wl_579 wl_578 (gc_X6_wayAt fu x5 x7 x9 X vz9 Xz8 eXz8) rfl ⟨Nat.le_of_ble_eq_true rfl, Nat.le_of_ble_eq_true rfl⟩ ⟨Nat.le_of_ble_eq_true rfl, Nat.le_of_ble_eq_true rfl⟩ (Nat.le_of_ble_eq_true rfl) rfl rfl dX6_needs_130 ?_
          obtain ⟨vz10, evz10, h⟩ := gx_bd h
          refine gx_zald C (t := 2) rfl evz10 dX6_needs_133 ?_
          refine gx_if_ne (tgt := 141) C dX6_needs_134 (by decide) (fun qz11 => ?_) (fun qz11 => ?_)
          · rw [if_neg qz11] at h
            refine gx_sub (lv2 := [some (gx_r (some a0)), none, none, none, some (gx_i x4), some (gx_i x5), some (gx_i x6), some (gx_i x7), none, some (gx_i x9)]) [true, false, false, false, true, true, true, true, false, true] rfl ?_
            exact gt_X6_needs_141 C fu K54 hK54 (gm_X6_needs_99 fu K54 n) ih a0 x4 x5 x6 x7 x9 Xz8 h
          · rw [if_pos qz11] at h
            refine gx_sub (lv2 := [some (gx_r (some a0)), none, none, none, some (gx_i x4), some (gx_i x5), some (gx_i x6), some (gx_i x7), none, some (gx_i x9)]) [true, false, false, false, true, true, true, true, false, true] rfl ?_
            exact gt_X6_needs_137 C fu K54 hK54 (gm_X6_needs_99 fu K54 n) ih a0 x4 x5 x6 x7 x9 Xz8 h
def gm_X6_needs_54 (fu : Nat) : Nat → Nat → Int32 → Int32 → Int32 → Int32 → gx_H → Option (Int32 × gx_H)
  | 0, _, _, _, _, _, _ => none
  | n + 1, a0, x4, x5, x6, x7, X =>
    (gx_gi X a0 6 1).bind fun vz12 =>
    if vz12 ≤ x7 then (
    (gx_bz x6).bind fun zz14 =>
    some (x6, X)) else (
    (gx_gd X a0 6 14).bind fun az15 =>
    (gx_gal X az15 1 x4).bind fun vz16 =>
    if (lg_cmp ((vz16 >>> (x7.toInt64 &&& 63)) &&& (1 : Int64)) (1 : Int64)) = 0 then (
    (gx_gd X a0 6 2).bind fun az18 =>
    gx_b2 (gm_X6_wayAt fu x5 x7 x7 X) fun vz20 Xz19 =>
    (gx_gai Xz19 az18 2 vz20).bind fun vz21 =>
    gm_X6_needs_99 fu (gm_X6_needs_54 fu  n) fu a0 x4 x5 x6 x7 vz21 (-1 : Int32) Xz19) else (
    gm_X6_needs_167 fu (gm_X6_needs_54 fu  n) a0 x4 x5 x6 x7 X))
set_option maxHeartbeats 1000000 in
set_option maxRecDepth 20000 in
theorem gt_X6_needs_54 {p : Program} {l : Launch} {e : Env} {s : State} {m : MethodId} {args : Array Value} {below : List Frame} {meth : Method} {c : Code} {D : gx_D} {r : Int32} {X2 : gx_H}  (C : gx_C D gz_cl gz_at gz_tb gz_nb p s m meth c cX6_needs 10 RX6 (some .boolean)) (fu : Nat) : ∀ (n : Nat) (a0 : Nat) (x4 : Int32) (x5 : Int32) (x6 : Int32) (x7 : Int32) (X : gx_H) , gm_X6_needs_54 fu  n a0 x4 x5 x6 x7 X = some (r, X2) → gx_W D gz_cl 10 p l e (gx_rm 4 106 0 0) s m args below meth c 0 0 (MQ below (gx_Q D gz_cl (some (gx_i r)) X2) args s 0 0 (gx_Z D)) X 54 [some (gx_r (some a0)), none, none, none, some (gx_i x4), some (gx_i x5), some (gx_i x6), some (gx_i x7), none, none] [] := by
  intro n
  induction n with
  | zero =>
    intro a0 x4 x5 x6 x7 X h
    have h : none = some _ := h
    cases h
  | succ n ih =>
    intro a0 x4 x5 x6 x7 X h
    rw [gm_X6_needs_54] at h
    refine gx_iload C dX6_needs_54 rfl ?_
    refine gx_aload_n C dX6_needs_56 rfl rfl ?_
    obtain ⟨vz12, evz12, h⟩ := gx_bd h
    refine gx_get C kcX6 1 (by decide) wl_498 (gx_gi_s evz12) dX6_needs_57 ?_
    refine gx_icmp_ge (tgt := 173) C dX6_needs_60 (by decide) (fun qz13 => ?_) (fun qz13 => ?_)
    · rw [if_pos qz13] at h
      refine gx_iload C dX6_needs_173 rfl ?_
      obtain ⟨zz14, ezz14, h⟩ := gx_bd h
      cases h
      exact gx_zret (gx_bz_s ezz14).2 C dX6_needs_175
    · rw [if_neg qz13] at h
      refine gx_aload_n C dX6_needs_63 rfl rfl ?_
      obtain ⟨az15, eaz15, h⟩ := gx_bd h
      refine gx_get C kcX6 14 (by decide) wl_511 (gx_gd_s eaz15) dX6_needs_64 ?_
      refine gx_iload C dX6_needs_67 rfl ?_
      obtain ⟨vz16, evz16, h⟩ := gx_bd h
      refine gx_lald C (t := 1) rfl evz16 dX6_needs_69 ?_
      refine gx_iload C dX6_needs_70 rfl ?_
      refine gx_lshr C dX6_needs_72 ?_
      refine gx_lconst (v := 1) C dX6_needs_73 (by decide) ?_
      refine gx_land C dX6_needs_74 ?_
      refine gx_lconst (v := 1) C dX6_needs_75 (by decide) ?_
      refine gx_lcmp C dX6_needs_76 ?_
      refine gx_if_ne (tgt := 167) C dX6_needs_77 (by decide) (fun qz17 => ?_) (fun qz17 => ?_)
      · rw [if_neg qz17] at h
        exact gt_X6_needs_167 C fu (gm_X6_needs_54 fu  n) ih a0 x4 x5 x6 x7 X h
      · rw [if_pos qz17] at h
        refine gx_aload_n C dX6_needs_80 rfl rfl ?_
        obtain ⟨az18, eaz18, h⟩ := gx_bd h
        refine gx_get C kcX6 2 (by decide) wl_499 (gx_gd_s eaz18) dX6_needs_81 ?_
        refine gx_iload C dX6_needs_84 rfl ?_
        refine gx_iload C dX6_needs_86 rfl ?_
        refine gx_iload C dX6_needs_88 rfl ?_
        obtain ⟨vz20, Xz19, eXz19, h⟩ := gx_bd2 h
        refine gx_callS (As := [gx_i x5, gx_i x7, gx_i x7]) (st := [gx_r (some az18)]) (stk2 := [gx_i vz20, gx_r (some az18)]) C cd_X6_wayAt wl_579 wl_578 (gc_X6_wayAt fu x5 x7 x7 X vz20 Xz19 eXz19) rfl ⟨Nat.le_of_ble_eq_true rfl, Nat.le_of_ble_eq_true rfl⟩ ⟨Nat.le_of_ble_eq_true rfl, Nat.le_of_ble_eq_true rfl⟩ (Nat.le_of_ble_eq_true rfl) rfl rfl dX6_needs_90 ?_
        obtain ⟨vz21, evz21, h⟩ := gx_bd h
        refine gx_zald C (t := 2) rfl evz21 dX6_needs_93 ?_
        refine gx_istore (lv2 := [some (gx_r (some a0)), none, none, none, some (gx_i x4), some (gx_i x5), some (gx_i x6), some (gx_i x7), some (gx_i vz21), none]) C dX6_needs_94 (by decide) rfl ?_
        refine gx_iconst (v := -1) C dX6_needs_96 (by decide) ?_
        refine gx_istore (lv2 := [some (gx_r (some a0)), none, none, none, some (gx_i x4), some (gx_i x5), some (gx_i x6), some (gx_i x7), some (gx_i vz21), some (gx_i (-1 : Int32))]) C dX6_needs_97 (by decide) rfl ?_
        exact gt_X6_needs_99 C fu (gm_X6_needs_54 fu  n) ih fu a0 x4 x5 x6 x7 vz21 (-1 : Int32) Xz19 h
def gm_X6_needs (fu : Nat) (this : Nat) (p_0 : Int32) (p_1 : Int32) (p_2 : Int32) (X : gx_H) : Option (Int32 × gx_H) :=
  (gx_gd X this 6 7).bind fun az22 =>
  (gx_gai X az22 0 ((((1600 : Int32) * p_0) + ((200 : Int32) * p_1)) + p_2)).bind fun vz23 =>
  if vz23 = (4 : Int32) then (
  gx_ob X this 6 <|
  (gm_X6_find fu this p_0 X).bind fun Xz26 =>
  (gx_gd Xz26 this 6 8).bind fun az27 =>
  (gx_gai Xz26 az27 0 ((((1600 : Int32) * p_0) + ((200 : Int32) * p_1)) + p_2)).bind fun vz28 =>
  (gx_gd Xz26 this 6 3).bind fun az29 =>
  (gx_gai Xz26 az29 2 vz28).bind fun vz30 =>
  gm_X6_needs_54 fu  fu this ((((1600 : Int32) * p_0) + ((200 : Int32) * p_1)) + p_2) vz28 vz30 (0 : Int32) Xz26) else (
  some ((0 : Int32), X))
set_option maxHeartbeats 1000000 in
set_option maxRecDepth 20000 in
theorem gc_X6_needs {l : Launch} {D : gx_D} (fu : Nat) (this : Nat) (p_0 : Int32) (p_1 : Int32) (p_2 : Int32) (X : gx_H) (r : Int32) (X2 : gx_H) (h : gm_X6_needs fu this p_0 p_1 p_2 X = some (r, X2)) : gx_M D gz_cl gz_at gz_tb gz_nb l yX6_needs cX6_needs 10 (some .boolean) 4 106 [gx_r (some this), gx_i p_0, gx_i p_1, gx_i p_2] X (some (gx_i r)) X2 0 0 := by
  unfold gm_X6_needs at h
  refine gx_enter [some (gx_r (some this)), some (gx_i p_0), some (gx_i p_1), some (gx_i p_2), none, none, none, none, none, none] rfl (by decide) (Nat.le_of_ble_eq_true rfl) ?_
  intro p e s m below meth c C _
  refine gx_sipush (v := 1600) C dX6_needs_0 (by decide) ?_
  refine gx_iload_n C dX6_needs_3 rfl rfl ?_
  refine gx_imul C dX6_needs_4 ?_
  refine gx_sipush (v := 200) C dX6_needs_5 (by decide) ?_
  refine gx_iload_n C dX6_needs_8 rfl rfl ?_
  refine gx_imul C dX6_needs_9 ?_
  refine gx_iadd C dX6_needs_10 ?_
  refine gx_iload_n C dX6_needs_11 rfl rfl ?_
  refine gx_iadd C dX6_needs_12 ?_
  refine gx_istore (lv2 := [some (gx_r (some this)), some (gx_i p_0), some (gx_i p_1), some (gx_i p_2), some (gx_i ((((1600 : Int32) * p_0) + ((200 : Int32) * p_1)) + p_2)), none, none, none, none, none]) C dX6_needs_13 (by decide) rfl ?_
  refine gx_aload_n C dX6_needs_15 rfl rfl ?_
  obtain ⟨az22, eaz22, h⟩ := gx_bd h
  refine gx_get C kcX6 7 (by decide) wl_504 (gx_gd_s eaz22) dX6_needs_16 ?_
  refine gx_iload C dX6_needs_19 rfl ?_
  obtain ⟨vz23, evz23, h⟩ := gx_bd h
  refine gx_iald C (t := 0) rfl evz23 dX6_needs_21 ?_
  refine gx_iconst (v := 4) C dX6_needs_22 (by decide) ?_
  refine gx_icmp_eq (tgt := 28) C dX6_needs_23 (by decide) (fun qz24 => ?_) (fun qz24 => ?_)
  · rw [if_pos qz24] at h
    refine gx_aload_n C dX6_needs_28 rfl rfl ?_
    refine gx_iload_n C dX6_needs_29 rfl rfl ?_
    obtain ⟨hoz25, h⟩ := gx_obs h
    obtain ⟨Xz26, eXz26, h⟩ := gx_bd h
    refine gx_callV (As := [gx_i p_0]) (st := []) (stk2 := []) C cd_X6_find wl_627 ws_X6_find wl_625 rfl hoz25 (gc_X6_find fu this p_0 X Xz26 eXz26) rfl ⟨Nat.le_of_ble_eq_true rfl, Nat.le_of_ble_eq_true rfl⟩ ⟨Nat.le_of_ble_eq_true rfl, Nat.le_of_ble_eq_true rfl⟩ (Nat.le_of_ble_eq_true rfl) rfl rfl dX6_needs_30 ?_
    refine gx_aload_n C dX6_needs_33 rfl rfl ?_
    obtain ⟨az27, eaz27, h⟩ := gx_bd h
    refine gx_get C kcX6 8 (by decide) wl_505 (gx_gd_s eaz27) dX6_needs_34 ?_
    refine gx_iload C dX6_needs_37 rfl ?_
    obtain ⟨vz28, evz28, h⟩ := gx_bd h
    refine gx_iald C (t := 0) rfl evz28 dX6_needs_39 ?_
    refine gx_istore (lv2 := [some (gx_r (some this)), some (gx_i p_0), some (gx_i p_1), some (gx_i p_2), some (gx_i ((((1600 : Int32) * p_0) + ((200 : Int32) * p_1)) + p_2)), some (gx_i vz28), none, none, none, none]) C dX6_needs_40 (by decide) rfl ?_
    refine gx_aload_n C dX6_needs_42 rfl rfl ?_
    obtain ⟨az29, eaz29, h⟩ := gx_bd h
    refine gx_get C kcX6 3 (by decide) wl_500 (gx_gd_s eaz29) dX6_needs_43 ?_
    refine gx_iload C dX6_needs_46 rfl ?_
    obtain ⟨vz30, evz30, h⟩ := gx_bd h
    refine gx_zald C (t := 2) rfl evz30 dX6_needs_48 ?_
    refine gx_istore (lv2 := [some (gx_r (some this)), some (gx_i p_0), some (gx_i p_1), some (gx_i p_2), some (gx_i ((((1600 : Int32) * p_0) + ((200 : Int32) * p_1)) + p_2)), some (gx_i vz28), some (gx_i vz30), none, none, none]) C dX6_needs_49 (by decide) rfl ?_
    refine gx_iconst (v := 0) C dX6_needs_51 (by decide) ?_
    refine gx_istore (lv2 := [some (gx_r (some this)), some (gx_i p_0), some (gx_i p_1), some (gx_i p_2), some (gx_i ((((1600 : Int32) * p_0) + ((200 : Int32) * p_1)) + p_2)), some (gx_i vz28), some (gx_i vz30), some (gx_i (0 : Int32)), none, none]) C dX6_needs_52 (by decide) rfl ?_
    refine gx_sub (lv2 := [some (gx_r (some this)), none, none, none, some (gx_i ((((1600 : Int32) * p_0) + ((200 : Int32) * p_1)) + p_2)), some (gx_i vz28), some (gx_i vz30), some (gx_i (0 : Int32)), none, none]) [true, false, false, false, true, true, true, true, false, false] rfl ?_
    exact gt_X6_needs_54 C fu  fu this ((((1600 : Int32) * p_0) + ((200 : Int32) * p_1)) + p_2) vz28 vz30 (0 : Int32) Xz26 h
  · rw [if_neg qz24] at h
    refine gx_iconst (v := 0) C dX6_needs_26 (by decide) ?_
    cases h
    exact gx_zret (Or.inl rfl) C dX6_needs_27
theorem dX6_lacks_0 : decode cX6_lacks 0 = .ok (.aload_n 0, 1) := by decide +kernel
theorem dX6_lacks_1 : decode cX6_lacks 1 = .ok (.iload_n 1, 1) := by decide +kernel
theorem dX6_lacks_2 : decode cX6_lacks 2 = .ok (.iload_n 2, 1) := by decide +kernel
theorem dX6_lacks_3 : decode cX6_lacks 3 = .ok (.iload_n 3, 1) := by decide +kernel
theorem dX6_lacks_4 : decode cX6_lacks 4 = .ok (.invokevirtual 119, 3) := by decide +kernel
theorem dX6_lacks_7 : decode cX6_lacks 7 = .ok (.ifCond .eq 17, 3) := by decide +kernel
theorem dX6_lacks_10 : decode cX6_lacks 10 = .ok (.aload_n 0, 1) := by decide +kernel
theorem dX6_lacks_11 : decode cX6_lacks 11 = .ok (.iload_n 1, 1) := by decide +kernel
theorem dX6_lacks_12 : decode cX6_lacks 12 = .ok (.iload_n 2, 1) := by decide +kernel
theorem dX6_lacks_13 : decode cX6_lacks 13 = .ok (.iload_n 3, 1) := by decide +kernel
theorem dX6_lacks_14 : decode cX6_lacks 14 = .ok (.invokevirtual 100, 3) := by decide +kernel
theorem dX6_lacks_17 : decode cX6_lacks 17 = .ok (.ifCond .ne 7, 3) := by decide +kernel
theorem dX6_lacks_20 : decode cX6_lacks 20 = .ok (.iconst 1, 1) := by decide +kernel
theorem dX6_lacks_21 : decode cX6_lacks 21 = .ok (.goto 4, 3) := by decide +kernel
theorem dX6_lacks_24 : decode cX6_lacks 24 = .ok (.iconst 0, 1) := by decide +kernel
theorem dX6_lacks_25 : decode cX6_lacks 25 = .ok (.ireturn, 1) := by decide +kernel
def gm_X6_lacks_24 (fu : Nat)  (X : gx_H) : Option (Int32 × gx_H) :=
  some ((0 : Int32), X)
set_option maxHeartbeats 1000000 in
set_option maxRecDepth 20000 in
theorem gt_X6_lacks_24 {p : Program} {l : Launch} {e : Env} {s : State} {m : MethodId} {args : Array Value} {below : List Frame} {meth : Method} {c : Code} {D : gx_D} {r : Int32} {X2 : gx_H}  (C : gx_C D gz_cl gz_at gz_tb gz_nb p s m meth c cX6_lacks 4 RX6 (some .boolean)) (fu : Nat)  (X : gx_H) (h : gm_X6_lacks_24 fu   X = some (r, X2)) : gx_W D gz_cl 4 p l e (gx_rm 5 135 0 0) s m args below meth c 0 0 (MQ below (gx_Q D gz_cl (some (gx_i r)) X2) args s 0 0 (gx_Z D)) X 24 [none, none, none, none] [] := by
  unfold gm_X6_lacks_24 at h
  refine gx_iconst (v := 0) C dX6_lacks_24 (by decide) ?_
  cases h
  exact gx_zret (Or.inl rfl) C dX6_lacks_25
def gm_X6_lacks (fu : Nat) (this : Nat) (p_0 : Int32) (p_1 : Int32) (p_2 : Int32) (X : gx_H) : Option (Int32 × gx_H) :=
  gx_ob X this 6 <|
  gx_b2 (gm_X6_needs fu this p_0 p_1 p_2 X) fun vz3 Xz2 =>
  if vz3 = 0 then (
  gm_X6_lacks_24 fu   Xz2) else (
  gx_ob Xz2 this 6 <|
  gx_b2 (gm_X6_isGuarded fu this p_0 p_1 p_2 Xz2) fun vz7 Xz6 =>
  if vz7 = 0 then (
  some ((1 : Int32), Xz6)) else (
  gm_X6_lacks_24 fu   Xz6))
set_option maxHeartbeats 1000000 in
set_option maxRecDepth 20000 in
theorem gc_X6_lacks {l : Launch} {D : gx_D} (fu : Nat) (this : Nat) (p_0 : Int32) (p_1 : Int32) (p_2 : Int32) (X : gx_H) (r : Int32) (X2 : gx_H) (h : gm_X6_lacks fu this p_0 p_1 p_2 X = some (r, X2)) : gx_M D gz_cl gz_at gz_tb gz_nb l yX6_lacks cX6_lacks 4 (some .boolean) 5 135 [gx_r (some this), gx_i p_0, gx_i p_1, gx_i p_2] X (some (gx_i r)) X2 0 0 := by
  unfold gm_X6_lacks at h
  refine gx_enter [some (gx_r (some this)), some (gx_i p_0), some (gx_i p_1), some (gx_i p_2)] rfl (by decide) (Nat.le_of_ble_eq_true rfl) ?_
  intro p e s m below meth c C _
  refine gx_aload_n C dX6_lacks_0 rfl rfl ?_
  refine gx_iload_n C dX6_lacks_1 rfl rfl ?_
  refine gx_iload_n C dX6_lacks_2 rfl rfl ?_
  refine gx_iload_n C dX6_lacks_3 rfl rfl ?_
  obtain ⟨hoz1, h⟩ := gx_obs h
  obtain ⟨vz3, Xz2, eXz2, h⟩ := gx_bd2 h
  refine gx_callV (As := [gx_i p_0, gx_i p_1, gx_i p_2]) (st := []) (stk2 := [gx_i vz3]) C cd_X6_needs wl_623 ws_X6_needs wl_621 rfl hoz1 (gc_X6_needs fu this p_0 p_1 p_2 X vz3 Xz2 eXz2) rfl ⟨Nat.le_of_ble_eq_true rfl, Nat.le_of_ble_eq_true rfl⟩ ⟨Nat.le_of_ble_eq_true rfl, Nat.le_of_ble_eq_true rfl⟩ (Nat.le_of_ble_eq_true rfl) rfl rfl dX6_lacks_4 ?_
  refine gx_if_eq (tgt := 24) C dX6_lacks_7 (by decide) (fun qz4 => ?_) (fun qz4 => ?_)
  · rw [if_pos qz4] at h
    refine gx_sub (lv2 := [none, none, none, none]) [false, false, false, false] rfl ?_
    exact gt_X6_lacks_24 C fu   Xz2 h
  · rw [if_neg qz4] at h
    refine gx_aload_n C dX6_lacks_10 rfl rfl ?_
    refine gx_iload_n C dX6_lacks_11 rfl rfl ?_
    refine gx_iload_n C dX6_lacks_12 rfl rfl ?_
    refine gx_iload_n C dX6_lacks_13 rfl rfl ?_
    obtain ⟨hoz5, h⟩ := gx_obs h
    obtain ⟨vz7, Xz6, eXz6, h⟩ := gx_bd2 h
    refine gx_callV (As := [gx_i p_0, gx_i p_1, gx_i p_2]) (st := []) (stk2 := [gx_i vz7]) C cd_X6_isGuarded wl_639 ws_X6_isGuarded wl_637 rfl hoz5 (gc_X6_isGuarded fu this p_0 p_1 p_2 Xz2 vz7 Xz6 eXz6) rfl ⟨Nat.le_of_ble_eq_true rfl, Nat.le_of_ble_eq_true rfl⟩ ⟨Nat.le_of_ble_eq_true rfl, Nat.le_of_ble_eq_true rfl⟩ (Nat.le_of_ble_eq_true rfl) rfl rfl dX6_lacks_14 ?_
    refine gx_if_ne (tgt := 24) C dX6_lacks_17 (by decide) (fun qz8 => ?_) (fun qz8 => ?_)
    · rw [if_neg qz8] at h
      refine gx_sub (lv2 := [none, none, none, none]) [false, false, false, false] rfl ?_
      exact gt_X6_lacks_24 C fu   Xz6 h
    · rw [if_pos qz8] at h
      refine gx_iconst (v := 1) C dX6_lacks_20 (by decide) ?_
      refine gx_goto (tgt := 25) C dX6_lacks_21 (by decide) ?_
      cases h
      exact gx_zret (Or.inr rfl) C dX6_lacks_25
