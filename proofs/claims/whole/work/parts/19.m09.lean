/-! methods: X6_certify, X6_isThere, X6_code, X6_comeTo, X6_countOf, X6_lacking -/
theorem dX6_certify_0 : decode cX6_certify 0 = .ok (.aload_n 0, 1) := by decide +kernel
theorem dX6_certify_1 : decode cX6_certify 1 = .ok (.iconst 0, 1) := by decide +kernel
theorem dX6_certify_2 : decode cX6_certify 2 = .ok (.putfield 65, 3) := by decide +kernel
theorem dX6_certify_5 : decode cX6_certify 5 = .ok (.iload_n 1, 1) := by decide +kernel
theorem dX6_certify_6 : decode cX6_certify 6 = .ok (.ifCond .eq 12, 3) := by decide +kernel
theorem dX6_certify_9 : decode cX6_certify 9 = .ok (.aload_n 0, 1) := by decide +kernel
theorem dX6_certify_10 : decode cX6_certify 10 = .ok (.getfield 68, 3) := by decide +kernel
theorem dX6_certify_13 : decode cX6_certify 13 = .ok (.ifCond .ne 5, 3) := by decide +kernel
theorem dX6_certify_16 : decode cX6_certify 16 = .ok (.iconst (-1), 1) := by decide +kernel
theorem dX6_certify_17 : decode cX6_certify 17 = .ok (.ireturn, 1) := by decide +kernel
theorem dX6_certify_18 : decode cX6_certify 18 = .ok (.iload_n 1, 1) := by decide +kernel
theorem dX6_certify_19 : decode cX6_certify 19 = .ok (.ifCond .eq 7, 3) := by decide +kernel
theorem dX6_certify_22 : decode cX6_certify 22 = .ok (.iconst 1, 1) := by decide +kernel
theorem dX6_certify_23 : decode cX6_certify 23 = .ok (.goto 4, 3) := by decide +kernel
theorem dX6_certify_26 : decode cX6_certify 26 = .ok (.iconst 0, 1) := by decide +kernel
theorem dX6_certify_27 : decode cX6_certify 27 = .ok (.istore_n 2, 1) := by decide +kernel
theorem dX6_certify_28 : decode cX6_certify 28 = .ok (.iconst 0, 1) := by decide +kernel
theorem dX6_certify_29 : decode cX6_certify 29 = .ok (.istore_n 3, 1) := by decide +kernel
theorem dX6_certify_30 : decode cX6_certify 30 = .ok (.iload_n 3, 1) := by decide +kernel
theorem dX6_certify_31 : decode cX6_certify 31 = .ok (.aload_n 0, 1) := by decide +kernel
theorem dX6_certify_32 : decode cX6_certify 32 = .ok (.getfield 21, 3) := by decide +kernel
theorem dX6_certify_35 : decode cX6_certify 35 = .ok (.iload_n 2, 1) := by decide +kernel
theorem dX6_certify_36 : decode cX6_certify 36 = .ok (.iaload, 1) := by decide +kernel
theorem dX6_certify_37 : decode cX6_certify 37 = .ok (.if_icmp .ge 176, 3) := by decide +kernel
theorem dX6_certify_40 : decode cX6_certify 40 = .ok (.iconst 0, 1) := by decide +kernel
theorem dX6_certify_41 : decode cX6_certify 41 = .ok (.istore 4, 2) := by decide +kernel
theorem dX6_certify_43 : decode cX6_certify 43 = .ok (.iload 4, 2) := by decide +kernel
theorem dX6_certify_45 : decode cX6_certify 45 = .ok (.aload_n 0, 1) := by decide +kernel
theorem dX6_certify_46 : decode cX6_certify 46 = .ok (.getfield 25, 3) := by decide +kernel
theorem dX6_certify_49 : decode cX6_certify 49 = .ok (.bipush 8, 2) := by decide +kernel
theorem dX6_certify_51 : decode cX6_certify 51 = .ok (.iload_n 2, 1) := by decide +kernel
theorem dX6_certify_52 : decode cX6_certify 52 = .ok (.imul, 1) := by decide +kernel
theorem dX6_certify_53 : decode cX6_certify 53 = .ok (.iload_n 3, 1) := by decide +kernel
theorem dX6_certify_54 : decode cX6_certify 54 = .ok (.iadd, 1) := by decide +kernel
theorem dX6_certify_55 : decode cX6_certify 55 = .ok (.iaload, 1) := by decide +kernel
theorem dX6_certify_56 : decode cX6_certify 56 = .ok (.if_icmp .ge 151, 3) := by decide +kernel
theorem dX6_certify_59 : decode cX6_certify 59 = .ok (.sipush 1600, 3) := by decide +kernel
theorem dX6_certify_62 : decode cX6_certify 62 = .ok (.iload_n 2, 1) := by decide +kernel
theorem dX6_certify_63 : decode cX6_certify 63 = .ok (.imul, 1) := by decide +kernel
theorem dX6_certify_64 : decode cX6_certify 64 = .ok (.sipush 200, 3) := by decide +kernel
theorem dX6_certify_67 : decode cX6_certify 67 = .ok (.iload_n 3, 1) := by decide +kernel
theorem dX6_certify_68 : decode cX6_certify 68 = .ok (.imul, 1) := by decide +kernel
theorem dX6_certify_69 : decode cX6_certify 69 = .ok (.iadd, 1) := by decide +kernel
theorem dX6_certify_70 : decode cX6_certify 70 = .ok (.iload 4, 2) := by decide +kernel
theorem dX6_certify_72 : decode cX6_certify 72 = .ok (.iadd, 1) := by decide +kernel
theorem dX6_certify_73 : decode cX6_certify 73 = .ok (.istore 5, 2) := by decide +kernel
theorem dX6_certify_75 : decode cX6_certify 75 = .ok (.iload 4, 2) := by decide +kernel
theorem dX6_certify_77 : decode cX6_certify 77 = .ok (.iconst 1, 1) := by decide +kernel
theorem dX6_certify_78 : decode cX6_certify 78 = .ok (.iadd, 1) := by decide +kernel
theorem dX6_certify_79 : decode cX6_certify 79 = .ok (.aload_n 0, 1) := by decide +kernel
theorem dX6_certify_80 : decode cX6_certify 80 = .ok (.getfield 25, 3) := by decide +kernel
theorem dX6_certify_83 : decode cX6_certify 83 = .ok (.bipush 8, 2) := by decide +kernel
theorem dX6_certify_85 : decode cX6_certify 85 = .ok (.iload_n 2, 1) := by decide +kernel
theorem dX6_certify_86 : decode cX6_certify 86 = .ok (.imul, 1) := by decide +kernel
theorem dX6_certify_87 : decode cX6_certify 87 = .ok (.iload_n 3, 1) := by decide +kernel
theorem dX6_certify_88 : decode cX6_certify 88 = .ok (.iadd, 1) := by decide +kernel
theorem dX6_certify_89 : decode cX6_certify 89 = .ok (.iaload, 1) := by decide +kernel
theorem dX6_certify_90 : decode cX6_certify 90 = .ok (.if_icmp .ne 7, 3) := by decide +kernel
theorem dX6_certify_93 : decode cX6_certify 93 = .ok (.iconst 1, 1) := by decide +kernel
theorem dX6_certify_94 : decode cX6_certify 94 = .ok (.goto 4, 3) := by decide +kernel
theorem dX6_certify_97 : decode cX6_certify 97 = .ok (.iconst 0, 1) := by decide +kernel
theorem dX6_certify_98 : decode cX6_certify 98 = .ok (.istore 6, 2) := by decide +kernel
theorem dX6_certify_100 : decode cX6_certify 100 = .ok (.aload_n 0, 1) := by decide +kernel
theorem dX6_certify_101 : decode cX6_certify 101 = .ok (.getfield 31, 3) := by decide +kernel
theorem dX6_certify_104 : decode cX6_certify 104 = .ok (.iload 5, 2) := by decide +kernel
theorem dX6_certify_106 : decode cX6_certify 106 = .ok (.iaload, 1) := by decide +kernel
theorem dX6_certify_107 : decode cX6_certify 107 = .ok (.iconst 5, 1) := by decide +kernel
theorem dX6_certify_108 : decode cX6_certify 108 = .ok (.if_icmp .ne 63, 3) := by decide +kernel
theorem dX6_certify_111 : decode cX6_certify 111 = .ok (.iload 6, 2) := by decide +kernel
theorem dX6_certify_113 : decode cX6_certify 113 = .ok (.ifCond .ne 54, 3) := by decide +kernel
theorem dX6_certify_116 : decode cX6_certify 116 = .ok (.aload_n 0, 1) := by decide +kernel
theorem dX6_certify_117 : decode cX6_certify 117 = .ok (.getfield 34, 3) := by decide +kernel
theorem dX6_certify_120 : decode cX6_certify 120 = .ok (.iload 5, 2) := by decide +kernel
theorem dX6_certify_122 : decode cX6_certify 122 = .ok (.iload 6, 2) := by decide +kernel
theorem dX6_certify_124 : decode cX6_certify 124 = .ok (.ifCond .eq 7, 3) := by decide +kernel
theorem dX6_certify_127 : decode cX6_certify 127 = .ok (.iconst 0, 1) := by decide +kernel
theorem dX6_certify_128 : decode cX6_certify 128 = .ok (.goto 4, 3) := by decide +kernel
theorem dX6_certify_131 : decode cX6_certify 131 = .ok (.iconst 1, 1) := by decide +kernel
theorem dX6_certify_132 : decode cX6_certify 132 = .ok (.iadd, 1) := by decide +kernel
theorem dX6_certify_133 : decode cX6_certify 133 = .ok (.iaload, 1) := by decide +kernel
theorem dX6_certify_134 : decode cX6_certify 134 = .ok (.aload_n 0, 1) := by decide +kernel
theorem dX6_certify_135 : decode cX6_certify 135 = .ok (.getfield 34, 3) := by decide +kernel
theorem dX6_certify_138 : decode cX6_certify 138 = .ok (.iload 5, 2) := by decide +kernel
theorem dX6_certify_140 : decode cX6_certify 140 = .ok (.iaload, 1) := by decide +kernel
theorem dX6_certify_141 : decode cX6_certify 141 = .ok (.if_icmp .ne 26, 3) := by decide +kernel
theorem dX6_certify_144 : decode cX6_certify 144 = .ok (.aload_n 0, 1) := by decide +kernel
theorem dX6_certify_145 : decode cX6_certify 145 = .ok (.iload_n 2, 1) := by decide +kernel
theorem dX6_certify_146 : decode cX6_certify 146 = .ok (.iload_n 3, 1) := by decide +kernel
theorem dX6_certify_147 : decode cX6_certify 147 = .ok (.iload 6, 2) := by decide +kernel
theorem dX6_certify_149 : decode cX6_certify 149 = .ok (.ifCond .eq 8, 3) := by decide +kernel
theorem dX6_certify_152 : decode cX6_certify 152 = .ok (.iload 4, 2) := by decide +kernel
theorem dX6_certify_154 : decode cX6_certify 154 = .ok (.goto 7, 3) := by decide +kernel
theorem dX6_certify_157 : decode cX6_certify 157 = .ok (.iload 4, 2) := by decide +kernel
theorem dX6_certify_159 : decode cX6_certify 159 = .ok (.iconst 1, 1) := by decide +kernel
theorem dX6_certify_160 : decode cX6_certify 160 = .ok (.iadd, 1) := by decide +kernel
theorem dX6_certify_161 : decode cX6_certify 161 = .ok (.invokevirtual 100, 3) := by decide +kernel
theorem dX6_certify_164 : decode cX6_certify 164 = .ok (.ifCond .ne 7, 3) := by decide +kernel
theorem dX6_certify_167 : decode cX6_certify 167 = .ok (.iconst 1, 1) := by decide +kernel
theorem dX6_certify_168 : decode cX6_certify 168 = .ok (.goto 4, 3) := by decide +kernel
theorem dX6_certify_171 : decode cX6_certify 171 = .ok (.iconst 0, 1) := by decide +kernel
theorem dX6_certify_172 : decode cX6_certify 172 = .ok (.istore 7, 2) := by decide +kernel
theorem dX6_certify_174 : decode cX6_certify 174 = .ok (.iload 7, 2) := by decide +kernel
theorem dX6_certify_176 : decode cX6_certify 176 = .ok (.ifCond .ne 14, 3) := by decide +kernel
theorem dX6_certify_179 : decode cX6_certify 179 = .ok (.aload_n 0, 1) := by decide +kernel
theorem dX6_certify_180 : decode cX6_certify 180 = .ok (.iload_n 2, 1) := by decide +kernel
theorem dX6_certify_181 : decode cX6_certify 181 = .ok (.iload_n 3, 1) := by decide +kernel
theorem dX6_certify_182 : decode cX6_certify 182 = .ok (.iload 4, 2) := by decide +kernel
theorem dX6_certify_184 : decode cX6_certify 184 = .ok (.invokevirtual 122, 3) := by decide +kernel
theorem dX6_certify_187 : decode cX6_certify 187 = .ok (.ifCond .eq 14, 3) := by decide +kernel
theorem dX6_certify_190 : decode cX6_certify 190 = .ok (.iconst 1, 1) := by decide +kernel
theorem dX6_certify_191 : decode cX6_certify 191 = .ok (.sipush 256, 3) := by decide +kernel
theorem dX6_certify_194 : decode cX6_certify 194 = .ok (.iload_n 3, 1) := by decide +kernel
theorem dX6_certify_195 : decode cX6_certify 195 = .ok (.imul, 1) := by decide +kernel
theorem dX6_certify_196 : decode cX6_certify 196 = .ok (.iadd, 1) := by decide +kernel
theorem dX6_certify_197 : decode cX6_certify 197 = .ok (.iload 4, 2) := by decide +kernel
theorem dX6_certify_199 : decode cX6_certify 199 = .ok (.iadd, 1) := by decide +kernel
theorem dX6_certify_200 : decode cX6_certify 200 = .ok (.ireturn, 1) := by decide +kernel
theorem dX6_certify_201 : decode cX6_certify 201 = .ok (.iinc 4 1, 3) := by decide +kernel
theorem dX6_certify_204 : decode cX6_certify 204 = .ok (.goto (-161), 3) := by decide +kernel
theorem dX6_certify_207 : decode cX6_certify 207 = .ok (.iinc 3 1, 3) := by decide +kernel
theorem dX6_certify_210 : decode cX6_certify 210 = .ok (.goto (-180), 3) := by decide +kernel
theorem dX6_certify_213 : decode cX6_certify 213 = .ok (.iconst 0, 1) := by decide +kernel
theorem dX6_certify_214 : decode cX6_certify 214 = .ok (.ireturn, 1) := by decide +kernel
def gm_X6_certify_190 (fu : Nat) (x3 : Int32) (x4 : Int32) (X : gx_H) : Option (Int32 × gx_H) :=
  some ((((1 : Int32) + ((256 : Int32) * x3)) + x4), X)
set_option maxHeartbeats 1000000 in
set_option maxRecDepth 20000 in
theorem gt_X6_certify_190 {p : Program} {l : Launch} {e : Env} {s : State} {m : MethodId} {args : Array Value} {below : List Frame} {meth : Method} {c : Code} {D : gx_D} {r : Int32} {X2 : gx_H}  (C : gx_C D gz_cl gz_at gz_tb gz_nb p s m meth c cX6_certify 8 RX6 (some .int)) (fu : Nat) (x3 : Int32) (x4 : Int32) (X : gx_H) (h : gm_X6_certify_190 fu  x3 x4 X = some (r, X2)) : gx_W D gz_cl 8 p l e (gx_rm 6 158 0 0) s m args below meth c 0 0 (MQ below (gx_Q D gz_cl (some (gx_i r)) X2) args s 0 0 (gx_Z D)) X 190 [none, none, none, some (gx_i x3), some (gx_i x4), none, none, none] [] := by
  unfold gm_X6_certify_190 at h
  refine gx_iconst (v := 1) C dX6_certify_190 (by decide) ?_
  refine gx_sipush (v := 256) C dX6_certify_191 (by decide) ?_
  refine gx_iload_n C dX6_certify_194 rfl rfl ?_
  refine gx_imul C dX6_certify_195 ?_
  refine gx_iadd C dX6_certify_196 ?_
  refine gx_iload C dX6_certify_197 rfl ?_
  refine gx_iadd C dX6_certify_199 ?_
  cases h
  exact gx_iret C dX6_certify_200
def gm_X6_certify_172 (fu : Nat) (K30 : Nat → Int32 → Int32 → gx_H → Option (Int32 × gx_H)) (K43 : Nat → Int32 → Int32 → Int32 → gx_H → Option (Int32 × gx_H)) (a0 : Nat) (x2 : Int32) (x3 : Int32) (x4 : Int32) (sx0 : Int32) (X : gx_H) : Option (Int32 × gx_H) :=
  if sx0 = 0 then (
  gx_ob X a0 6 <|
  gx_b2 (gm_X6_lacks fu a0 x2 x3 x4 X) fun vz4 Xz3 =>
  if vz4 = 0 then (
  K43 a0 x2 x3 (x4 + 1) Xz3) else (
  gm_X6_certify_190 fu  x3 x4 Xz3)) else (
  gm_X6_certify_190 fu  x3 x4 X)
set_option maxHeartbeats 1000000 in
set_option maxRecDepth 20000 in
theorem gt_X6_certify_172 {p : Program} {l : Launch} {e : Env} {s : State} {m : MethodId} {args : Array Value} {below : List Frame} {meth : Method} {c : Code} {D : gx_D} {r : Int32} {X2 : gx_H}  (C : gx_C D gz_cl gz_at gz_tb gz_nb p s m meth c cX6_certify 8 RX6 (some .int)) (fu : Nat) (K30 : Nat → Int32 → Int32 → gx_H → Option (Int32 × gx_H)) (hK30 : ∀ (a0 : Nat) (x2 : Int32) (x3 : Int32) (X : gx_H), K30 a0 x2 x3 X = some (r, X2) → gx_W D gz_cl 8 p l e (gx_rm 6 158 0 0) s m args below meth c 0 0 (MQ below (gx_Q D gz_cl (some (gx_i r)) X2) args s 0 0 (gx_Z D)) X 30 [some (gx_r (some a0)), none, some (gx_i x2), some (gx_i x3), none, none, none, none] []) (K43 : Nat → Int32 → Int32 → Int32 → gx_H → Option (Int32 × gx_H)) (hK43 : ∀ (a0 : Nat) (x2 : Int32) (x3 : Int32) (x4 : Int32) (X : gx_H), K43 a0 x2 x3 x4 X = some (r, X2) → gx_W D gz_cl 8 p l e (gx_rm 6 158 0 0) s m args below meth c 0 0 (MQ below (gx_Q D gz_cl (some (gx_i r)) X2) args s 0 0 (gx_Z D)) X 43 [some (gx_r (some a0)), none, some (gx_i x2), some (gx_i x3), some (gx_i x4), none, none, none] []) (a0 : Nat) (x2 : Int32) (x3 : Int32) (x4 : Int32) (sx0 : Int32) (X : gx_H) (h : gm_X6_certify_172 fu K30 K43 a0 x2 x3 x4 sx0 X = some (r, X2)) : gx_W D gz_cl 8 p l e (gx_rm 6 158 0 0) s m args below meth c 0 0 (MQ below (gx_Q D gz_cl (some (gx_i r)) X2) args s 0 0 (gx_Z D)) X 172 [some (gx_r (some a0)), none, some (gx_i x2), some (gx_i x3), some (gx_i x4), none, none, none] [gx_i sx0] := by
  unfold gm_X6_certify_172 at h
  refine gx_istore (lv2 := [some (gx_r (some a0)), none, some (gx_i x2), some (gx_i x3), some (gx_i x4), none, none, some (gx_i sx0)]) C dX6_certify_172 (by decide) rfl ?_
  refine gx_iload C dX6_certify_174 rfl ?_
  refine gx_if_ne (tgt := 190) C dX6_certify_176 (by decide) (fun qz1 => ?_) (fun qz1 => ?_)
  · rw [if_neg qz1] at h
    refine gx_sub (lv2 := [none, none, none, some (gx_i x3), some (gx_i x4), none, none, none]) [false, false, false, true, true, false, false, false] rfl ?_
    exact gt_X6_certify_190 C fu  x3 x4 X h
  · rw [if_pos qz1] at h
    refine gx_aload_n C dX6_certify_179 rfl rfl ?_
    refine gx_iload_n C dX6_certify_180 rfl rfl ?_
    refine gx_iload_n C dX6_certify_181 rfl rfl ?_
    refine gx_iload C dX6_certify_182 rfl ?_
    obtain ⟨hoz2, h⟩ := gx_obs h
    obtain ⟨vz4, Xz3, eXz3, h⟩ := gx_bd2 h
    refine gx_callV (As := [gx_i x2, gx_i x3, gx_i x4]) (st := []) (stk2 := [gx_i vz4]) C cd_X6_lacks wl_619 ws_X6_lacks wl_617 rfl hoz2 (gc_X6_lacks fu a0 x2 x3 x4 X vz4 Xz3 eXz3) rfl ⟨Nat.le_of_ble_eq_true rfl, Nat.le_of_ble_eq_true rfl⟩ ⟨Nat.le_of_ble_eq_true rfl, Nat.le_of_ble_eq_true rfl⟩ (Nat.le_of_ble_eq_true rfl) rfl rfl dX6_certify_184 ?_
    refine gx_if_eq (tgt := 201) C dX6_certify_187 (by decide) (fun qz5 => ?_) (fun qz5 => ?_)
    · rw [if_pos qz5] at h
      refine gx_iinc (v := (x4 + 1)) (lv2 := [some (gx_r (some a0)), none, some (gx_i x2), some (gx_i x3), some (gx_i (x4 + 1)), none, none, some (gx_i sx0)]) C dX6_certify_201 rfl rfl (by decide) rfl ?_
      refine gx_goto (tgt := 43) C dX6_certify_204 (by decide) ?_
      refine gx_sub (lv2 := [some (gx_r (some a0)), none, some (gx_i x2), some (gx_i x3), some (gx_i (x4 + 1)), none, none, none]) [true, false, true, true, true, false, false, false] rfl ?_
      exact hK43 a0 x2 x3 (x4 + 1) Xz3 h
    · rw [if_neg qz5] at h
      refine gx_sub (lv2 := [none, none, none, some (gx_i x3), some (gx_i x4), none, none, none]) [false, false, false, true, true, false, false, false] rfl ?_
      exact gt_X6_certify_190 C fu  x3 x4 Xz3 h
def gm_X6_certify_167 (fu : Nat) (K30 : Nat → Int32 → Int32 → gx_H → Option (Int32 × gx_H)) (K43 : Nat → Int32 → Int32 → Int32 → gx_H → Option (Int32 × gx_H)) (a0 : Nat) (x2 : Int32) (x3 : Int32) (x4 : Int32) (X : gx_H) : Option (Int32 × gx_H) :=
  gm_X6_certify_172 fu K30 K43 a0 x2 x3 x4 (1 : Int32) X
set_option maxHeartbeats 1000000 in
set_option maxRecDepth 20000 in
theorem gt_X6_certify_167 {p : Program} {l : Launch} {e : Env} {s : State} {m : MethodId} {args : Array Value} {below : List Frame} {meth : Method} {c : Code} {D : gx_D} {r : Int32} {X2 : gx_H}  (C : gx_C D gz_cl gz_at gz_tb gz_nb p s m meth c cX6_certify 8 RX6 (some .int)) (fu : Nat) (K30 : Nat → Int32 → Int32 → gx_H → Option (Int32 × gx_H)) (hK30 : ∀ (a0 : Nat) (x2 : Int32) (x3 : Int32) (X : gx_H), K30 a0 x2 x3 X = some (r, X2) → gx_W D gz_cl 8 p l e (gx_rm 6 158 0 0) s m args below meth c 0 0 (MQ below (gx_Q D gz_cl (some (gx_i r)) X2) args s 0 0 (gx_Z D)) X 30 [some (gx_r (some a0)), none, some (gx_i x2), some (gx_i x3), none, none, none, none] []) (K43 : Nat → Int32 → Int32 → Int32 → gx_H → Option (Int32 × gx_H)) (hK43 : ∀ (a0 : Nat) (x2 : Int32) (x3 : Int32) (x4 : Int32) (X : gx_H), K43 a0 x2 x3 x4 X = some (r, X2) → gx_W D gz_cl 8 p l e (gx_rm 6 158 0 0) s m args below meth c 0 0 (MQ below (gx_Q D gz_cl (some (gx_i r)) X2) args s 0 0 (gx_Z D)) X 43 [some (gx_r (some a0)), none, some (gx_i x2), some (gx_i x3), some (gx_i x4), none, none, none] []) (a0 : Nat) (x2 : Int32) (x3 : Int32) (x4 : Int32) (X : gx_H) (h : gm_X6_certify_167 fu K30 K43 a0 x2 x3 x4 X = some (r, X2)) : gx_W D gz_cl 8 p l e (gx_rm 6 158 0 0) s m args below meth c 0 0 (MQ below (gx_Q D gz_cl (some (gx_i r)) X2) args s 0 0 (gx_Z D)) X 167 [some (gx_r (some a0)), none, some (gx_i x2), some (gx_i x3), some (gx_i x4), none, none, none] [] := by
  unfold gm_X6_certify_167 at h
  refine gx_iconst (v := 1) C dX6_certify_167 (by decide) ?_
  refine gx_goto (tgt := 172) C dX6_certify_168 (by decide) ?_
  exact gt_X6_certify_172 C fu K30 hK30 K43 hK43 a0 x2 x3 x4 (1 : Int32) X h
def gm_X6_certify_171 (fu : Nat) (K30 : Nat → Int32 → Int32 → gx_H → Option (Int32 × gx_H)) (K43 : Nat → Int32 → Int32 → Int32 → gx_H → Option (Int32 × gx_H)) (a0 : Nat) (x2 : Int32) (x3 : Int32) (x4 : Int32) (X : gx_H) : Option (Int32 × gx_H) :=
  gm_X6_certify_172 fu K30 K43 a0 x2 x3 x4 (0 : Int32) X
set_option maxHeartbeats 1000000 in
set_option maxRecDepth 20000 in
theorem gt_X6_certify_171 {p : Program} {l : Launch} {e : Env} {s : State} {m : MethodId} {args : Array Value} {below : List Frame} {meth : Method} {c : Code} {D : gx_D} {r : Int32} {X2 : gx_H}  (C : gx_C D gz_cl gz_at gz_tb gz_nb p s m meth c cX6_certify 8 RX6 (some .int)) (fu : Nat) (K30 : Nat → Int32 → Int32 → gx_H → Option (Int32 × gx_H)) (hK30 : ∀ (a0 : Nat) (x2 : Int32) (x3 : Int32) (X : gx_H), K30 a0 x2 x3 X = some (r, X2) → gx_W D gz_cl 8 p l e (gx_rm 6 158 0 0) s m args below meth c 0 0 (MQ below (gx_Q D gz_cl (some (gx_i r)) X2) args s 0 0 (gx_Z D)) X 30 [some (gx_r (some a0)), none, some (gx_i x2), some (gx_i x3), none, none, none, none] []) (K43 : Nat → Int32 → Int32 → Int32 → gx_H → Option (Int32 × gx_H)) (hK43 : ∀ (a0 : Nat) (x2 : Int32) (x3 : Int32) (x4 : Int32) (X : gx_H), K43 a0 x2 x3 x4 X = some (r, X2) → gx_W D gz_cl 8 p l e (gx_rm 6 158 0 0) s m args below meth c 0 0 (MQ below (gx_Q D gz_cl (some (gx_i r)) X2) args s 0 0 (gx_Z D)) X 43 [some (gx_r (some a0)), none, some (gx_i x2), some (gx_i x3), some (gx_i x4), none, none, none] []) (a0 : Nat) (x2 : Int32) (x3 : Int32) (x4 : Int32) (X : gx_H) (h : gm_X6_certify_171 fu K30 K43 a0 x2 x3 x4 X = some (r, X2)) : gx_W D gz_cl 8 p l e (gx_rm 6 158 0 0) s m args below meth c 0 0 (MQ below (gx_Q D gz_cl (some (gx_i r)) X2) args s 0 0 (gx_Z D)) X 171 [some (gx_r (some a0)), none, some (gx_i x2), some (gx_i x3), some (gx_i x4), none, none, none] [] := by
  unfold gm_X6_certify_171 at h
  refine gx_iconst (v := 0) C dX6_certify_171 (by decide) ?_
  exact gt_X6_certify_172 C fu K30 hK30 K43 hK43 a0 x2 x3 x4 (0 : Int32) X h
def gm_X6_certify_161 (fu : Nat) (K30 : Nat → Int32 → Int32 → gx_H → Option (Int32 × gx_H)) (K43 : Nat → Int32 → Int32 → Int32 → gx_H → Option (Int32 × gx_H)) (a0 : Nat) (x2 : Int32) (x3 : Int32) (x4 : Int32) (sa0 : Nat) (sx1 : Int32) (sx2 : Int32) (sx3 : Int32) (X : gx_H) : Option (Int32 × gx_H) :=
  gx_ob X sa0 6 <|
  gx_b2 (gm_X6_isGuarded fu sa0 sx1 sx2 sx3 X) fun vz8 Xz7 =>
  if vz8 = 0 then (
  gm_X6_certify_167 fu K30 K43 a0 x2 x3 x4 Xz7) else (
  gm_X6_certify_171 fu K30 K43 a0 x2 x3 x4 Xz7)
set_option maxHeartbeats 1000000 in
set_option maxRecDepth 20000 in
theorem gt_X6_certify_161 {p : Program} {l : Launch} {e : Env} {s : State} {m : MethodId} {args : Array Value} {below : List Frame} {meth : Method} {c : Code} {D : gx_D} {r : Int32} {X2 : gx_H}  (C : gx_C D gz_cl gz_at gz_tb gz_nb p s m meth c cX6_certify 8 RX6 (some .int)) (fu : Nat) (K30 : Nat → Int32 → Int32 → gx_H → Option (Int32 × gx_H)) (hK30 : ∀ (a0 : Nat) (x2 : Int32) (x3 : Int32) (X : gx_H), K30 a0 x2 x3 X = some (r, X2) → gx_W D gz_cl 8 p l e (gx_rm 6 158 0 0) s m args below meth c 0 0 (MQ below (gx_Q D gz_cl (some (gx_i r)) X2) args s 0 0 (gx_Z D)) X 30 [some (gx_r (some a0)), none, some (gx_i x2), some (gx_i x3), none, none, none, none] []) (K43 : Nat → Int32 → Int32 → Int32 → gx_H → Option (Int32 × gx_H)) (hK43 : ∀ (a0 : Nat) (x2 : Int32) (x3 : Int32) (x4 : Int32) (X : gx_H), K43 a0 x2 x3 x4 X = some (r, X2) → gx_W D gz_cl 8 p l e (gx_rm 6 158 0 0) s m args below meth c 0 0 (MQ below (gx_Q D gz_cl (some (gx_i r)) X2) args s 0 0 (gx_Z D)) X 43 [some (gx_r (some a0)), none, some (gx_i x2), some (gx_i x3), some (gx_i x4), none, none, none] []) (a0 : Nat) (x2 : Int32) (x3 : Int32) (x4 : Int32) (sa0 : Nat) (sx1 : Int32) (sx2 : Int32) (sx3 : Int32) (X : gx_H) (h : gm_X6_certify_161 fu K30 K43 a0 x2 x3 x4 sa0 sx1 sx2 sx3 X = some (r, X2)) : gx_W D gz_cl 8 p l e (gx_rm 6 158 0 0) s m args below meth c 0 0 (MQ below (gx_Q D gz_cl (some (gx_i r)) X2) args s 0 0 (gx_Z D)) X 161 [some (gx_r (some a0)), none, some (gx_i x2), some (gx_i x3), some (gx_i x4), none, none, none] [gx_i sx3, gx_i sx2, gx_i sx1, gx_r (some sa0)] := by
  unfold gm_X6_certify_161 at h
  obtain ⟨hoz6, h⟩ := gx_obs h
  obtain ⟨vz8, Xz7, eXz7, h⟩ := gx_bd2 h
  refine gx_callV (As := [gx_i sx1, gx_i sx2, gx_i sx3]) (st := []) (stk2 := [gx_i vz8]) C cd_X6_isGuarded wl_639 ws_X6_isGuarded wl_637 rfl hoz6 (gc_X6_isGuarded fu sa0 sx1 sx2 sx3 X vz8 Xz7 eXz7) rfl ⟨Nat.le_of_ble_eq_true rfl, Nat.le_of_ble_eq_true rfl⟩ ⟨Nat.le_of_ble_eq_true rfl, Nat.le_of_ble_eq_true rfl⟩ (Nat.le_of_ble_eq_true rfl) rfl rfl dX6_certify_161 ?_
  refine gx_if_ne (tgt := 171) C dX6_certify_164 (by decide) (fun qz9 => ?_) (fun qz9 => ?_)
  · rw [if_neg qz9] at h
    exact gt_X6_certify_171 C fu K30 hK30 K43 hK43 a0 x2 x3 x4 Xz7 h
  · rw [if_pos qz9] at h
    exact gt_X6_certify_167 C fu K30 hK30 K43 hK43 a0 x2 x3 x4 Xz7 h
def gm_X6_certify_132 (fu : Nat) (K30 : Nat → Int32 → Int32 → gx_H → Option (Int32 × gx_H)) (K43 : Nat → Int32 → Int32 → Int32 → gx_H → Option (Int32 × gx_H)) (a0 : Nat) (x2 : Int32) (x3 : Int32) (x4 : Int32) (x5 : Int32) (x6 : Int32) (sa0 : Nat) (sx1 : Int32) (sx2 : Int32) (X : gx_H) : Option (Int32 × gx_H) :=
  (gx_gai X sa0 0 (sx1 + sx2)).bind fun vz10 =>
  (gx_gd X a0 6 8).bind fun az11 =>
  (gx_gai X az11 0 x5).bind fun vz12 =>
  if vz10 = vz12 then (
  if x6 = 0 then (
  gm_X6_certify_161 fu K30 K43 a0 x2 x3 x4 a0 x2 x3 (x4 + (1 : Int32)) X) else (
  gm_X6_certify_161 fu K30 K43 a0 x2 x3 x4 a0 x2 x3 x4 X)) else (
  gm_X6_certify_167 fu K30 K43 a0 x2 x3 x4 X)
set_option maxHeartbeats 1000000 in
set_option maxRecDepth 20000 in
theorem gt_X6_certify_132 {p : Program} {l : Launch} {e : Env} {s : State} {m : MethodId} {args : Array Value} {below : List Frame} {meth : Method} {c : Code} {D : gx_D} {r : Int32} {X2 : gx_H}  (C : gx_C D gz_cl gz_at gz_tb gz_nb p s m meth c cX6_certify 8 RX6 (some .int)) (fu : Nat) (K30 : Nat → Int32 → Int32 → gx_H → Option (Int32 × gx_H)) (hK30 : ∀ (a0 : Nat) (x2 : Int32) (x3 : Int32) (X : gx_H), K30 a0 x2 x3 X = some (r, X2) → gx_W D gz_cl 8 p l e (gx_rm 6 158 0 0) s m args below meth c 0 0 (MQ below (gx_Q D gz_cl (some (gx_i r)) X2) args s 0 0 (gx_Z D)) X 30 [some (gx_r (some a0)), none, some (gx_i x2), some (gx_i x3), none, none, none, none] []) (K43 : Nat → Int32 → Int32 → Int32 → gx_H → Option (Int32 × gx_H)) (hK43 : ∀ (a0 : Nat) (x2 : Int32) (x3 : Int32) (x4 : Int32) (X : gx_H), K43 a0 x2 x3 x4 X = some (r, X2) → gx_W D gz_cl 8 p l e (gx_rm 6 158 0 0) s m args below meth c 0 0 (MQ below (gx_Q D gz_cl (some (gx_i r)) X2) args s 0 0 (gx_Z D)) X 43 [some (gx_r (some a0)), none, some (gx_i x2), some (gx_i x3), some (gx_i x4), none, none, none] []) (a0 : Nat) (x2 : Int32) (x3 : Int32) (x4 : Int32) (x5 : Int32) (x6 : Int32) (sa0 : Nat) (sx1 : Int32) (sx2 : Int32) (X : gx_H) (h : gm_X6_certify_132 fu K30 K43 a0 x2 x3 x4 x5 x6 sa0 sx1 sx2 X = some (r, X2)) : gx_W D gz_cl 8 p l e (gx_rm 6 158 0 0) s m args below meth c 0 0 (MQ below (gx_Q D gz_cl (some (gx_i r)) X2) args s 0 0 (gx_Z D)) X 132 [some (gx_r (some a0)), none, some (gx_i x2), some (gx_i x3), some (gx_i x4), some (gx_i x5), some (gx_i x6), none] [gx_i sx2, gx_i sx1, gx_r (some sa0)] := by
  unfold gm_X6_certify_132 at h
  refine gx_iadd C dX6_certify_132 ?_
  obtain ⟨vz10, evz10, h⟩ := gx_bd h
  refine gx_iald C (t := 0) rfl evz10 dX6_certify_133 ?_
  refine gx_aload_n C dX6_certify_134 rfl rfl ?_
  obtain ⟨az11, eaz11, h⟩ := gx_bd h
  refine gx_get C kcX6 8 (by decide) wl_505 (gx_gd_s eaz11) dX6_certify_135 ?_
  refine gx_iload C dX6_certify_138 rfl ?_
  obtain ⟨vz12, evz12, h⟩ := gx_bd h
  refine gx_iald C (t := 0) rfl evz12 dX6_certify_140 ?_
  refine gx_icmp_ne (tgt := 167) C dX6_certify_141 (by decide) (fun qz13 => ?_) (fun qz13 => ?_)
  · rw [if_neg qz13] at h
    refine gx_sub (lv2 := [some (gx_r (some a0)), none, some (gx_i x2), some (gx_i x3), some (gx_i x4), none, none, none]) [true, false, true, true, true, false, false, false] rfl ?_
    exact gt_X6_certify_167 C fu K30 hK30 K43 hK43 a0 x2 x3 x4 X h
  · rw [if_pos qz13] at h
    refine gx_aload_n C dX6_certify_144 rfl rfl ?_
    refine gx_iload_n C dX6_certify_145 rfl rfl ?_
    refine gx_iload_n C dX6_certify_146 rfl rfl ?_
    refine gx_iload C dX6_certify_147 rfl ?_
    refine gx_if_eq (tgt := 157) C dX6_certify_149 (by decide) (fun qz14 => ?_) (fun qz14 => ?_)
    · rw [if_pos qz14] at h
      refine gx_iload C dX6_certify_157 rfl ?_
      refine gx_iconst (v := 1) C dX6_certify_159 (by decide) ?_
      refine gx_iadd C dX6_certify_160 ?_
      refine gx_sub (lv2 := [some (gx_r (some a0)), none, some (gx_i x2), some (gx_i x3), some (gx_i x4), none, none, none]) [true, false, true, true, true, false, false, false] rfl ?_
      exact gt_X6_certify_161 C fu K30 hK30 K43 hK43 a0 x2 x3 x4 a0 x2 x3 (x4 + (1 : Int32)) X h
    · rw [if_neg qz14] at h
      refine gx_iload C dX6_certify_152 rfl ?_
      refine gx_goto (tgt := 161) C dX6_certify_154 (by decide) ?_
      refine gx_sub (lv2 := [some (gx_r (some a0)), none, some (gx_i x2), some (gx_i x3), some (gx_i x4), none, none, none]) [true, false, true, true, true, false, false, false] rfl ?_
      exact gt_X6_certify_161 C fu K30 hK30 K43 hK43 a0 x2 x3 x4 a0 x2 x3 x4 X h
def gm_X6_certify_98 (fu : Nat) (K30 : Nat → Int32 → Int32 → gx_H → Option (Int32 × gx_H)) (K43 : Nat → Int32 → Int32 → Int32 → gx_H → Option (Int32 × gx_H)) (a0 : Nat) (x2 : Int32) (x3 : Int32) (x4 : Int32) (x5 : Int32) (sx0 : Int32) (X : gx_H) : Option (Int32 × gx_H) :=
  (gx_gd X a0 6 7).bind fun az15 =>
  (gx_gai X az15 0 x5).bind fun vz16 =>
  if vz16 = (5 : Int32) then (
  if sx0 = 0 then (
  (gx_gd X a0 6 8).bind fun az19 =>
  if sx0 = 0 then (
  gm_X6_certify_132 fu K30 K43 a0 x2 x3 x4 x5 sx0 az19 x5 (1 : Int32) X) else (
  gm_X6_certify_132 fu K30 K43 a0 x2 x3 x4 x5 sx0 az19 x5 (0 : Int32) X)) else (
  gm_X6_certify_167 fu K30 K43 a0 x2 x3 x4 X)) else (
  gm_X6_certify_171 fu K30 K43 a0 x2 x3 x4 X)
set_option maxHeartbeats 1000000 in
set_option maxRecDepth 20000 in
theorem gt_X6_certify_98 {p : Program} {l : Launch} {e : Env} {s : State} {m : MethodId} {args : Array Value} {below : List Frame} {meth : Method} {c : Code} {D : gx_D} {r : Int32} {X2 : gx_H}  (C : gx_C D gz_cl gz_at gz_tb gz_nb p s m meth c cX6_certify 8 RX6 (some .int)) (fu : Nat) (K30 : Nat → Int32 → Int32 → gx_H → Option (Int32 × gx_H)) (hK30 : ∀ (a0 : Nat) (x2 : Int32) (x3 : Int32) (X : gx_H), K30 a0 x2 x3 X = some (r, X2) → gx_W D gz_cl 8 p l e (gx_rm 6 158 0 0) s m args below meth c 0 0 (MQ below (gx_Q D gz_cl (some (gx_i r)) X2) args s 0 0 (gx_Z D)) X 30 [some (gx_r (some a0)), none, some (gx_i x2), some (gx_i x3), none, none, none, none] []) (K43 : Nat → Int32 → Int32 → Int32 → gx_H → Option (Int32 × gx_H)) (hK43 : ∀ (a0 : Nat) (x2 : Int32) (x3 : Int32) (x4 : Int32) (X : gx_H), K43 a0 x2 x3 x4 X = some (r, X2) → gx_W D gz_cl 8 p l e (gx_rm 6 158 0 0) s m args below meth c 0 0 (MQ below (gx_Q D gz_cl (some (gx_i r)) X2) args s 0 0 (gx_Z D)) X 43 [some (gx_r (some a0)), none, some (gx_i x2), some (gx_i x3), some (gx_i x4), none, none, none] []) (a0 : Nat) (x2 : Int32) (x3 : Int32) (x4 : Int32) (x5 : Int32) (sx0 : Int32) (X : gx_H) (h : gm_X6_certify_98 fu K30 K43 a0 x2 x3 x4 x5 sx0 X = some (r, X2)) : gx_W D gz_cl 8 p l e (gx_rm 6 158 0 0) s m args below meth c 0 0 (MQ below (gx_Q D gz_cl (some (gx_i r)) X2) args s 0 0 (gx_Z D)) X 98 [some (gx_r (some a0)), none, some (gx_i x2), some (gx_i x3), some (gx_i x4), some (gx_i x5), none, none] [gx_i sx0] := by
  unfold gm_X6_certify_98 at h
  refine gx_istore (lv2 := [some (gx_r (some a0)), none, some (gx_i x2), some (gx_i x3), some (gx_i x4), some (gx_i x5), some (gx_i sx0), none]) C dX6_certify_98 (by decide) rfl ?_
  refine gx_aload_n C dX6_certify_100 rfl rfl ?_
  obtain ⟨az15, eaz15, h⟩ := gx_bd h
  refine gx_get C kcX6 7 (by decide) wl_504 (gx_gd_s eaz15) dX6_certify_101 ?_
  refine gx_iload C dX6_certify_104 rfl ?_
  obtain ⟨vz16, evz16, h⟩ := gx_bd h
  refine gx_iald C (t := 0) rfl evz16 dX6_certify_106 ?_
  refine gx_iconst (v := 5) C dX6_certify_107 (by decide) ?_
  refine gx_icmp_ne (tgt := 171) C dX6_certify_108 (by decide) (fun qz17 => ?_) (fun qz17 => ?_)
  · rw [if_neg qz17] at h
    refine gx_sub (lv2 := [some (gx_r (some a0)), none, some (gx_i x2), some (gx_i x3), some (gx_i x4), none, none, none]) [true, false, true, true, true, false, false, false] rfl ?_
    exact gt_X6_certify_171 C fu K30 hK30 K43 hK43 a0 x2 x3 x4 X h
  · rw [if_pos qz17] at h
    refine gx_iload C dX6_certify_111 rfl ?_
    refine gx_if_ne (tgt := 167) C dX6_certify_113 (by decide) (fun qz18 => ?_) (fun qz18 => ?_)
    · rw [if_neg qz18] at h
      refine gx_sub (lv2 := [some (gx_r (some a0)), none, some (gx_i x2), some (gx_i x3), some (gx_i x4), none, none, none]) [true, false, true, true, true, false, false, false] rfl ?_
      exact gt_X6_certify_167 C fu K30 hK30 K43 hK43 a0 x2 x3 x4 X h
    · rw [if_pos qz18] at h
      refine gx_aload_n C dX6_certify_116 rfl rfl ?_
      obtain ⟨az19, eaz19, h⟩ := gx_bd h
      refine gx_get C kcX6 8 (by decide) wl_505 (gx_gd_s eaz19) dX6_certify_117 ?_
      refine gx_iload C dX6_certify_120 rfl ?_
      refine gx_iload C dX6_certify_122 rfl ?_
      refine gx_if_eq (tgt := 131) C dX6_certify_124 (by decide) (fun qz20 => ?_) (fun qz20 => ?_)
      · rw [if_pos qz20] at h
        refine gx_iconst (v := 1) C dX6_certify_131 (by decide) ?_
        exact gt_X6_certify_132 C fu K30 hK30 K43 hK43 a0 x2 x3 x4 x5 sx0 az19 x5 (1 : Int32) X h
      · rw [if_neg qz20] at h
        refine gx_iconst (v := 0) C dX6_certify_127 (by decide) ?_
        refine gx_goto (tgt := 132) C dX6_certify_128 (by decide) ?_
        exact gt_X6_certify_132 C fu K30 hK30 K43 hK43 a0 x2 x3 x4 x5 sx0 az19 x5 (0 : Int32) X h
def gm_X6_certify_43 (fu : Nat) (K30 : Nat → Int32 → Int32 → gx_H → Option (Int32 × gx_H)) : Nat → Nat → Int32 → Int32 → Int32 → gx_H → Option (Int32 × gx_H)
  | 0, _, _, _, _, _ => none
  | n + 1, a0, x2, x3, x4, X =>
    (gx_gd X a0 6 5).bind fun az21 =>
    (gx_gai X az21 0 (((8 : Int32) * x2) + x3)).bind fun vz22 =>
    if vz22 ≤ x4 then (
    K30 a0 x2 (x3 + 1) X) else (
    (gx_gd X a0 6 5).bind fun az24 =>
    (gx_gai X az24 0 (((8 : Int32) * x2) + x3)).bind fun vz25 =>
    if (x4 + (1 : Int32)) = vz25 then (
    gm_X6_certify_98 fu K30 (gm_X6_certify_43 fu K30 n) a0 x2 x3 x4 ((((1600 : Int32) * x2) + ((200 : Int32) * x3)) + x4) (1 : Int32) X) else (
    gm_X6_certify_98 fu K30 (gm_X6_certify_43 fu K30 n) a0 x2 x3 x4 ((((1600 : Int32) * x2) + ((200 : Int32) * x3)) + x4) (0 : Int32) X))
set_option maxHeartbeats 1000000 in
set_option maxRecDepth 20000 in
theorem gt_X6_certify_43 {p : Program} {l : Launch} {e : Env} {s : State} {m : MethodId} {args : Array Value} {below : List Frame} {meth : Method} {c : Code} {D : gx_D} {r : Int32} {X2 : gx_H}  (C : gx_C D gz_cl gz_at gz_tb gz_nb p s m meth c cX6_certify 8 RX6 (some .int)) (fu : Nat) (K30 : Nat → Int32 → Int32 → gx_H → Option (Int32 × gx_H)) (hK30 : ∀ (a0 : Nat) (x2 : Int32) (x3 : Int32) (X : gx_H), K30 a0 x2 x3 X = some (r, X2) → gx_W D gz_cl 8 p l e (gx_rm 6 158 0 0) s m args below meth c 0 0 (MQ below (gx_Q D gz_cl (some (gx_i r)) X2) args s 0 0 (gx_Z D)) X 30 [some (gx_r (some a0)), none, some (gx_i x2), some (gx_i x3), none, none, none, none] []) : ∀ (n : Nat) (a0 : Nat) (x2 : Int32) (x3 : Int32) (x4 : Int32) (X : gx_H) , gm_X6_certify_43 fu K30 n a0 x2 x3 x4 X = some (r, X2) → gx_W D gz_cl 8 p l e (gx_rm 6 158 0 0) s m args below meth c 0 0 (MQ below (gx_Q D gz_cl (some (gx_i r)) X2) args s 0 0 (gx_Z D)) X 43 [some (gx_r (some a0)), none, some (gx_i x2), some (gx_i x3), some (gx_i x4), none, none, none] [] := by
  intro n
  induction n with
  | zero =>
    intro a0 x2 x3 x4 X h
    have h : none = some _ := h
    cases h
  | succ n ih =>
    intro a0 x2 x3 x4 X h
    rw [gm_X6_certify_43] at h
    refine gx_iload C dX6_certify_43 rfl ?_
    refine gx_aload_n C dX6_certify_45 rfl rfl ?_
    obtain ⟨az21, eaz21, h⟩ := gx_bd h
    refine gx_get C kcX6 5 (by decide) wl_502 (gx_gd_s eaz21) dX6_certify_46 ?_
    refine gx_bipush (v := 8) C dX6_certify_49 (by decide) ?_
    refine gx_iload_n C dX6_certify_51 rfl rfl ?_
    refine gx_imul C dX6_certify_52 ?_
    refine gx_iload_n C dX6_certify_53 rfl rfl ?_
    refine gx_iadd C dX6_certify_54 ?_
    obtain ⟨vz22, evz22, h⟩ := gx_bd h
    refine gx_iald C (t := 0) rfl evz22 dX6_certify_55 ?_
    refine gx_icmp_ge (tgt := 207) C dX6_certify_56 (by decide) (fun qz23 => ?_) (fun qz23 => ?_)
    · rw [if_pos qz23] at h
      refine gx_iinc (v := (x3 + 1)) (lv2 := [some (gx_r (some a0)), none, some (gx_i x2), some (gx_i (x3 + 1)), some (gx_i x4), none, none, none]) C dX6_certify_207 rfl rfl (by decide) rfl ?_
      refine gx_goto (tgt := 30) C dX6_certify_210 (by decide) ?_
      refine gx_sub (lv2 := [some (gx_r (some a0)), none, some (gx_i x2), some (gx_i (x3 + 1)), none, none, none, none]) [true, false, true, true, false, false, false, false] rfl ?_
      exact hK30 a0 x2 (x3 + 1) X h
    · rw [if_neg qz23] at h
      refine gx_sipush (v := 1600) C dX6_certify_59 (by decide) ?_
      refine gx_iload_n C dX6_certify_62 rfl rfl ?_
      refine gx_imul C dX6_certify_63 ?_
      refine gx_sipush (v := 200) C dX6_certify_64 (by decide) ?_
      refine gx_iload_n C dX6_certify_67 rfl rfl ?_
      refine gx_imul C dX6_certify_68 ?_
      refine gx_iadd C dX6_certify_69 ?_
      refine gx_iload C dX6_certify_70 rfl ?_
      refine gx_iadd C dX6_certify_72 ?_
      refine gx_istore (lv2 := [some (gx_r (some a0)), none, some (gx_i x2), some (gx_i x3), some (gx_i x4), some (gx_i ((((1600 : Int32) * x2) + ((200 : Int32) * x3)) + x4)), none, none]) C dX6_certify_73 (by decide) rfl ?_
      refine gx_iload C dX6_certify_75 rfl ?_
      refine gx_iconst (v := 1) C dX6_certify_77 (by decide) ?_
      refine gx_iadd C dX6_certify_78 ?_
      refine gx_aload_n C dX6_certify_79 rfl rfl ?_
      obtain ⟨az24, eaz24, h⟩ := gx_bd h
      refine gx_get C kcX6 5 (by decide) wl_502 (gx_gd_s eaz24) dX6_certify_80 ?_
      refine gx_bipush (v := 8) C dX6_certify_83 (by decide) ?_
      refine gx_iload_n C dX6_certify_85 rfl rfl ?_
      refine gx_imul C dX6_certify_86 ?_
      refine gx_iload_n C dX6_certify_87 rfl rfl ?_
      refine gx_iadd C dX6_certify_88 ?_
      obtain ⟨vz25, evz25, h⟩ := gx_bd h
      refine gx_iald C (t := 0) rfl evz25 dX6_certify_89 ?_
      refine gx_icmp_ne (tgt := 97) C dX6_certify_90 (by decide) (fun qz26 => ?_) (fun qz26 => ?_)
      · rw [if_neg qz26] at h
        refine gx_iconst (v := 0) C dX6_certify_97 (by decide) ?_
        exact gt_X6_certify_98 C fu K30 hK30 (gm_X6_certify_43 fu K30 n) ih a0 x2 x3 x4 ((((1600 : Int32) * x2) + ((200 : Int32) * x3)) + x4) (0 : Int32) X h
      · rw [if_pos qz26] at h
        refine gx_iconst (v := 1) C dX6_certify_93 (by decide) ?_
        refine gx_goto (tgt := 98) C dX6_certify_94 (by decide) ?_
        exact gt_X6_certify_98 C fu K30 hK30 (gm_X6_certify_43 fu K30 n) ih a0 x2 x3 x4 ((((1600 : Int32) * x2) + ((200 : Int32) * x3)) + x4) (1 : Int32) X h
def gm_X6_certify_30 (fu : Nat) : Nat → Nat → Int32 → Int32 → gx_H → Option (Int32 × gx_H)
  | 0, _, _, _, _ => none
  | n + 1, a0, x2, x3, X =>
    (gx_gd X a0 6 4).bind fun az27 =>
    (gx_gai X az27 0 x2).bind fun vz28 =>
    if vz28 ≤ x3 then (
    some ((0 : Int32), X)) else (
    gm_X6_certify_43 fu (gm_X6_certify_30 fu  n) fu a0 x2 x3 (0 : Int32) X)
set_option maxHeartbeats 1000000 in
set_option maxRecDepth 20000 in
theorem gt_X6_certify_30 {p : Program} {l : Launch} {e : Env} {s : State} {m : MethodId} {args : Array Value} {below : List Frame} {meth : Method} {c : Code} {D : gx_D} {r : Int32} {X2 : gx_H}  (C : gx_C D gz_cl gz_at gz_tb gz_nb p s m meth c cX6_certify 8 RX6 (some .int)) (fu : Nat) : ∀ (n : Nat) (a0 : Nat) (x2 : Int32) (x3 : Int32) (X : gx_H) , gm_X6_certify_30 fu  n a0 x2 x3 X = some (r, X2) → gx_W D gz_cl 8 p l e (gx_rm 6 158 0 0) s m args below meth c 0 0 (MQ below (gx_Q D gz_cl (some (gx_i r)) X2) args s 0 0 (gx_Z D)) X 30 [some (gx_r (some a0)), none, some (gx_i x2), some (gx_i x3), none, none, none, none] [] := by
  intro n
  induction n with
  | zero =>
    intro a0 x2 x3 X h
    have h : none = some _ := h
    cases h
  | succ n ih =>
    intro a0 x2 x3 X h
    rw [gm_X6_certify_30] at h
    refine gx_iload_n C dX6_certify_30 rfl rfl ?_
    refine gx_aload_n C dX6_certify_31 rfl rfl ?_
    obtain ⟨az27, eaz27, h⟩ := gx_bd h
    refine gx_get C kcX6 4 (by decide) wl_501 (gx_gd_s eaz27) dX6_certify_32 ?_
    refine gx_iload_n C dX6_certify_35 rfl rfl ?_
    obtain ⟨vz28, evz28, h⟩ := gx_bd h
    refine gx_iald C (t := 0) rfl evz28 dX6_certify_36 ?_
    refine gx_icmp_ge (tgt := 213) C dX6_certify_37 (by decide) (fun qz29 => ?_) (fun qz29 => ?_)
    · rw [if_pos qz29] at h
      refine gx_iconst (v := 0) C dX6_certify_213 (by decide) ?_
      cases h
      exact gx_iret C dX6_certify_214
    · rw [if_neg qz29] at h
      refine gx_iconst (v := 0) C dX6_certify_40 (by decide) ?_
      refine gx_istore (lv2 := [some (gx_r (some a0)), none, some (gx_i x2), some (gx_i x3), some (gx_i (0 : Int32)), none, none, none]) C dX6_certify_41 (by decide) rfl ?_
      exact gt_X6_certify_43 C fu (gm_X6_certify_30 fu  n) ih fu a0 x2 x3 (0 : Int32) X h
def gm_X6_certify_27 (fu : Nat) (a0 : Nat) (sx0 : Int32) (X : gx_H) : Option (Int32 × gx_H) :=
  gm_X6_certify_30 fu  fu a0 sx0 (0 : Int32) X
set_option maxHeartbeats 1000000 in
set_option maxRecDepth 20000 in
theorem gt_X6_certify_27 {p : Program} {l : Launch} {e : Env} {s : State} {m : MethodId} {args : Array Value} {below : List Frame} {meth : Method} {c : Code} {D : gx_D} {r : Int32} {X2 : gx_H}  (C : gx_C D gz_cl gz_at gz_tb gz_nb p s m meth c cX6_certify 8 RX6 (some .int)) (fu : Nat) (a0 : Nat) (sx0 : Int32) (X : gx_H) (h : gm_X6_certify_27 fu  a0 sx0 X = some (r, X2)) : gx_W D gz_cl 8 p l e (gx_rm 6 158 0 0) s m args below meth c 0 0 (MQ below (gx_Q D gz_cl (some (gx_i r)) X2) args s 0 0 (gx_Z D)) X 27 [some (gx_r (some a0)), none, none, none, none, none, none, none] [gx_i sx0] := by
  unfold gm_X6_certify_27 at h
  refine gx_istore_n (lv2 := [some (gx_r (some a0)), none, some (gx_i sx0), none, none, none, none, none]) C dX6_certify_27 rfl (by decide) rfl ?_
  refine gx_iconst (v := 0) C dX6_certify_28 (by decide) ?_
  refine gx_istore_n (lv2 := [some (gx_r (some a0)), none, some (gx_i sx0), some (gx_i (0 : Int32)), none, none, none, none]) C dX6_certify_29 rfl (by decide) rfl ?_
  exact gt_X6_certify_30 C fu  fu a0 sx0 (0 : Int32) X h
def gm_X6_certify_18 (fu : Nat) (a0 : Nat) (x1 : Int32) (X : gx_H) : Option (Int32 × gx_H) :=
  if x1 = 0 then (
  gm_X6_certify_27 fu  a0 (0 : Int32) X) else (
  gm_X6_certify_27 fu  a0 (1 : Int32) X)
set_option maxHeartbeats 1000000 in
set_option maxRecDepth 20000 in
theorem gt_X6_certify_18 {p : Program} {l : Launch} {e : Env} {s : State} {m : MethodId} {args : Array Value} {below : List Frame} {meth : Method} {c : Code} {D : gx_D} {r : Int32} {X2 : gx_H}  (C : gx_C D gz_cl gz_at gz_tb gz_nb p s m meth c cX6_certify 8 RX6 (some .int)) (fu : Nat) (a0 : Nat) (x1 : Int32) (X : gx_H) (h : gm_X6_certify_18 fu  a0 x1 X = some (r, X2)) : gx_W D gz_cl 8 p l e (gx_rm 6 158 0 0) s m args below meth c 0 0 (MQ below (gx_Q D gz_cl (some (gx_i r)) X2) args s 0 0 (gx_Z D)) X 18 [some (gx_r (some a0)), some (gx_i x1), none, none, none, none, none, none] [] := by
  unfold gm_X6_certify_18 at h
  refine gx_iload_n C dX6_certify_18 rfl rfl ?_
  refine gx_if_eq (tgt := 26) C dX6_certify_19 (by decide) (fun qz30 => ?_) (fun qz30 => ?_)
  · rw [if_pos qz30] at h
    refine gx_iconst (v := 0) C dX6_certify_26 (by decide) ?_
    refine gx_sub (lv2 := [some (gx_r (some a0)), none, none, none, none, none, none, none]) [true, false, false, false, false, false, false, false] rfl ?_
    exact gt_X6_certify_27 C fu  a0 (0 : Int32) X h
  · rw [if_neg qz30] at h
    refine gx_iconst (v := 1) C dX6_certify_22 (by decide) ?_
    refine gx_goto (tgt := 27) C dX6_certify_23 (by decide) ?_
    refine gx_sub (lv2 := [some (gx_r (some a0)), none, none, none, none, none, none, none]) [true, false, false, false, false, false, false, false] rfl ?_
    exact gt_X6_certify_27 C fu  a0 (1 : Int32) X h
def gm_X6_certify (fu : Nat) (this : Nat) (p_0 : Int32) (X : gx_H) : Option (Int32 × gx_H) :=
  (gx_pf X this 6 0 (.int (0 : Int32))).bind fun Xz31 =>
  if p_0 = 0 then (
  gm_X6_certify_18 fu  this p_0 Xz31) else (
  (gx_gi Xz31 this 6 12).bind fun vz33 =>
  if vz33 = 0 then (
  some ((-1 : Int32), Xz31)) else (
  gm_X6_certify_18 fu  this p_0 Xz31))
set_option maxHeartbeats 1000000 in
set_option maxRecDepth 20000 in
theorem gc_X6_certify {l : Launch} {D : gx_D} (fu : Nat) (this : Nat) (p_0 : Int32) (X : gx_H) (r : Int32) (X2 : gx_H) (h : gm_X6_certify fu this p_0 X = some (r, X2)) : gx_M D gz_cl gz_at gz_tb gz_nb l yX6_certify cX6_certify 8 (some .int) 6 158 [gx_r (some this), gx_i p_0] X (some (gx_i r)) X2 0 0 := by
  unfold gm_X6_certify at h
  refine gx_enter [some (gx_r (some this)), some (gx_i p_0), none, none, none, none, none, none] rfl (by decide) (Nat.le_of_ble_eq_true rfl) ?_
  intro p e s m below meth c C _
  refine gx_aload_n C dX6_certify_0 rfl rfl ?_
  refine gx_iconst (v := 0) C dX6_certify_1 (by decide) ?_
  obtain ⟨Xz31, eXz31, h⟩ := gx_bd h
  refine gx_put C kcX6 0 (by decide) rfl wl_497 ⟨rfl, rfl⟩ eXz31 dX6_certify_2 ?_
  refine gx_iload_n C dX6_certify_5 rfl rfl ?_
  refine gx_if_eq (tgt := 18) C dX6_certify_6 (by decide) (fun qz32 => ?_) (fun qz32 => ?_)
  · rw [if_pos qz32] at h
    exact gt_X6_certify_18 C fu  this p_0 Xz31 h
  · rw [if_neg qz32] at h
    refine gx_aload_n C dX6_certify_9 rfl rfl ?_
    obtain ⟨vz33, evz33, h⟩ := gx_bd h
    refine gx_get C kcX6 12 (by decide) wl_509 (gx_gi_s evz33) dX6_certify_10 ?_
    refine gx_if_ne (tgt := 18) C dX6_certify_13 (by decide) (fun qz34 => ?_) (fun qz34 => ?_)
    · rw [if_neg qz34] at h
      exact gt_X6_certify_18 C fu  this p_0 Xz31 h
    · rw [if_pos qz34] at h
      refine gx_iconst (v := -1) C dX6_certify_16 (by decide) ?_
      cases h
      exact gx_iret C dX6_certify_17
theorem dX6_isThere_0 : decode cX6_isThere 0 = .ok (.iload_n 2, 1) := by decide +kernel
theorem dX6_isThere_1 : decode cX6_isThere 1 = .ok (.ifCond .lt 36, 3) := by decide +kernel
theorem dX6_isThere_4 : decode cX6_isThere 4 = .ok (.iload_n 2, 1) := by decide +kernel
theorem dX6_isThere_5 : decode cX6_isThere 5 = .ok (.aload_n 0, 1) := by decide +kernel
theorem dX6_isThere_6 : decode cX6_isThere 6 = .ok (.getfield 21, 3) := by decide +kernel
theorem dX6_isThere_9 : decode cX6_isThere 9 = .ok (.iload_n 1, 1) := by decide +kernel
theorem dX6_isThere_10 : decode cX6_isThere 10 = .ok (.iaload, 1) := by decide +kernel
theorem dX6_isThere_11 : decode cX6_isThere 11 = .ok (.if_icmp .ge 26, 3) := by decide +kernel
theorem dX6_isThere_14 : decode cX6_isThere 14 = .ok (.iload_n 3, 1) := by decide +kernel
theorem dX6_isThere_15 : decode cX6_isThere 15 = .ok (.ifCond .lt 22, 3) := by decide +kernel
theorem dX6_isThere_18 : decode cX6_isThere 18 = .ok (.iload_n 3, 1) := by decide +kernel
theorem dX6_isThere_19 : decode cX6_isThere 19 = .ok (.aload_n 0, 1) := by decide +kernel
theorem dX6_isThere_20 : decode cX6_isThere 20 = .ok (.getfield 25, 3) := by decide +kernel
theorem dX6_isThere_23 : decode cX6_isThere 23 = .ok (.bipush 8, 2) := by decide +kernel
theorem dX6_isThere_25 : decode cX6_isThere 25 = .ok (.iload_n 1, 1) := by decide +kernel
theorem dX6_isThere_26 : decode cX6_isThere 26 = .ok (.imul, 1) := by decide +kernel
theorem dX6_isThere_27 : decode cX6_isThere 27 = .ok (.iload_n 2, 1) := by decide +kernel
theorem dX6_isThere_28 : decode cX6_isThere 28 = .ok (.iadd, 1) := by decide +kernel
theorem dX6_isThere_29 : decode cX6_isThere 29 = .ok (.iaload, 1) := by decide +kernel
theorem dX6_isThere_30 : decode cX6_isThere 30 = .ok (.if_icmp .ge 7, 3) := by decide +kernel
theorem dX6_isThere_33 : decode cX6_isThere 33 = .ok (.iconst 1, 1) := by decide +kernel
theorem dX6_isThere_34 : decode cX6_isThere 34 = .ok (.goto 4, 3) := by decide +kernel
theorem dX6_isThere_37 : decode cX6_isThere 37 = .ok (.iconst 0, 1) := by decide +kernel
theorem dX6_isThere_38 : decode cX6_isThere 38 = .ok (.ireturn, 1) := by decide +kernel
def gm_X6_isThere_37 (fu : Nat)  (X : gx_H) : Option (Int32 × gx_H) :=
  some ((0 : Int32), X)
set_option maxHeartbeats 1000000 in
set_option maxRecDepth 20000 in
theorem gt_X6_isThere_37 {p : Program} {l : Launch} {e : Env} {s : State} {m : MethodId} {args : Array Value} {below : List Frame} {meth : Method} {c : Code} {D : gx_D} {r : Int32} {X2 : gx_H}  (C : gx_C D gz_cl gz_at gz_tb gz_nb p s m meth c cX6_isThere 4 RX6 (some .boolean)) (fu : Nat)  (X : gx_H) (h : gm_X6_isThere_37 fu   X = some (r, X2)) : gx_W D gz_cl 4 p l e (gx_rm 0 0 0 0) s m args below meth c 0 0 (MQ below (gx_Q D gz_cl (some (gx_i r)) X2) args s 0 0 (gx_Z D)) X 37 [none, none, none, none] [] := by
  unfold gm_X6_isThere_37 at h
  refine gx_iconst (v := 0) C dX6_isThere_37 (by decide) ?_
  cases h
  exact gx_zret (Or.inl rfl) C dX6_isThere_38
def gm_X6_isThere (fu : Nat) (this : Nat) (p_0 : Int32) (p_1 : Int32) (p_2 : Int32) (X : gx_H) : Option (Int32 × gx_H) :=
  if p_1 < 0 then (
  gm_X6_isThere_37 fu   X) else (
  (gx_gd X this 6 4).bind fun az2 =>
  (gx_gai X az2 0 p_0).bind fun vz3 =>
  if vz3 ≤ p_1 then (
  gm_X6_isThere_37 fu   X) else (
  if p_2 < 0 then (
  gm_X6_isThere_37 fu   X) else (
  (gx_gd X this 6 5).bind fun az6 =>
  (gx_gai X az6 0 (((8 : Int32) * p_0) + p_1)).bind fun vz7 =>
  if vz7 ≤ p_2 then (
  gm_X6_isThere_37 fu   X) else (
  some ((1 : Int32), X)))))
set_option maxHeartbeats 1000000 in
set_option maxRecDepth 20000 in
theorem gc_X6_isThere {l : Launch} {D : gx_D} (fu : Nat) (this : Nat) (p_0 : Int32) (p_1 : Int32) (p_2 : Int32) (X : gx_H) (r : Int32) (X2 : gx_H) (h : gm_X6_isThere fu this p_0 p_1 p_2 X = some (r, X2)) : gx_M D gz_cl gz_at gz_tb gz_nb l yX6_isThere cX6_isThere 4 (some .boolean) 0 0 [gx_r (some this), gx_i p_0, gx_i p_1, gx_i p_2] X (some (gx_i r)) X2 0 0 := by
  unfold gm_X6_isThere at h
  refine gx_enter [some (gx_r (some this)), some (gx_i p_0), some (gx_i p_1), some (gx_i p_2)] rfl (by decide) (Nat.le_of_ble_eq_true rfl) ?_
  intro p e s m below meth c C _
  refine gx_iload_n C dX6_isThere_0 rfl rfl ?_
  refine gx_if_lt (tgt := 37) C dX6_isThere_1 (by decide) (fun qz1 => ?_) (fun qz1 => ?_)
  · rw [if_pos qz1] at h
    refine gx_sub (lv2 := [none, none, none, none]) [false, false, false, false] rfl ?_
    exact gt_X6_isThere_37 C fu   X h
  · rw [if_neg qz1] at h
    refine gx_iload_n C dX6_isThere_4 rfl rfl ?_
    refine gx_aload_n C dX6_isThere_5 rfl rfl ?_
    obtain ⟨az2, eaz2, h⟩ := gx_bd h
    refine gx_get C kcX6 4 (by decide) wl_501 (gx_gd_s eaz2) dX6_isThere_6 ?_
    refine gx_iload_n C dX6_isThere_9 rfl rfl ?_
    obtain ⟨vz3, evz3, h⟩ := gx_bd h
    refine gx_iald C (t := 0) rfl evz3 dX6_isThere_10 ?_
    refine gx_icmp_ge (tgt := 37) C dX6_isThere_11 (by decide) (fun qz4 => ?_) (fun qz4 => ?_)
    · rw [if_pos qz4] at h
      refine gx_sub (lv2 := [none, none, none, none]) [false, false, false, false] rfl ?_
      exact gt_X6_isThere_37 C fu   X h
    · rw [if_neg qz4] at h
      refine gx_iload_n C dX6_isThere_14 rfl rfl ?_
      refine gx_if_lt (tgt := 37) C dX6_isThere_15 (by decide) (fun qz5 => ?_) (fun qz5 => ?_)
      · rw [if_pos qz5] at h
        refine gx_sub (lv2 := [none, none, none, none]) [false, false, false, false] rfl ?_
        exact gt_X6_isThere_37 C fu   X h
      · rw [if_neg qz5] at h
        refine gx_iload_n C dX6_isThere_18 rfl rfl ?_
        refine gx_aload_n C dX6_isThere_19 rfl rfl ?_
        obtain ⟨az6, eaz6, h⟩ := gx_bd h
        refine gx_get C kcX6 5 (by decide) wl_502 (gx_gd_s eaz6) dX6_isThere_20 ?_
        refine gx_bipush (v := 8) C dX6_isThere_23 (by decide) ?_
        refine gx_iload_n C dX6_isThere_25 rfl rfl ?_
        refine gx_imul C dX6_isThere_26 ?_
        refine gx_iload_n C dX6_isThere_27 rfl rfl ?_
        refine gx_iadd C dX6_isThere_28 ?_
        obtain ⟨vz7, evz7, h⟩ := gx_bd h
        refine gx_iald C (t := 0) rfl evz7 dX6_isThere_29 ?_
        refine gx_icmp_ge (tgt := 37) C dX6_isThere_30 (by decide) (fun qz8 => ?_) (fun qz8 => ?_)
        · rw [if_pos qz8] at h
          refine gx_sub (lv2 := [none, none, none, none]) [false, false, false, false] rfl ?_
          exact gt_X6_isThere_37 C fu   X h
        · rw [if_neg qz8] at h
          refine gx_iconst (v := 1) C dX6_isThere_33 (by decide) ?_
          refine gx_goto (tgt := 38) C dX6_isThere_34 (by decide) ?_
          cases h
          exact gx_zret (Or.inr rfl) C dX6_isThere_38
theorem dX6_code_0 : decode cX6_code 0 = .ok (.aload_n 0, 1) := by decide +kernel
theorem dX6_code_1 : decode cX6_code 1 = .ok (.iconst 0, 1) := by decide +kernel
theorem dX6_code_2 : decode cX6_code 2 = .ok (.putfield 65, 3) := by decide +kernel
theorem dX6_code_5 : decode cX6_code 5 = .ok (.aload_n 0, 1) := by decide +kernel
theorem dX6_code_6 : decode cX6_code 6 = .ok (.iconst 0, 1) := by decide +kernel
theorem dX6_code_7 : decode cX6_code 7 = .ok (.iload_n 1, 1) := by decide +kernel
theorem dX6_code_8 : decode cX6_code 8 = .ok (.iload_n 2, 1) := by decide +kernel
theorem dX6_code_9 : decode cX6_code 9 = .ok (.invokevirtual 87, 3) := by decide +kernel
theorem dX6_code_12 : decode cX6_code 12 = .ok (.ifCond .eq 29, 3) := by decide +kernel
theorem dX6_code_15 : decode cX6_code 15 = .ok (.iload_n 3, 1) := by decide +kernel
theorem dX6_code_16 : decode cX6_code 16 = .ok (.ifCond .lt 25, 3) := by decide +kernel
theorem dX6_code_19 : decode cX6_code 19 = .ok (.iload_n 3, 1) := by decide +kernel
theorem dX6_code_20 : decode cX6_code 20 = .ok (.bipush 8, 2) := by decide +kernel
theorem dX6_code_22 : decode cX6_code 22 = .ok (.if_icmp .gt 19, 3) := by decide +kernel
theorem dX6_code_25 : decode cX6_code 25 = .ok (.iload 4, 2) := by decide +kernel
theorem dX6_code_27 : decode cX6_code 27 = .ok (.ifCond .lt 14, 3) := by decide +kernel
theorem dX6_code_30 : decode cX6_code 30 = .ok (.iload 4, 2) := by decide +kernel
theorem dX6_code_32 : decode cX6_code 32 = .ok (.aload_n 0, 1) := by decide +kernel
theorem dX6_code_33 : decode cX6_code 33 = .ok (.iload_n 1, 1) := by decide +kernel
theorem dX6_code_34 : decode cX6_code 34 = .ok (.iload_n 3, 1) := by decide +kernel
theorem dX6_code_35 : decode cX6_code 35 = .ok (.invokevirtual 90, 3) := by decide +kernel
theorem dX6_code_38 : decode cX6_code 38 = .ok (.if_icmp .lt 5, 3) := by decide +kernel
theorem dX6_code_41 : decode cX6_code 41 = .ok (.iconst 0, 1) := by decide +kernel
theorem dX6_code_42 : decode cX6_code 42 = .ok (.ireturn, 1) := by decide +kernel
theorem dX6_code_43 : decode cX6_code 43 = .ok (.aload_n 0, 1) := by decide +kernel
theorem dX6_code_44 : decode cX6_code 44 = .ok (.invokevirtual 76, 3) := by decide +kernel
theorem dX6_code_47 : decode cX6_code 47 = .ok (.aload_n 0, 1) := by decide +kernel
theorem dX6_code_48 : decode cX6_code 48 = .ok (.getfield 31, 3) := by decide +kernel
theorem dX6_code_51 : decode cX6_code 51 = .ok (.sipush 200, 3) := by decide +kernel
theorem dX6_code_54 : decode cX6_code 54 = .ok (.iload_n 1, 1) := by decide +kernel
theorem dX6_code_55 : decode cX6_code 55 = .ok (.imul, 1) := by decide +kernel
theorem dX6_code_56 : decode cX6_code 56 = .ok (.iload_n 2, 1) := by decide +kernel
theorem dX6_code_57 : decode cX6_code 57 = .ok (.iadd, 1) := by decide +kernel
theorem dX6_code_58 : decode cX6_code 58 = .ok (.iload_n 3, 1) := by decide +kernel
theorem dX6_code_59 : decode cX6_code 59 = .ok (.iastore, 1) := by decide +kernel
theorem dX6_code_60 : decode cX6_code 60 = .ok (.aload_n 0, 1) := by decide +kernel
theorem dX6_code_61 : decode cX6_code 61 = .ok (.getfield 34, 3) := by decide +kernel
theorem dX6_code_64 : decode cX6_code 64 = .ok (.sipush 200, 3) := by decide +kernel
theorem dX6_code_67 : decode cX6_code 67 = .ok (.iload_n 1, 1) := by decide +kernel
theorem dX6_code_68 : decode cX6_code 68 = .ok (.imul, 1) := by decide +kernel
theorem dX6_code_69 : decode cX6_code 69 = .ok (.iload_n 2, 1) := by decide +kernel
theorem dX6_code_70 : decode cX6_code 70 = .ok (.iadd, 1) := by decide +kernel
theorem dX6_code_71 : decode cX6_code 71 = .ok (.iload 4, 2) := by decide +kernel
theorem dX6_code_73 : decode cX6_code 73 = .ok (.iastore, 1) := by decide +kernel
theorem dX6_code_74 : decode cX6_code 74 = .ok (.iconst 1, 1) := by decide +kernel
theorem dX6_code_75 : decode cX6_code 75 = .ok (.ireturn, 1) := by decide +kernel
def gm_X6_code (fu : Nat) (this : Nat) (p_0 : Int32) (p_1 : Int32) (p_2 : Int32) (p_3 : Int32) (X : gx_H) : Option (Int32 × gx_H) :=
  (gx_pf X this 6 0 (.int (0 : Int32))).bind fun Xz1 =>
  gx_ob Xz1 this 6 <|
  gx_b2 (gm_X6_isThere fu this (0 : Int32) p_0 p_1 Xz1) fun vz4 Xz3 =>
  if vz4 = 0 then (
  some ((0 : Int32), Xz3)) else (
  if p_2 < 0 then (
  some ((0 : Int32), Xz3)) else (
  if (8 : Int32) < p_2 then (
  some ((0 : Int32), Xz3)) else (
  if p_3 < 0 then (
  some ((0 : Int32), Xz3)) else (
  gx_ob Xz3 this 6 <|
  gx_b2 (gm_X6_below fu this p_0 p_2 Xz3) fun vz11 Xz10 =>
  if p_3 < vz11 then (
  gx_ob Xz10 this 6 <|
  (gm_X6_change fu this Xz10).bind fun Xz14 =>
  (gx_gd Xz14 this 6 7).bind fun az15 =>
  (gx_pai Xz14 az15 0 (((200 : Int32) * p_0) + p_1) p_2).bind fun Xz16 =>
  (gx_gd Xz16 this 6 8).bind fun az17 =>
  (gx_pai Xz16 az17 0 (((200 : Int32) * p_0) + p_1) p_3).bind fun Xz18 =>
  some ((1 : Int32), Xz18)) else (
  some ((0 : Int32), Xz10))))))
set_option maxHeartbeats 1000000 in
set_option maxRecDepth 20000 in
theorem gc_X6_code {l : Launch} {D : gx_D} (fu : Nat) (this : Nat) (p_0 : Int32) (p_1 : Int32) (p_2 : Int32) (p_3 : Int32) (X : gx_H) (r : Int32) (X2 : gx_H) (h : gm_X6_code fu this p_0 p_1 p_2 p_3 X = some (r, X2)) : gx_M D gz_cl gz_at gz_tb gz_nb l yX6_code cX6_code 5 (some .boolean) 1 23 [gx_r (some this), gx_i p_0, gx_i p_1, gx_i p_2, gx_i p_3] X (some (gx_i r)) X2 0 0 := by
  unfold gm_X6_code at h
  refine gx_enter [some (gx_r (some this)), some (gx_i p_0), some (gx_i p_1), some (gx_i p_2), some (gx_i p_3)] rfl (by decide) (Nat.le_of_ble_eq_true rfl) ?_
  intro p e s m below meth c C _
  refine gx_aload_n C dX6_code_0 rfl rfl ?_
  refine gx_iconst (v := 0) C dX6_code_1 (by decide) ?_
  obtain ⟨Xz1, eXz1, h⟩ := gx_bd h
  refine gx_put C kcX6 0 (by decide) rfl wl_497 ⟨rfl, rfl⟩ eXz1 dX6_code_2 ?_
  refine gx_aload_n C dX6_code_5 rfl rfl ?_
  refine gx_iconst (v := 0) C dX6_code_6 (by decide) ?_
  refine gx_iload_n C dX6_code_7 rfl rfl ?_
  refine gx_iload_n C dX6_code_8 rfl rfl ?_
  obtain ⟨hoz2, h⟩ := gx_obs h
  obtain ⟨vz4, Xz3, eXz3, h⟩ := gx_bd2 h
  refine gx_callV (As := [gx_i (0 : Int32), gx_i p_0, gx_i p_1]) (st := []) (stk2 := [gx_i vz4]) C cd_X6_isThere wl_599 ws_X6_isThere wl_597 rfl hoz2 (gc_X6_isThere fu this (0 : Int32) p_0 p_1 Xz1 vz4 Xz3 eXz3) rfl ⟨Nat.le_of_ble_eq_true rfl, Nat.le_of_ble_eq_true rfl⟩ ⟨Nat.le_of_ble_eq_true rfl, Nat.le_of_ble_eq_true rfl⟩ (Nat.le_of_ble_eq_true rfl) rfl rfl dX6_code_9 ?_
  refine gx_if_eq (tgt := 41) C dX6_code_12 (by decide) (fun qz5 => ?_) (fun qz5 => ?_)
  · rw [if_pos qz5] at h
    refine gx_iconst (v := 0) C dX6_code_41 (by decide) ?_
    cases h
    exact gx_zret (Or.inl rfl) C dX6_code_42
  · rw [if_neg qz5] at h
    refine gx_iload_n C dX6_code_15 rfl rfl ?_
    refine gx_if_lt (tgt := 41) C dX6_code_16 (by decide) (fun qz6 => ?_) (fun qz6 => ?_)
    · rw [if_pos qz6] at h
      refine gx_iconst (v := 0) C dX6_code_41 (by decide) ?_
      cases h
      exact gx_zret (Or.inl rfl) C dX6_code_42
    · rw [if_neg qz6] at h
      refine gx_iload_n C dX6_code_19 rfl rfl ?_
      refine gx_bipush (v := 8) C dX6_code_20 (by decide) ?_
      refine gx_icmp_gt (tgt := 41) C dX6_code_22 (by decide) (fun qz7 => ?_) (fun qz7 => ?_)
      · rw [if_pos qz7] at h
        refine gx_iconst (v := 0) C dX6_code_41 (by decide) ?_
        cases h
        exact gx_zret (Or.inl rfl) C dX6_code_42
      · rw [if_neg qz7] at h
        refine gx_iload C dX6_code_25 rfl ?_
        refine gx_if_lt (tgt := 41) C dX6_code_27 (by decide) (fun qz8 => ?_) (fun qz8 => ?_)
        · rw [if_pos qz8] at h
          refine gx_iconst (v := 0) C dX6_code_41 (by decide) ?_
          cases h
          exact gx_zret (Or.inl rfl) C dX6_code_42
        · rw [if_neg qz8] at h
          refine gx_iload C dX6_code_30 rfl ?_
          refine gx_aload_n C dX6_code_32 rfl rfl ?_
          refine gx_iload_n C dX6_code_33 rfl rfl ?_
          refine gx_iload_n C dX6_code_34 rfl rfl ?_
          obtain ⟨hoz9, h⟩ := gx_obs h
          obtain ⟨vz11, Xz10, eXz10, h⟩ := gx_bd2 h
          refine gx_callV (As := [gx_i p_0, gx_i p_2]) (st := [gx_i p_3]) (stk2 := [gx_i vz11, gx_i p_3]) C cd_X6_below wl_603 ws_X6_below wl_601 rfl hoz9 (gc_X6_below fu this p_0 p_2 Xz3 vz11 Xz10 eXz10) rfl ⟨Nat.le_of_ble_eq_true rfl, Nat.le_of_ble_eq_true rfl⟩ ⟨Nat.le_of_ble_eq_true rfl, Nat.le_of_ble_eq_true rfl⟩ (Nat.le_of_ble_eq_true rfl) rfl rfl dX6_code_35 ?_
          refine gx_icmp_lt (tgt := 43) C dX6_code_38 (by decide) (fun qz12 => ?_) (fun qz12 => ?_)
          · rw [if_pos qz12] at h
            refine gx_aload_n C dX6_code_43 rfl rfl ?_
            obtain ⟨hoz13, h⟩ := gx_obs h
            obtain ⟨Xz14, eXz14, h⟩ := gx_bd h
            refine gx_callV (As := []) (st := []) (stk2 := []) C cd_X6_change wl_564 ws_X6_change wl_562 rfl hoz13 (gc_X6_change fu this Xz10 Xz14 eXz14) rfl ⟨Nat.le_of_ble_eq_true rfl, Nat.le_of_ble_eq_true rfl⟩ ⟨Nat.le_of_ble_eq_true rfl, Nat.le_of_ble_eq_true rfl⟩ (Nat.le_of_ble_eq_true rfl) rfl rfl dX6_code_44 ?_
            refine gx_aload_n C dX6_code_47 rfl rfl ?_
            obtain ⟨az15, eaz15, h⟩ := gx_bd h
            refine gx_get C kcX6 7 (by decide) wl_504 (gx_gd_s eaz15) dX6_code_48 ?_
            refine gx_sipush (v := 200) C dX6_code_51 (by decide) ?_
            refine gx_iload_n C dX6_code_54 rfl rfl ?_
            refine gx_imul C dX6_code_55 ?_
            refine gx_iload_n C dX6_code_56 rfl rfl ?_
            refine gx_iadd C dX6_code_57 ?_
            refine gx_iload_n C dX6_code_58 rfl rfl ?_
            obtain ⟨Xz16, eXz16, h⟩ := gx_bd h
            refine gx_iast C (t := 0) rfl eXz16 dX6_code_59 ?_
            refine gx_aload_n C dX6_code_60 rfl rfl ?_
            obtain ⟨az17, eaz17, h⟩ := gx_bd h
            refine gx_get C kcX6 8 (by decide) wl_505 (gx_gd_s eaz17) dX6_code_61 ?_
            refine gx_sipush (v := 200) C dX6_code_64 (by decide) ?_
            refine gx_iload_n C dX6_code_67 rfl rfl ?_
            refine gx_imul C dX6_code_68 ?_
            refine gx_iload_n C dX6_code_69 rfl rfl ?_
            refine gx_iadd C dX6_code_70 ?_
            refine gx_iload C dX6_code_71 rfl ?_
            obtain ⟨Xz18, eXz18, h⟩ := gx_bd h
            refine gx_iast C (t := 0) rfl eXz18 dX6_code_73 ?_
            refine gx_iconst (v := 1) C dX6_code_74 (by decide) ?_
            cases h
            exact gx_zret (Or.inr rfl) C dX6_code_75
          · rw [if_neg qz12] at h
            refine gx_iconst (v := 0) C dX6_code_41 (by decide) ?_
            cases h
            exact gx_zret (Or.inl rfl) C dX6_code_42
theorem dX6_comeTo_0 : decode cX6_comeTo 0 = .ok (.aload_n 0, 1) := by decide +kernel
theorem dX6_comeTo_1 : decode cX6_comeTo 1 = .ok (.iload_n 1, 1) := by decide +kernel
theorem dX6_comeTo_2 : decode cX6_comeTo 2 = .ok (.invokevirtual 115, 3) := by decide +kernel
theorem dX6_comeTo_5 : decode cX6_comeTo 5 = .ok (.iconst 0, 1) := by decide +kernel
theorem dX6_comeTo_6 : decode cX6_comeTo 6 = .ok (.istore_n 3, 1) := by decide +kernel
theorem dX6_comeTo_7 : decode cX6_comeTo 7 = .ok (.iconst 0, 1) := by decide +kernel
theorem dX6_comeTo_8 : decode cX6_comeTo 8 = .ok (.istore 4, 2) := by decide +kernel
theorem dX6_comeTo_10 : decode cX6_comeTo 10 = .ok (.iload 4, 2) := by decide +kernel
theorem dX6_comeTo_12 : decode cX6_comeTo 12 = .ok (.aload_n 0, 1) := by decide +kernel
theorem dX6_comeTo_13 : decode cX6_comeTo 13 = .ok (.getfield 25, 3) := by decide +kernel
theorem dX6_comeTo_16 : decode cX6_comeTo 16 = .ok (.bipush 8, 2) := by decide +kernel
theorem dX6_comeTo_18 : decode cX6_comeTo 18 = .ok (.iload_n 1, 1) := by decide +kernel
theorem dX6_comeTo_19 : decode cX6_comeTo 19 = .ok (.imul, 1) := by decide +kernel
theorem dX6_comeTo_20 : decode cX6_comeTo 20 = .ok (.iload_n 2, 1) := by decide +kernel
theorem dX6_comeTo_21 : decode cX6_comeTo 21 = .ok (.iadd, 1) := by decide +kernel
theorem dX6_comeTo_22 : decode cX6_comeTo 22 = .ok (.iaload, 1) := by decide +kernel
theorem dX6_comeTo_23 : decode cX6_comeTo 23 = .ok (.if_icmp .ge 41, 3) := by decide +kernel
theorem dX6_comeTo_26 : decode cX6_comeTo 26 = .ok (.iload_n 3, 1) := by decide +kernel
theorem dX6_comeTo_27 : decode cX6_comeTo 27 = .ok (.aload_n 0, 1) := by decide +kernel
theorem dX6_comeTo_28 : decode cX6_comeTo 28 = .ok (.getfield 49, 3) := by decide +kernel
theorem dX6_comeTo_31 : decode cX6_comeTo 31 = .ok (.sipush 1600, 3) := by decide +kernel
theorem dX6_comeTo_34 : decode cX6_comeTo 34 = .ok (.iload_n 1, 1) := by decide +kernel
theorem dX6_comeTo_35 : decode cX6_comeTo 35 = .ok (.imul, 1) := by decide +kernel
theorem dX6_comeTo_36 : decode cX6_comeTo 36 = .ok (.sipush 200, 3) := by decide +kernel
theorem dX6_comeTo_39 : decode cX6_comeTo 39 = .ok (.iload_n 2, 1) := by decide +kernel
theorem dX6_comeTo_40 : decode cX6_comeTo 40 = .ok (.imul, 1) := by decide +kernel
theorem dX6_comeTo_41 : decode cX6_comeTo 41 = .ok (.iadd, 1) := by decide +kernel
theorem dX6_comeTo_42 : decode cX6_comeTo 42 = .ok (.iload 4, 2) := by decide +kernel
theorem dX6_comeTo_44 : decode cX6_comeTo 44 = .ok (.iadd, 1) := by decide +kernel
theorem dX6_comeTo_45 : decode cX6_comeTo 45 = .ok (.laload, 1) := by decide +kernel
theorem dX6_comeTo_46 : decode cX6_comeTo 46 = .ok (.lconst 0, 1) := by decide +kernel
theorem dX6_comeTo_47 : decode cX6_comeTo 47 = .ok (.lcmp, 1) := by decide +kernel
theorem dX6_comeTo_48 : decode cX6_comeTo 48 = .ok (.ifCond .ne 7, 3) := by decide +kernel
theorem dX6_comeTo_51 : decode cX6_comeTo 51 = .ok (.iconst 0, 1) := by decide +kernel
theorem dX6_comeTo_52 : decode cX6_comeTo 52 = .ok (.goto 4, 3) := by decide +kernel
theorem dX6_comeTo_55 : decode cX6_comeTo 55 = .ok (.iconst 1, 1) := by decide +kernel
theorem dX6_comeTo_56 : decode cX6_comeTo 56 = .ok (.iadd, 1) := by decide +kernel
theorem dX6_comeTo_57 : decode cX6_comeTo 57 = .ok (.istore_n 3, 1) := by decide +kernel
theorem dX6_comeTo_58 : decode cX6_comeTo 58 = .ok (.iinc 4 1, 3) := by decide +kernel
theorem dX6_comeTo_61 : decode cX6_comeTo 61 = .ok (.goto (-51), 3) := by decide +kernel
theorem dX6_comeTo_64 : decode cX6_comeTo 64 = .ok (.iload_n 3, 1) := by decide +kernel
theorem dX6_comeTo_65 : decode cX6_comeTo 65 = .ok (.ireturn, 1) := by decide +kernel
def gm_X6_comeTo_56 (fu : Nat) (K10 : Nat → Int32 → Int32 → Int32 → Int32 → gx_H → Option (Int32 × gx_H)) (a0 : Nat) (x1 : Int32) (x2 : Int32) (x4 : Int32) (sx0 : Int32) (sx1 : Int32) (X : gx_H) : Option (Int32 × gx_H) :=
  K10 a0 x1 x2 (sx0 + sx1) (x4 + 1) X
set_option maxHeartbeats 1000000 in
set_option maxRecDepth 20000 in
theorem gt_X6_comeTo_56 {p : Program} {l : Launch} {e : Env} {s : State} {m : MethodId} {args : Array Value} {below : List Frame} {meth : Method} {c : Code} {D : gx_D} {r : Int32} {X2 : gx_H}  (C : gx_C D gz_cl gz_at gz_tb gz_nb p s m meth c cX6_comeTo 5 RX6 (some .int)) (fu : Nat) (K10 : Nat → Int32 → Int32 → Int32 → Int32 → gx_H → Option (Int32 × gx_H)) (hK10 : ∀ (a0 : Nat) (x1 : Int32) (x2 : Int32) (x3 : Int32) (x4 : Int32) (X : gx_H), K10 a0 x1 x2 x3 x4 X = some (r, X2) → gx_W D gz_cl 5 p l e (gx_rm 4 106 0 0) s m args below meth c 0 0 (MQ below (gx_Q D gz_cl (some (gx_i r)) X2) args s 0 0 (gx_Z D)) X 10 [some (gx_r (some a0)), some (gx_i x1), some (gx_i x2), some (gx_i x3), some (gx_i x4)] []) (a0 : Nat) (x1 : Int32) (x2 : Int32) (x4 : Int32) (sx0 : Int32) (sx1 : Int32) (X : gx_H) (h : gm_X6_comeTo_56 fu K10 a0 x1 x2 x4 sx0 sx1 X = some (r, X2)) : gx_W D gz_cl 5 p l e (gx_rm 4 106 0 0) s m args below meth c 0 0 (MQ below (gx_Q D gz_cl (some (gx_i r)) X2) args s 0 0 (gx_Z D)) X 56 [some (gx_r (some a0)), some (gx_i x1), some (gx_i x2), none, some (gx_i x4)] [gx_i sx1, gx_i sx0] := by
  unfold gm_X6_comeTo_56 at h
  refine gx_iadd C dX6_comeTo_56 ?_
  refine gx_istore_n (lv2 := [some (gx_r (some a0)), some (gx_i x1), some (gx_i x2), some (gx_i (sx0 + sx1)), some (gx_i x4)]) C dX6_comeTo_57 rfl (by decide) rfl ?_
  refine gx_iinc (v := (x4 + 1)) (lv2 := [some (gx_r (some a0)), some (gx_i x1), some (gx_i x2), some (gx_i (sx0 + sx1)), some (gx_i (x4 + 1))]) C dX6_comeTo_58 rfl rfl (by decide) rfl ?_
  refine gx_goto (tgt := 10) C dX6_comeTo_61 (by decide) ?_
  exact hK10 a0 x1 x2 (sx0 + sx1) (x4 + 1) X h
def gm_X6_comeTo_10 (fu : Nat) : Nat → Nat → Int32 → Int32 → Int32 → Int32 → gx_H → Option (Int32 × gx_H)
  | 0, _, _, _, _, _, _ => none
  | n + 1, a0, x1, x2, x3, x4, X =>
    (gx_gd X a0 6 5).bind fun az1 =>
    (gx_gai X az1 0 (((8 : Int32) * x1) + x2)).bind fun vz2 =>
    if vz2 ≤ x4 then (
    some (x3, X)) else (
    (gx_gd X a0 6 14).bind fun az4 =>
    (gx_gal X az4 1 ((((1600 : Int32) * x1) + ((200 : Int32) * x2)) + x4)).bind fun vz5 =>
    if (lg_cmp vz5 (0 : Int64)) = 0 then (
    gm_X6_comeTo_56 fu (gm_X6_comeTo_10 fu  n) a0 x1 x2 x4 x3 (0 : Int32) X) else (
    gm_X6_comeTo_56 fu (gm_X6_comeTo_10 fu  n) a0 x1 x2 x4 x3 (1 : Int32) X))
set_option maxHeartbeats 1000000 in
set_option maxRecDepth 20000 in
theorem gt_X6_comeTo_10 {p : Program} {l : Launch} {e : Env} {s : State} {m : MethodId} {args : Array Value} {below : List Frame} {meth : Method} {c : Code} {D : gx_D} {r : Int32} {X2 : gx_H}  (C : gx_C D gz_cl gz_at gz_tb gz_nb p s m meth c cX6_comeTo 5 RX6 (some .int)) (fu : Nat) : ∀ (n : Nat) (a0 : Nat) (x1 : Int32) (x2 : Int32) (x3 : Int32) (x4 : Int32) (X : gx_H) , gm_X6_comeTo_10 fu  n a0 x1 x2 x3 x4 X = some (r, X2) → gx_W D gz_cl 5 p l e (gx_rm 4 106 0 0) s m args below meth c 0 0 (MQ below (gx_Q D gz_cl (some (gx_i r)) X2) args s 0 0 (gx_Z D)) X 10 [some (gx_r (some a0)), some (gx_i x1), some (gx_i x2), some (gx_i x3), some (gx_i x4)] [] := by
  intro n
  induction n with
  | zero =>
    intro a0 x1 x2 x3 x4 X h
    have h : none = some _ := h
    cases h
  | succ n ih =>
    intro a0 x1 x2 x3 x4 X h
    rw [gm_X6_comeTo_10] at h
    refine gx_iload C dX6_comeTo_10 rfl ?_
    refine gx_aload_n C dX6_comeTo_12 rfl rfl ?_
    obtain ⟨az1, eaz1, h⟩ := gx_bd h
    refine gx_get C kcX6 5 (by decide) wl_502 (gx_gd_s eaz1) dX6_comeTo_13 ?_
    refine gx_bipush (v := 8) C dX6_comeTo_16 (by decide) ?_
    refine gx_iload_n C dX6_comeTo_18 rfl rfl ?_
    refine gx_imul C dX6_comeTo_19 ?_
    refine gx_iload_n C dX6_comeTo_20 rfl rfl ?_
    refine gx_iadd C dX6_comeTo_21 ?_
    obtain ⟨vz2, evz2, h⟩ := gx_bd h
    refine gx_iald C (t := 0) rfl evz2 dX6_comeTo_22 ?_
    refine gx_icmp_ge (tgt := 64) C dX6_comeTo_23 (by decide) (fun qz3 => ?_) (fun qz3 => ?_)
    · rw [if_pos qz3] at h
      refine gx_iload_n C dX6_comeTo_64 rfl rfl ?_
      cases h
      exact gx_iret C dX6_comeTo_65
    · rw [if_neg qz3] at h
      refine gx_iload_n C dX6_comeTo_26 rfl rfl ?_
      refine gx_aload_n C dX6_comeTo_27 rfl rfl ?_
      obtain ⟨az4, eaz4, h⟩ := gx_bd h
      refine gx_get C kcX6 14 (by decide) wl_511 (gx_gd_s eaz4) dX6_comeTo_28 ?_
      refine gx_sipush (v := 1600) C dX6_comeTo_31 (by decide) ?_
      refine gx_iload_n C dX6_comeTo_34 rfl rfl ?_
      refine gx_imul C dX6_comeTo_35 ?_
      refine gx_sipush (v := 200) C dX6_comeTo_36 (by decide) ?_
      refine gx_iload_n C dX6_comeTo_39 rfl rfl ?_
      refine gx_imul C dX6_comeTo_40 ?_
      refine gx_iadd C dX6_comeTo_41 ?_
      refine gx_iload C dX6_comeTo_42 rfl ?_
      refine gx_iadd C dX6_comeTo_44 ?_
      obtain ⟨vz5, evz5, h⟩ := gx_bd h
      refine gx_lald C (t := 1) rfl evz5 dX6_comeTo_45 ?_
      refine gx_lconst (v := 0) C dX6_comeTo_46 (by decide) ?_
      refine gx_lcmp C dX6_comeTo_47 ?_
      refine gx_if_ne (tgt := 55) C dX6_comeTo_48 (by decide) (fun qz6 => ?_) (fun qz6 => ?_)
      · rw [if_neg qz6] at h
        refine gx_iconst (v := 1) C dX6_comeTo_55 (by decide) ?_
        refine gx_sub (lv2 := [some (gx_r (some a0)), some (gx_i x1), some (gx_i x2), none, some (gx_i x4)]) [true, true, true, false, true] rfl ?_
        exact gt_X6_comeTo_56 C fu (gm_X6_comeTo_10 fu  n) ih a0 x1 x2 x4 x3 (1 : Int32) X h
      · rw [if_pos qz6] at h
        refine gx_iconst (v := 0) C dX6_comeTo_51 (by decide) ?_
        refine gx_goto (tgt := 56) C dX6_comeTo_52 (by decide) ?_
        refine gx_sub (lv2 := [some (gx_r (some a0)), some (gx_i x1), some (gx_i x2), none, some (gx_i x4)]) [true, true, true, false, true] rfl ?_
        exact gt_X6_comeTo_56 C fu (gm_X6_comeTo_10 fu  n) ih a0 x1 x2 x4 x3 (0 : Int32) X h
def gm_X6_comeTo (fu : Nat) (this : Nat) (p_0 : Int32) (p_1 : Int32) (X : gx_H) : Option (Int32 × gx_H) :=
  gx_ob X this 6 <|
  (gm_X6_find fu this p_0 X).bind fun Xz8 =>
  gm_X6_comeTo_10 fu  fu this p_0 p_1 (0 : Int32) (0 : Int32) Xz8
set_option maxHeartbeats 1000000 in
set_option maxRecDepth 20000 in
theorem gc_X6_comeTo {l : Launch} {D : gx_D} (fu : Nat) (this : Nat) (p_0 : Int32) (p_1 : Int32) (X : gx_H) (r : Int32) (X2 : gx_H) (h : gm_X6_comeTo fu this p_0 p_1 X = some (r, X2)) : gx_M D gz_cl gz_at gz_tb gz_nb l yX6_comeTo cX6_comeTo 5 (some .int) 4 106 [gx_r (some this), gx_i p_0, gx_i p_1] X (some (gx_i r)) X2 0 0 := by
  unfold gm_X6_comeTo at h
  refine gx_enter [some (gx_r (some this)), some (gx_i p_0), some (gx_i p_1), none, none] rfl (by decide) (Nat.le_of_ble_eq_true rfl) ?_
  intro p e s m below meth c C _
  refine gx_aload_n C dX6_comeTo_0 rfl rfl ?_
  refine gx_iload_n C dX6_comeTo_1 rfl rfl ?_
  obtain ⟨hoz7, h⟩ := gx_obs h
  obtain ⟨Xz8, eXz8, h⟩ := gx_bd h
  refine gx_callV (As := [gx_i p_0]) (st := []) (stk2 := []) C cd_X6_find wl_627 ws_X6_find wl_625 rfl hoz7 (gc_X6_find fu this p_0 X Xz8 eXz8) rfl ⟨Nat.le_of_ble_eq_true rfl, Nat.le_of_ble_eq_true rfl⟩ ⟨Nat.le_of_ble_eq_true rfl, Nat.le_of_ble_eq_true rfl⟩ (Nat.le_of_ble_eq_true rfl) rfl rfl dX6_comeTo_2 ?_
  refine gx_iconst (v := 0) C dX6_comeTo_5 (by decide) ?_
  refine gx_istore_n (lv2 := [some (gx_r (some this)), some (gx_i p_0), some (gx_i p_1), some (gx_i (0 : Int32)), none]) C dX6_comeTo_6 rfl (by decide) rfl ?_
  refine gx_iconst (v := 0) C dX6_comeTo_7 (by decide) ?_
  refine gx_istore (lv2 := [some (gx_r (some this)), some (gx_i p_0), some (gx_i p_1), some (gx_i (0 : Int32)), some (gx_i (0 : Int32))]) C dX6_comeTo_8 (by decide) rfl ?_
  exact gt_X6_comeTo_10 C fu  fu this p_0 p_1 (0 : Int32) (0 : Int32) Xz8 h
theorem dX6_countOf_0 : decode cX6_countOf 0 = .ok (.iconst 0, 1) := by decide +kernel
theorem dX6_countOf_1 : decode cX6_countOf 1 = .ok (.istore 4, 2) := by decide +kernel
theorem dX6_countOf_3 : decode cX6_countOf 3 = .ok (.iconst 0, 1) := by decide +kernel
theorem dX6_countOf_4 : decode cX6_countOf 4 = .ok (.istore 5, 2) := by decide +kernel
theorem dX6_countOf_6 : decode cX6_countOf 6 = .ok (.iload 5, 2) := by decide +kernel
theorem dX6_countOf_8 : decode cX6_countOf 8 = .ok (.aload_n 0, 1) := by decide +kernel
theorem dX6_countOf_9 : decode cX6_countOf 9 = .ok (.getfield 25, 3) := by decide +kernel
theorem dX6_countOf_12 : decode cX6_countOf 12 = .ok (.bipush 8, 2) := by decide +kernel
theorem dX6_countOf_14 : decode cX6_countOf 14 = .ok (.iload_n 1, 1) := by decide +kernel
theorem dX6_countOf_15 : decode cX6_countOf 15 = .ok (.imul, 1) := by decide +kernel
theorem dX6_countOf_16 : decode cX6_countOf 16 = .ok (.iload_n 2, 1) := by decide +kernel
theorem dX6_countOf_17 : decode cX6_countOf 17 = .ok (.iadd, 1) := by decide +kernel
theorem dX6_countOf_18 : decode cX6_countOf 18 = .ok (.iaload, 1) := by decide +kernel
theorem dX6_countOf_19 : decode cX6_countOf 19 = .ok (.if_icmp .ge 42, 3) := by decide +kernel
theorem dX6_countOf_22 : decode cX6_countOf 22 = .ok (.iload 4, 2) := by decide +kernel
theorem dX6_countOf_24 : decode cX6_countOf 24 = .ok (.aload_n 0, 1) := by decide +kernel
theorem dX6_countOf_25 : decode cX6_countOf 25 = .ok (.getfield 31, 3) := by decide +kernel
theorem dX6_countOf_28 : decode cX6_countOf 28 = .ok (.sipush 1600, 3) := by decide +kernel
theorem dX6_countOf_31 : decode cX6_countOf 31 = .ok (.iload_n 1, 1) := by decide +kernel
theorem dX6_countOf_32 : decode cX6_countOf 32 = .ok (.imul, 1) := by decide +kernel
theorem dX6_countOf_33 : decode cX6_countOf 33 = .ok (.sipush 200, 3) := by decide +kernel
theorem dX6_countOf_36 : decode cX6_countOf 36 = .ok (.iload_n 2, 1) := by decide +kernel
theorem dX6_countOf_37 : decode cX6_countOf 37 = .ok (.imul, 1) := by decide +kernel
theorem dX6_countOf_38 : decode cX6_countOf 38 = .ok (.iadd, 1) := by decide +kernel
theorem dX6_countOf_39 : decode cX6_countOf 39 = .ok (.iload 5, 2) := by decide +kernel
theorem dX6_countOf_41 : decode cX6_countOf 41 = .ok (.iadd, 1) := by decide +kernel
theorem dX6_countOf_42 : decode cX6_countOf 42 = .ok (.iaload, 1) := by decide +kernel
theorem dX6_countOf_43 : decode cX6_countOf 43 = .ok (.iload_n 3, 1) := by decide +kernel
theorem dX6_countOf_44 : decode cX6_countOf 44 = .ok (.if_icmp .ne 7, 3) := by decide +kernel
theorem dX6_countOf_47 : decode cX6_countOf 47 = .ok (.iconst 1, 1) := by decide +kernel
theorem dX6_countOf_48 : decode cX6_countOf 48 = .ok (.goto 4, 3) := by decide +kernel
theorem dX6_countOf_51 : decode cX6_countOf 51 = .ok (.iconst 0, 1) := by decide +kernel
theorem dX6_countOf_52 : decode cX6_countOf 52 = .ok (.iadd, 1) := by decide +kernel
theorem dX6_countOf_53 : decode cX6_countOf 53 = .ok (.istore 4, 2) := by decide +kernel
theorem dX6_countOf_55 : decode cX6_countOf 55 = .ok (.iinc 5 1, 3) := by decide +kernel
theorem dX6_countOf_58 : decode cX6_countOf 58 = .ok (.goto (-52), 3) := by decide +kernel
theorem dX6_countOf_61 : decode cX6_countOf 61 = .ok (.iload 4, 2) := by decide +kernel
theorem dX6_countOf_63 : decode cX6_countOf 63 = .ok (.ireturn, 1) := by decide +kernel
def gm_X6_countOf_52 (fu : Nat) (K6 : Nat → Int32 → Int32 → Int32 → Int32 → Int32 → gx_H → Option (Int32 × gx_H)) (a0 : Nat) (x1 : Int32) (x2 : Int32) (x3 : Int32) (x5 : Int32) (sx0 : Int32) (sx1 : Int32) (X : gx_H) : Option (Int32 × gx_H) :=
  K6 a0 x1 x2 x3 (sx0 + sx1) (x5 + 1) X
set_option maxHeartbeats 1000000 in
set_option maxRecDepth 20000 in
theorem gt_X6_countOf_52 {p : Program} {l : Launch} {e : Env} {s : State} {m : MethodId} {args : Array Value} {below : List Frame} {meth : Method} {c : Code} {D : gx_D} {r : Int32} {X2 : gx_H}  (C : gx_C D gz_cl gz_at gz_tb gz_nb p s m meth c cX6_countOf 6 RX6 (some .int)) (fu : Nat) (K6 : Nat → Int32 → Int32 → Int32 → Int32 → Int32 → gx_H → Option (Int32 × gx_H)) (hK6 : ∀ (a0 : Nat) (x1 : Int32) (x2 : Int32) (x3 : Int32) (x4 : Int32) (x5 : Int32) (X : gx_H), K6 a0 x1 x2 x3 x4 x5 X = some (r, X2) → gx_W D gz_cl 6 p l e (gx_rm 0 0 0 0) s m args below meth c 0 0 (MQ below (gx_Q D gz_cl (some (gx_i r)) X2) args s 0 0 (gx_Z D)) X 6 [some (gx_r (some a0)), some (gx_i x1), some (gx_i x2), some (gx_i x3), some (gx_i x4), some (gx_i x5)] []) (a0 : Nat) (x1 : Int32) (x2 : Int32) (x3 : Int32) (x5 : Int32) (sx0 : Int32) (sx1 : Int32) (X : gx_H) (h : gm_X6_countOf_52 fu K6 a0 x1 x2 x3 x5 sx0 sx1 X = some (r, X2)) : gx_W D gz_cl 6 p l e (gx_rm 0 0 0 0) s m args below meth c 0 0 (MQ below (gx_Q D gz_cl (some (gx_i r)) X2) args s 0 0 (gx_Z D)) X 52 [some (gx_r (some a0)), some (gx_i x1), some (gx_i x2), some (gx_i x3), none, some (gx_i x5)] [gx_i sx1, gx_i sx0] := by
  unfold gm_X6_countOf_52 at h
  refine gx_iadd C dX6_countOf_52 ?_
  refine gx_istore (lv2 := [some (gx_r (some a0)), some (gx_i x1), some (gx_i x2), some (gx_i x3), some (gx_i (sx0 + sx1)), some (gx_i x5)]) C dX6_countOf_53 (by decide) rfl ?_
  refine gx_iinc (v := (x5 + 1)) (lv2 := [some (gx_r (some a0)), some (gx_i x1), some (gx_i x2), some (gx_i x3), some (gx_i (sx0 + sx1)), some (gx_i (x5 + 1))]) C dX6_countOf_55 rfl rfl (by decide) rfl ?_
  refine gx_goto (tgt := 6) C dX6_countOf_58 (by decide) ?_
  exact hK6 a0 x1 x2 x3 (sx0 + sx1) (x5 + 1) X h
def gm_X6_countOf_6 (fu : Nat) : Nat → Nat → Int32 → Int32 → Int32 → Int32 → Int32 → gx_H → Option (Int32 × gx_H)
  | 0, _, _, _, _, _, _, _ => none
  | n + 1, a0, x1, x2, x3, x4, x5, X =>
    (gx_gd X a0 6 5).bind fun az1 =>
    (gx_gai X az1 0 (((8 : Int32) * x1) + x2)).bind fun vz2 =>
    if vz2 ≤ x5 then (
    some (x4, X)) else (
    (gx_gd X a0 6 7).bind fun az4 =>
    (gx_gai X az4 0 ((((1600 : Int32) * x1) + ((200 : Int32) * x2)) + x5)).bind fun vz5 =>
    if vz5 = x3 then (
    gm_X6_countOf_52 fu (gm_X6_countOf_6 fu  n) a0 x1 x2 x3 x5 x4 (1 : Int32) X) else (
    gm_X6_countOf_52 fu (gm_X6_countOf_6 fu  n) a0 x1 x2 x3 x5 x4 (0 : Int32) X))
set_option maxHeartbeats 1000000 in
set_option maxRecDepth 20000 in
theorem gt_X6_countOf_6 {p : Program} {l : Launch} {e : Env} {s : State} {m : MethodId} {args : Array Value} {below : List Frame} {meth : Method} {c : Code} {D : gx_D} {r : Int32} {X2 : gx_H}  (C : gx_C D gz_cl gz_at gz_tb gz_nb p s m meth c cX6_countOf 6 RX6 (some .int)) (fu : Nat) : ∀ (n : Nat) (a0 : Nat) (x1 : Int32) (x2 : Int32) (x3 : Int32) (x4 : Int32) (x5 : Int32) (X : gx_H) , gm_X6_countOf_6 fu  n a0 x1 x2 x3 x4 x5 X = some (r, X2) → gx_W D gz_cl 6 p l e (gx_rm 0 0 0 0) s m args below meth c 0 0 (MQ below (gx_Q D gz_cl (some (gx_i r)) X2) args s 0 0 (gx_Z D)) X 6 [some (gx_r (some a0)), some (gx_i x1), some (gx_i x2), some (gx_i x3), some (gx_i x4), some (gx_i x5)] [] := by
  intro n
  induction n with
  | zero =>
    intro a0 x1 x2 x3 x4 x5 X h
    have h : none = some _ := h
    cases h
  | succ n ih =>
    intro a0 x1 x2 x3 x4 x5 X h
    rw [gm_X6_countOf_6] at h
    refine gx_iload C dX6_countOf_6 rfl ?_
    refine gx_aload_n C dX6_countOf_8 rfl rfl ?_
    obtain ⟨az1, eaz1, h⟩ := gx_bd h
    refine gx_get C kcX6 5 (by decide) wl_502 (gx_gd_s eaz1) dX6_countOf_9 ?_
    refine gx_bipush (v := 8) C dX6_countOf_12 (by decide) ?_
    refine gx_iload_n C dX6_countOf_14 rfl rfl ?_
    refine gx_imul C dX6_countOf_15 ?_
    refine gx_iload_n C dX6_countOf_16 rfl rfl ?_
    refine gx_iadd C dX6_countOf_17 ?_
    obtain ⟨vz2, evz2, h⟩ := gx_bd h
    refine gx_iald C (t := 0) rfl evz2 dX6_countOf_18 ?_
    refine gx_icmp_ge (tgt := 61) C dX6_countOf_19 (by decide) (fun qz3 => ?_) (fun qz3 => ?_)
    · rw [if_pos qz3] at h
      refine gx_iload C dX6_countOf_61 rfl ?_
      cases h
      exact gx_iret C dX6_countOf_63
    · rw [if_neg qz3] at h
      refine gx_iload C dX6_countOf_22 rfl ?_
      refine gx_aload_n C dX6_countOf_24 rfl rfl ?_
      obtain ⟨az4, eaz4, h⟩ := gx_bd h
      refine gx_get C kcX6 7 (by decide) wl_504 (gx_gd_s eaz4) dX6_countOf_25 ?_
      refine gx_sipush (v := 1600) C dX6_countOf_28 (by decide) ?_
      refine gx_iload_n C dX6_countOf_31 rfl rfl ?_
      refine gx_imul C dX6_countOf_32 ?_
      refine gx_sipush (v := 200) C dX6_countOf_33 (by decide) ?_
      refine gx_iload_n C dX6_countOf_36 rfl rfl ?_
      refine gx_imul C dX6_countOf_37 ?_
      refine gx_iadd C dX6_countOf_38 ?_
      refine gx_iload C dX6_countOf_39 rfl ?_
      refine gx_iadd C dX6_countOf_41 ?_
      obtain ⟨vz5, evz5, h⟩ := gx_bd h
      refine gx_iald C (t := 0) rfl evz5 dX6_countOf_42 ?_
      refine gx_iload_n C dX6_countOf_43 rfl rfl ?_
      refine gx_icmp_ne (tgt := 51) C dX6_countOf_44 (by decide) (fun qz6 => ?_) (fun qz6 => ?_)
      · rw [if_neg qz6] at h
        refine gx_iconst (v := 0) C dX6_countOf_51 (by decide) ?_
        refine gx_sub (lv2 := [some (gx_r (some a0)), some (gx_i x1), some (gx_i x2), some (gx_i x3), none, some (gx_i x5)]) [true, true, true, true, false, true] rfl ?_
        exact gt_X6_countOf_52 C fu (gm_X6_countOf_6 fu  n) ih a0 x1 x2 x3 x5 x4 (0 : Int32) X h
      · rw [if_pos qz6] at h
        refine gx_iconst (v := 1) C dX6_countOf_47 (by decide) ?_
        refine gx_goto (tgt := 52) C dX6_countOf_48 (by decide) ?_
        refine gx_sub (lv2 := [some (gx_r (some a0)), some (gx_i x1), some (gx_i x2), some (gx_i x3), none, some (gx_i x5)]) [true, true, true, true, false, true] rfl ?_
        exact gt_X6_countOf_52 C fu (gm_X6_countOf_6 fu  n) ih a0 x1 x2 x3 x5 x4 (1 : Int32) X h
def gm_X6_countOf (fu : Nat) (this : Nat) (p_0 : Int32) (p_1 : Int32) (p_2 : Int32) (X : gx_H) : Option (Int32 × gx_H) :=
  gm_X6_countOf_6 fu  fu this p_0 p_1 p_2 (0 : Int32) (0 : Int32) X
set_option maxHeartbeats 1000000 in
set_option maxRecDepth 20000 in
theorem gc_X6_countOf {l : Launch} {D : gx_D} (fu : Nat) (this : Nat) (p_0 : Int32) (p_1 : Int32) (p_2 : Int32) (X : gx_H) (r : Int32) (X2 : gx_H) (h : gm_X6_countOf fu this p_0 p_1 p_2 X = some (r, X2)) : gx_M D gz_cl gz_at gz_tb gz_nb l yX6_countOf cX6_countOf 6 (some .int) 0 0 [gx_r (some this), gx_i p_0, gx_i p_1, gx_i p_2] X (some (gx_i r)) X2 0 0 := by
  unfold gm_X6_countOf at h
  refine gx_enter [some (gx_r (some this)), some (gx_i p_0), some (gx_i p_1), some (gx_i p_2), none, none] rfl (by decide) (Nat.le_of_ble_eq_true rfl) ?_
  intro p e s m below meth c C _
  refine gx_iconst (v := 0) C dX6_countOf_0 (by decide) ?_
  refine gx_istore (lv2 := [some (gx_r (some this)), some (gx_i p_0), some (gx_i p_1), some (gx_i p_2), some (gx_i (0 : Int32)), none]) C dX6_countOf_1 (by decide) rfl ?_
  refine gx_iconst (v := 0) C dX6_countOf_3 (by decide) ?_
  refine gx_istore (lv2 := [some (gx_r (some this)), some (gx_i p_0), some (gx_i p_1), some (gx_i p_2), some (gx_i (0 : Int32)), some (gx_i (0 : Int32))]) C dX6_countOf_4 (by decide) rfl ?_
  exact gt_X6_countOf_6 C fu  fu this p_0 p_1 p_2 (0 : Int32) (0 : Int32) X h
theorem dX6_lacking_0 : decode cX6_lacking 0 = .ok (.iconst 0, 1) := by decide +kernel
theorem dX6_lacking_1 : decode cX6_lacking 1 = .ok (.istore_n 2, 1) := by decide +kernel
theorem dX6_lacking_2 : decode cX6_lacking 2 = .ok (.iconst 0, 1) := by decide +kernel
theorem dX6_lacking_3 : decode cX6_lacking 3 = .ok (.istore_n 3, 1) := by decide +kernel
theorem dX6_lacking_4 : decode cX6_lacking 4 = .ok (.iload_n 3, 1) := by decide +kernel
theorem dX6_lacking_5 : decode cX6_lacking 5 = .ok (.aload_n 0, 1) := by decide +kernel
theorem dX6_lacking_6 : decode cX6_lacking 6 = .ok (.getfield 25, 3) := by decide +kernel
theorem dX6_lacking_9 : decode cX6_lacking 9 = .ok (.iload_n 1, 1) := by decide +kernel
theorem dX6_lacking_10 : decode cX6_lacking 10 = .ok (.iaload, 1) := by decide +kernel
theorem dX6_lacking_11 : decode cX6_lacking 11 = .ok (.if_icmp .ge 27, 3) := by decide +kernel
theorem dX6_lacking_14 : decode cX6_lacking 14 = .ok (.iload_n 2, 1) := by decide +kernel
theorem dX6_lacking_15 : decode cX6_lacking 15 = .ok (.aload_n 0, 1) := by decide +kernel
theorem dX6_lacking_16 : decode cX6_lacking 16 = .ok (.iconst 0, 1) := by decide +kernel
theorem dX6_lacking_17 : decode cX6_lacking 17 = .ok (.iload_n 1, 1) := by decide +kernel
theorem dX6_lacking_18 : decode cX6_lacking 18 = .ok (.iload_n 3, 1) := by decide +kernel
theorem dX6_lacking_19 : decode cX6_lacking 19 = .ok (.invokevirtual 122, 3) := by decide +kernel
theorem dX6_lacking_22 : decode cX6_lacking 22 = .ok (.ifCond .eq 7, 3) := by decide +kernel
theorem dX6_lacking_25 : decode cX6_lacking 25 = .ok (.iconst 1, 1) := by decide +kernel
theorem dX6_lacking_26 : decode cX6_lacking 26 = .ok (.goto 4, 3) := by decide +kernel
theorem dX6_lacking_29 : decode cX6_lacking 29 = .ok (.iconst 0, 1) := by decide +kernel
theorem dX6_lacking_30 : decode cX6_lacking 30 = .ok (.iadd, 1) := by decide +kernel
theorem dX6_lacking_31 : decode cX6_lacking 31 = .ok (.istore_n 2, 1) := by decide +kernel
theorem dX6_lacking_32 : decode cX6_lacking 32 = .ok (.iinc 3 1, 3) := by decide +kernel
theorem dX6_lacking_35 : decode cX6_lacking 35 = .ok (.goto (-31), 3) := by decide +kernel
theorem dX6_lacking_38 : decode cX6_lacking 38 = .ok (.iload_n 2, 1) := by decide +kernel
theorem dX6_lacking_39 : decode cX6_lacking 39 = .ok (.ireturn, 1) := by decide +kernel
def gm_X6_lacking_30 (fu : Nat) (K4 : Nat → Int32 → Int32 → Int32 → gx_H → Option (Int32 × gx_H)) (a0 : Nat) (x1 : Int32) (x3 : Int32) (sx0 : Int32) (sx1 : Int32) (X : gx_H) : Option (Int32 × gx_H) :=
  K4 a0 x1 (sx0 + sx1) (x3 + 1) X
set_option maxHeartbeats 1000000 in
set_option maxRecDepth 20000 in
theorem gt_X6_lacking_30 {p : Program} {l : Launch} {e : Env} {s : State} {m : MethodId} {args : Array Value} {below : List Frame} {meth : Method} {c : Code} {D : gx_D} {r : Int32} {X2 : gx_H}  (C : gx_C D gz_cl gz_at gz_tb gz_nb p s m meth c cX6_lacking 4 RX6 (some .int)) (fu : Nat) (K4 : Nat → Int32 → Int32 → Int32 → gx_H → Option (Int32 × gx_H)) (hK4 : ∀ (a0 : Nat) (x1 : Int32) (x2 : Int32) (x3 : Int32) (X : gx_H), K4 a0 x1 x2 x3 X = some (r, X2) → gx_W D gz_cl 4 p l e (gx_rm 6 158 0 0) s m args below meth c 0 0 (MQ below (gx_Q D gz_cl (some (gx_i r)) X2) args s 0 0 (gx_Z D)) X 4 [some (gx_r (some a0)), some (gx_i x1), some (gx_i x2), some (gx_i x3)] []) (a0 : Nat) (x1 : Int32) (x3 : Int32) (sx0 : Int32) (sx1 : Int32) (X : gx_H) (h : gm_X6_lacking_30 fu K4 a0 x1 x3 sx0 sx1 X = some (r, X2)) : gx_W D gz_cl 4 p l e (gx_rm 6 158 0 0) s m args below meth c 0 0 (MQ below (gx_Q D gz_cl (some (gx_i r)) X2) args s 0 0 (gx_Z D)) X 30 [some (gx_r (some a0)), some (gx_i x1), none, some (gx_i x3)] [gx_i sx1, gx_i sx0] := by
  unfold gm_X6_lacking_30 at h
  refine gx_iadd C dX6_lacking_30 ?_
  refine gx_istore_n (lv2 := [some (gx_r (some a0)), some (gx_i x1), some (gx_i (sx0 + sx1)), some (gx_i x3)]) C dX6_lacking_31 rfl (by decide) rfl ?_
  refine gx_iinc (v := (x3 + 1)) (lv2 := [some (gx_r (some a0)), some (gx_i x1), some (gx_i (sx0 + sx1)), some (gx_i (x3 + 1))]) C dX6_lacking_32 rfl rfl (by decide) rfl ?_
  refine gx_goto (tgt := 4) C dX6_lacking_35 (by decide) ?_
  exact hK4 a0 x1 (sx0 + sx1) (x3 + 1) X h
def gm_X6_lacking_4 (fu : Nat) : Nat → Nat → Int32 → Int32 → Int32 → gx_H → Option (Int32 × gx_H)
  | 0, _, _, _, _, _ => none
  | n + 1, a0, x1, x2, x3, X =>
    (gx_gd X a0 6 5).bind fun az1 =>
    (gx_gai X az1 0 x1).bind fun vz2 =>
    if vz2 ≤ x3 then (
    some (x2, X)) else (
    gx_ob X a0 6 <|
    gx_b2 (gm_X6_lacks fu a0 (0 : Int32) x1 x3 X) fun vz6 Xz5 =>
    if vz6 = 0 then (
    gm_X6_lacking_30 fu (gm_X6_lacking_4 fu  n) a0 x1 x3 x2 (0 : Int32) Xz5) else (
    gm_X6_lacking_30 fu (gm_X6_lacking_4 fu  n) a0 x1 x3 x2 (1 : Int32) Xz5))
set_option maxHeartbeats 1000000 in
set_option maxRecDepth 20000 in
theorem gt_X6_lacking_4 {p : Program} {l : Launch} {e : Env} {s : State} {m : MethodId} {args : Array Value} {below : List Frame} {meth : Method} {c : Code} {D : gx_D} {r : Int32} {X2 : gx_H}  (C : gx_C D gz_cl gz_at gz_tb gz_nb p s m meth c cX6_lacking 4 RX6 (some .int)) (fu : Nat) : ∀ (n : Nat) (a0 : Nat) (x1 : Int32) (x2 : Int32) (x3 : Int32) (X : gx_H) , gm_X6_lacking_4 fu  n a0 x1 x2 x3 X = some (r, X2) → gx_W D gz_cl 4 p l e (gx_rm 6 158 0 0) s m args below meth c 0 0 (MQ below (gx_Q D gz_cl (some (gx_i r)) X2) args s 0 0 (gx_Z D)) X 4 [some (gx_r (some a0)), some (gx_i x1), some (gx_i x2), some (gx_i x3)] [] := by
  intro n
  induction n with
  | zero =>
    intro a0 x1 x2 x3 X h
    have h : none = some _ := h
    cases h
  | succ n ih =>
    intro a0 x1 x2 x3 X h
    rw [gm_X6_lacking_4] at h
    refine gx_iload_n C dX6_lacking_4 rfl rfl ?_
    refine gx_aload_n C dX6_lacking_5 rfl rfl ?_
    obtain ⟨az1, eaz1, h⟩ := gx_bd h
    refine gx_get C kcX6 5 (by decide) wl_502 (gx_gd_s eaz1) dX6_lacking_6 ?_
    refine gx_iload_n C dX6_lacking_9 rfl rfl ?_
    obtain ⟨vz2, evz2, h⟩ := gx_bd h
    refine gx_iald C (t := 0) rfl evz2 dX6_lacking_10 ?_
    refine gx_icmp_ge (tgt := 38) C dX6_lacking_11 (by decide) (fun qz3 => ?_) (fun qz3 => ?_)
    · rw [if_pos qz3] at h
      refine gx_iload_n C dX6_lacking_38 rfl rfl ?_
      cases h
      exact gx_iret C dX6_lacking_39
    · rw [if_neg qz3] at h
      refine gx_iload_n C dX6_lacking_14 rfl rfl ?_
      refine gx_aload_n C dX6_lacking_15 rfl rfl ?_
      refine gx_iconst (v := 0) C dX6_lacking_16 (by decide) ?_
      refine gx_iload_n C dX6_lacking_17 rfl rfl ?_
      refine gx_iload_n C dX6_lacking_18 rfl rfl ?_
      obtain ⟨hoz4, h⟩ := gx_obs h
      obtain ⟨vz6, Xz5, eXz5, h⟩ := gx_bd2 h
      refine gx_callV (As := [gx_i (0 : Int32), gx_i x1, gx_i x3]) (st := [gx_i x2]) (stk2 := [gx_i vz6, gx_i x2]) C cd_X6_lacks wl_619 ws_X6_lacks wl_617 rfl hoz4 (gc_X6_lacks fu a0 (0 : Int32) x1 x3 X vz6 Xz5 eXz5) rfl ⟨Nat.le_of_ble_eq_true rfl, Nat.le_of_ble_eq_true rfl⟩ ⟨Nat.le_of_ble_eq_true rfl, Nat.le_of_ble_eq_true rfl⟩ (Nat.le_of_ble_eq_true rfl) rfl rfl dX6_lacking_19 ?_
      refine gx_if_eq (tgt := 29) C dX6_lacking_22 (by decide) (fun qz7 => ?_) (fun qz7 => ?_)
      · rw [if_pos qz7] at h
        refine gx_iconst (v := 0) C dX6_lacking_29 (by decide) ?_
        refine gx_sub (lv2 := [some (gx_r (some a0)), some (gx_i x1), none, some (gx_i x3)]) [true, true, false, true] rfl ?_
        exact gt_X6_lacking_30 C fu (gm_X6_lacking_4 fu  n) ih a0 x1 x3 x2 (0 : Int32) Xz5 h
      · rw [if_neg qz7] at h
        refine gx_iconst (v := 1) C dX6_lacking_25 (by decide) ?_
        refine gx_goto (tgt := 30) C dX6_lacking_26 (by decide) ?_
        refine gx_sub (lv2 := [some (gx_r (some a0)), some (gx_i x1), none, some (gx_i x3)]) [true, true, false, true] rfl ?_
        exact gt_X6_lacking_30 C fu (gm_X6_lacking_4 fu  n) ih a0 x1 x3 x2 (1 : Int32) Xz5 h
def gm_X6_lacking (fu : Nat) (this : Nat) (p_0 : Int32) (X : gx_H) : Option (Int32 × gx_H) :=
  gm_X6_lacking_4 fu  fu this p_0 (0 : Int32) (0 : Int32) X
set_option maxHeartbeats 1000000 in
set_option maxRecDepth 20000 in
theorem gc_X6_lacking {l : Launch} {D : gx_D} (fu : Nat) (this : Nat) (p_0 : Int32) (X : gx_H) (r : Int32) (X2 : gx_H) (h : gm_X6_lacking fu this p_0 X = some (r, X2)) : gx_M D gz_cl gz_at gz_tb gz_nb l yX6_lacking cX6_lacking 4 (some .int) 6 158 [gx_r (some this), gx_i p_0] X (some (gx_i r)) X2 0 0 := by
  unfold gm_X6_lacking at h
  refine gx_enter [some (gx_r (some this)), some (gx_i p_0), none, none] rfl (by decide) (Nat.le_of_ble_eq_true rfl) ?_
  intro p e s m below meth c C _
  refine gx_iconst (v := 0) C dX6_lacking_0 (by decide) ?_
  refine gx_istore_n (lv2 := [some (gx_r (some this)), some (gx_i p_0), some (gx_i (0 : Int32)), none]) C dX6_lacking_1 rfl (by decide) rfl ?_
  refine gx_iconst (v := 0) C dX6_lacking_2 (by decide) ?_
  refine gx_istore_n (lv2 := [some (gx_r (some this)), some (gx_i p_0), some (gx_i (0 : Int32)), some (gx_i (0 : Int32))]) C dX6_lacking_3 rfl (by decide) rfl ?_
  exact gt_X6_lacking_4 C fu  fu this p_0 (0 : Int32) (0 : Int32) X h
