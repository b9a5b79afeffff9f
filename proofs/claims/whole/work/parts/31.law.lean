def gm_L_law_804 (fu : Nat) (xs : Nat → Int32) (L : Nat) (K18 : Nat → Nat → Int32 → gx_H → Option (Int32 × gx_H × Nat × Nat)) (a1 : Nat) (a2 : Nat) (x3 : Int32) (X : gx_H) : Option (Int32 × gx_H × Nat × Nat) :=
  K18 a1 a2 (x3 + 5) X
set_option maxHeartbeats 1000000 in
set_option maxRecDepth 20000 in
theorem gt_L_law_804 {p : Program} {l : Launch} {e : Env} {s : State} {m : MethodId} {below : List Frame} {meth : Method} {c : Code} {D : gx_D} {b L : Nat} {xs : Nat → Int32} {X2 : gx_H} (C : gx_C D gz_cl gz_at gz_tb gz_nb p s m meth c code 4 R_law (some .boolean)) (hX : va_X b L xs s s.heap) (hbl : b < s.heap.size) (hbD : D.2.2 = s.heap.size) (fu : Nat) (K18 : Nat → Nat → Int32 → gx_H → Option (Int32 × gx_H × Nat × Nat)) (hK18 : ∀ (a1 : Nat) (a2 : Nat) (x3 : Int32) (X : gx_H) (cells slots nc ns : Nat), K18 a1 a2 x3 X = some (1, X2, nc, ns) → cells + nc ≤ 600000 → slots + ns ≤ 7302250 → gx_W D gz_cl 4 p l e room_1 s m #[Value.ref b] below meth c cells slots (lw_Z below #[Value.ref b] s) X 18 [some (gx_r (some b)), some (gx_r (some a1)), some (gx_r (some a2)), some (gx_i x3)] []) (a1 : Nat) (a2 : Nat) (x3 : Int32) (X : gx_H) (cells slots nc ns : Nat) (h : gm_L_law_804 fu xs L K18 a1 a2 x3 X = some (1, X2, nc, ns)) (h1 : cells + nc ≤ 600000) (h2 : slots + ns ≤ 7302250) : gx_W D gz_cl 4 p l e room_1 s m #[Value.ref b] below meth c cells slots (lw_Z below #[Value.ref b] s) X 804 [some (gx_r (some b)), some (gx_r (some a1)), some (gx_r (some a2)), some (gx_i x3)] [] := by
  unfold gm_L_law_804 at h
  refine gx_iinc (v := (x3 + 5)) (lv2 := [some (gx_r (some b)), some (gx_r (some a1)), some (gx_r (some a2)), some (gx_i (x3 + 5))]) C dL_law_804 rfl rfl (by decide) rfl ?_
  refine gx_goto (tgt := 18) C dL_law_807 (by decide) ?_
  exact hK18 a1 a2 (x3 + 5) X cells slots _ _ h (by omega) (by omega)
def gm_L_law_219 (fu : Nat) (xs : Nat → Int32) (L : Nat) (K18 : Nat → Nat → Int32 → gx_H → Option (Int32 × gx_H × Nat × Nat)) (a1 : Nat) (a2 : Nat) (x3 : Int32) (sx0 : Int32) (sa1 : Nat) (sx2 : Int32) (sx3 : Int32) (X : gx_H) : Option (Int32 × gx_H × Nat × Nat) :=
  gx_ob X sa1 6 <|
  gx_b2 (gm_X6_always fu sa1 sx2 sx3 X) fun vz3 Xz2 =>
  if sx0 = vz3 then (
  gm_L_law_804 fu xs L K18 a1 a2 x3 Xz2) else (
  some ((0 : Int32), Xz2, 0, 0))
set_option maxHeartbeats 1000000 in
set_option maxRecDepth 20000 in
theorem gt_L_law_219 {p : Program} {l : Launch} {e : Env} {s : State} {m : MethodId} {below : List Frame} {meth : Method} {c : Code} {D : gx_D} {b L : Nat} {xs : Nat → Int32} {X2 : gx_H} (C : gx_C D gz_cl gz_at gz_tb gz_nb p s m meth c code 4 R_law (some .boolean)) (hX : va_X b L xs s s.heap) (hbl : b < s.heap.size) (hbD : D.2.2 = s.heap.size) (fu : Nat) (K18 : Nat → Nat → Int32 → gx_H → Option (Int32 × gx_H × Nat × Nat)) (hK18 : ∀ (a1 : Nat) (a2 : Nat) (x3 : Int32) (X : gx_H) (cells slots nc ns : Nat), K18 a1 a2 x3 X = some (1, X2, nc, ns) → cells + nc ≤ 600000 → slots + ns ≤ 7302250 → gx_W D gz_cl 4 p l e room_1 s m #[Value.ref b] below meth c cells slots (lw_Z below #[Value.ref b] s) X 18 [some (gx_r (some b)), some (gx_r (some a1)), some (gx_r (some a2)), some (gx_i x3)] []) (a1 : Nat) (a2 : Nat) (x3 : Int32) (sx0 : Int32) (sa1 : Nat) (sx2 : Int32) (sx3 : Int32) (X : gx_H) (cells slots nc ns : Nat) (h : gm_L_law_219 fu xs L K18 a1 a2 x3 sx0 sa1 sx2 sx3 X = some (1, X2, nc, ns)) (h1 : cells + nc ≤ 600000) (h2 : slots + ns ≤ 7302250) : gx_W D gz_cl 4 p l e room_1 s m #[Value.ref b] below meth c cells slots (lw_Z below #[Value.ref b] s) X 219 [some (gx_r (some b)), some (gx_r (some a1)), some (gx_r (some a2)), some (gx_i x3)] [gx_i sx3, gx_i sx2, gx_r (some sa1), gx_i sx0] := by
  unfold gm_L_law_219 at h
  obtain ⟨hoz1, h⟩ := gx_obs h
  obtain ⟨vz3, Xz2, eXz2, h⟩ := gx_bd2 h
  refine gx_callV (As := [gx_i sx2, gx_i sx3]) (st := [gx_i sx0]) (stk2 := [gx_i vz3, gx_i sx0]) C cd_X6_always wl_586 ws_X6_always wl_585 rfl hoz1 (gc_X6_always fu sa1 sx2 sx3 X vz3 Xz2 eXz2) rfl ⟨Nat.le_of_ble_eq_true rfl, Nat.le_of_ble_eq_true rfl⟩ ⟨show cells + 0 ≤ 600000 by omega, show slots + 0 ≤ 7302250 by omega⟩ (Nat.le_of_ble_eq_true rfl) rfl rfl dL_law_219 ?_
  refine gx_icmp_eq (tgt := 804) C dL_law_222 (by decide) (fun qz4 => ?_) (fun qz4 => ?_)
  · rw [if_pos qz4] at h
    exact gt_L_law_804 C hX hbl hbD fu K18 hK18 a1 a2 x3 Xz2 (cells + 0) (slots + 0) _ _ h (by omega) (by omega)
  · rw [if_neg qz4] at h
    refine gx_iconst (v := 0) C dL_law_225 (by decide) ?_
    exact absurd (Prod.mk.inj (Option.some.inj h)).1 (by decide)
def gm_L_law_197 (fu : Nat) (xs : Nat → Int32) (L : Nat) (K18 : Nat → Nat → Int32 → gx_H → Option (Int32 × gx_H × Nat × Nat)) (a1 : Nat) (a2 : Nat) (x3 : Int32) (sa0 : Nat) (sx1 : Int32) (sx2 : Int32) (X : gx_H) : Option (Int32 × gx_H × Nat × Nat) :=
  gx_ob X sa0 5 <|
  gx_b2 (gm_X5_always fu sa0 sx1 sx2 X) fun vz7 Xz6 =>
  (gx_scr xs L (x3 + (1 : Int32))).bind fun vz8 =>
  (gx_scr xs L (x3 + (2 : Int32))).bind fun vz9 =>
  if vz9 = 0 then (
  gm_L_law_219 fu xs L K18 a1 a2 x3 vz7 a2 vz8 (0 : Int32) Xz6) else (
  gm_L_law_219 fu xs L K18 a1 a2 x3 vz7 a2 vz8 (1 : Int32) Xz6)
set_option maxHeartbeats 1000000 in
set_option maxRecDepth 20000 in
theorem gt_L_law_197 {p : Program} {l : Launch} {e : Env} {s : State} {m : MethodId} {below : List Frame} {meth : Method} {c : Code} {D : gx_D} {b L : Nat} {xs : Nat → Int32} {X2 : gx_H} (C : gx_C D gz_cl gz_at gz_tb gz_nb p s m meth c code 4 R_law (some .boolean)) (hX : va_X b L xs s s.heap) (hbl : b < s.heap.size) (hbD : D.2.2 = s.heap.size) (fu : Nat) (K18 : Nat → Nat → Int32 → gx_H → Option (Int32 × gx_H × Nat × Nat)) (hK18 : ∀ (a1 : Nat) (a2 : Nat) (x3 : Int32) (X : gx_H) (cells slots nc ns : Nat), K18 a1 a2 x3 X = some (1, X2, nc, ns) → cells + nc ≤ 600000 → slots + ns ≤ 7302250 → gx_W D gz_cl 4 p l e room_1 s m #[Value.ref b] below meth c cells slots (lw_Z below #[Value.ref b] s) X 18 [some (gx_r (some b)), some (gx_r (some a1)), some (gx_r (some a2)), some (gx_i x3)] []) (a1 : Nat) (a2 : Nat) (x3 : Int32) (sa0 : Nat) (sx1 : Int32) (sx2 : Int32) (X : gx_H) (cells slots nc ns : Nat) (h : gm_L_law_197 fu xs L K18 a1 a2 x3 sa0 sx1 sx2 X = some (1, X2, nc, ns)) (h1 : cells + nc ≤ 600000) (h2 : slots + ns ≤ 7302250) : gx_W D gz_cl 4 p l e room_1 s m #[Value.ref b] below meth c cells slots (lw_Z below #[Value.ref b] s) X 197 [some (gx_r (some b)), some (gx_r (some a1)), some (gx_r (some a2)), some (gx_i x3)] [gx_i sx2, gx_i sx1, gx_r (some sa0)] := by
  unfold gm_L_law_197 at h
  obtain ⟨hoz5, h⟩ := gx_obs h
  obtain ⟨vz7, Xz6, eXz6, h⟩ := gx_bd2 h
  refine gx_callV (As := [gx_i sx1, gx_i sx2]) (st := []) (stk2 := [gx_i vz7]) C cd_X5_always wl_162 ws_X5_always wl_161 rfl hoz5 (gc_X5_always fu sa0 sx1 sx2 X vz7 Xz6 eXz6) rfl ⟨Nat.le_of_ble_eq_true rfl, Nat.le_of_ble_eq_true rfl⟩ ⟨show cells + 0 ≤ 600000 by omega, show slots + 0 ≤ 7302250 by omega⟩ (Nat.le_of_ble_eq_true rfl) rfl rfl dL_law_197 ?_
  refine gx_aload_n C dL_law_200 rfl rfl ?_
  refine gx_aload_n C dL_law_201 rfl rfl ?_
  refine gx_iload_n C dL_law_202 rfl rfl ?_
  refine gx_iconst (v := 1) C dL_law_203 (by decide) ?_
  refine gx_iadd C dL_law_204 ?_
  obtain ⟨vz8, evz8, h⟩ := gx_bd h
  refine gx_sld C hX hbl hbD evz8 dL_law_205 ?_
  refine gx_aload_n C dL_law_206 rfl rfl ?_
  refine gx_iload_n C dL_law_207 rfl rfl ?_
  refine gx_iconst (v := 2) C dL_law_208 (by decide) ?_
  refine gx_iadd C dL_law_209 ?_
  obtain ⟨vz9, evz9, h⟩ := gx_bd h
  refine gx_sld C hX hbl hbD evz9 dL_law_210 ?_
  refine gx_if_eq (tgt := 218) C dL_law_211 (by decide) (fun qz10 => ?_) (fun qz10 => ?_)
  · rw [if_pos qz10] at h
    refine gx_iconst (v := 0) C dL_law_218 (by decide) ?_
    exact gt_L_law_219 C hX hbl hbD fu K18 hK18 a1 a2 x3 vz7 a2 vz8 (0 : Int32) Xz6 (cells + 0) (slots + 0) _ _ h (by omega) (by omega)
  · rw [if_neg qz10] at h
    refine gx_iconst (v := 1) C dL_law_214 (by decide) ?_
    refine gx_goto (tgt := 219) C dL_law_215 (by decide) ?_
    exact gt_L_law_219 C hX hbl hbD fu K18 hK18 a1 a2 x3 vz7 a2 vz8 (1 : Int32) Xz6 (cells + 0) (slots + 0) _ _ h (by omega) (by omega)
def gm_L_law_413 (fu : Nat) (xs : Nat → Int32) (L : Nat) (K18 : Nat → Nat → Int32 → gx_H → Option (Int32 × gx_H × Nat × Nat)) (a1 : Nat) (a2 : Nat) (x3 : Int32) (sx0 : Int32) (sa1 : Nat) (sx2 : Int32) (X : gx_H) : Option (Int32 × gx_H × Nat × Nat) :=
  gx_ob X sa1 6 <|
  gx_b2 (gm_X6_certify fu sa1 sx2 X) fun vz13 Xz12 =>
  if sx0 = vz13 then (
  gm_L_law_804 fu xs L K18 a1 a2 x3 Xz12) else (
  some ((0 : Int32), Xz12, 0, 0))
set_option maxHeartbeats 1000000 in
set_option maxRecDepth 20000 in
theorem gt_L_law_413 {p : Program} {l : Launch} {e : Env} {s : State} {m : MethodId} {below : List Frame} {meth : Method} {c : Code} {D : gx_D} {b L : Nat} {xs : Nat → Int32} {X2 : gx_H} (C : gx_C D gz_cl gz_at gz_tb gz_nb p s m meth c code 4 R_law (some .boolean)) (hX : va_X b L xs s s.heap) (hbl : b < s.heap.size) (hbD : D.2.2 = s.heap.size) (fu : Nat) (K18 : Nat → Nat → Int32 → gx_H → Option (Int32 × gx_H × Nat × Nat)) (hK18 : ∀ (a1 : Nat) (a2 : Nat) (x3 : Int32) (X : gx_H) (cells slots nc ns : Nat), K18 a1 a2 x3 X = some (1, X2, nc, ns) → cells + nc ≤ 600000 → slots + ns ≤ 7302250 → gx_W D gz_cl 4 p l e room_1 s m #[Value.ref b] below meth c cells slots (lw_Z below #[Value.ref b] s) X 18 [some (gx_r (some b)), some (gx_r (some a1)), some (gx_r (some a2)), some (gx_i x3)] []) (a1 : Nat) (a2 : Nat) (x3 : Int32) (sx0 : Int32) (sa1 : Nat) (sx2 : Int32) (X : gx_H) (cells slots nc ns : Nat) (h : gm_L_law_413 fu xs L K18 a1 a2 x3 sx0 sa1 sx2 X = some (1, X2, nc, ns)) (h1 : cells + nc ≤ 600000) (h2 : slots + ns ≤ 7302250) : gx_W D gz_cl 4 p l e room_1 s m #[Value.ref b] below meth c cells slots (lw_Z below #[Value.ref b] s) X 413 [some (gx_r (some b)), some (gx_r (some a1)), some (gx_r (some a2)), some (gx_i x3)] [gx_i sx2, gx_r (some sa1), gx_i sx0] := by
  unfold gm_L_law_413 at h
  obtain ⟨hoz11, h⟩ := gx_obs h
  obtain ⟨vz13, Xz12, eXz12, h⟩ := gx_bd2 h
  refine gx_callV (As := [gx_i sx2]) (st := [gx_i sx0]) (stk2 := [gx_i vz13, gx_i sx0]) C cd_X6_certify wl_658 ws_X6_certify wl_657 rfl hoz11 (gc_X6_certify fu sa1 sx2 X vz13 Xz12 eXz12) rfl ⟨Nat.le_of_ble_eq_true rfl, Nat.le_of_ble_eq_true rfl⟩ ⟨show cells + 0 ≤ 600000 by omega, show slots + 0 ≤ 7302250 by omega⟩ (Nat.le_of_ble_eq_true rfl) rfl rfl dL_law_413 ?_
  refine gx_icmp_eq (tgt := 804) C dL_law_416 (by decide) (fun qz14 => ?_) (fun qz14 => ?_)
  · rw [if_pos qz14] at h
    exact gt_L_law_804 C hX hbl hbD fu K18 hK18 a1 a2 x3 Xz12 (cells + 0) (slots + 0) _ _ h (by omega) (by omega)
  · rw [if_neg qz14] at h
    refine gx_iconst (v := 0) C dL_law_419 (by decide) ?_
    exact absurd (Prod.mk.inj (Option.some.inj h)).1 (by decide)
def gm_L_law_396 (fu : Nat) (xs : Nat → Int32) (L : Nat) (K18 : Nat → Nat → Int32 → gx_H → Option (Int32 × gx_H × Nat × Nat)) (a1 : Nat) (a2 : Nat) (x3 : Int32) (sa0 : Nat) (sx1 : Int32) (X : gx_H) : Option (Int32 × gx_H × Nat × Nat) :=
  gx_ob X sa0 5 <|
  gx_b2 (gm_X5_certify fu sa0 sx1 X) fun vz17 Xz16 =>
  (gx_scr xs L (x3 + (1 : Int32))).bind fun vz18 =>
  if vz18 = 0 then (
  gm_L_law_413 fu xs L K18 a1 a2 x3 vz17 a2 (0 : Int32) Xz16) else (
  gm_L_law_413 fu xs L K18 a1 a2 x3 vz17 a2 (1 : Int32) Xz16)
set_option maxHeartbeats 1000000 in
set_option maxRecDepth 20000 in
theorem gt_L_law_396 {p : Program} {l : Launch} {e : Env} {s : State} {m : MethodId} {below : List Frame} {meth : Method} {c : Code} {D : gx_D} {b L : Nat} {xs : Nat → Int32} {X2 : gx_H} (C : gx_C D gz_cl gz_at gz_tb gz_nb p s m meth c code 4 R_law (some .boolean)) (hX : va_X b L xs s s.heap) (hbl : b < s.heap.size) (hbD : D.2.2 = s.heap.size) (fu : Nat) (K18 : Nat → Nat → Int32 → gx_H → Option (Int32 × gx_H × Nat × Nat)) (hK18 : ∀ (a1 : Nat) (a2 : Nat) (x3 : Int32) (X : gx_H) (cells slots nc ns : Nat), K18 a1 a2 x3 X = some (1, X2, nc, ns) → cells + nc ≤ 600000 → slots + ns ≤ 7302250 → gx_W D gz_cl 4 p l e room_1 s m #[Value.ref b] below meth c cells slots (lw_Z below #[Value.ref b] s) X 18 [some (gx_r (some b)), some (gx_r (some a1)), some (gx_r (some a2)), some (gx_i x3)] []) (a1 : Nat) (a2 : Nat) (x3 : Int32) (sa0 : Nat) (sx1 : Int32) (X : gx_H) (cells slots nc ns : Nat) (h : gm_L_law_396 fu xs L K18 a1 a2 x3 sa0 sx1 X = some (1, X2, nc, ns)) (h1 : cells + nc ≤ 600000) (h2 : slots + ns ≤ 7302250) : gx_W D gz_cl 4 p l e room_1 s m #[Value.ref b] below meth c cells slots (lw_Z below #[Value.ref b] s) X 396 [some (gx_r (some b)), some (gx_r (some a1)), some (gx_r (some a2)), some (gx_i x3)] [gx_i sx1, gx_r (some sa0)] := by
  unfold gm_L_law_396 at h
  obtain ⟨hoz15, h⟩ := gx_obs h
  obtain ⟨vz17, Xz16, eXz16, h⟩ := gx_bd2 h
  refine gx_callV (As := [gx_i sx1]) (st := []) (stk2 := [gx_i vz17]) C cd_X5_certify wl_421 ws_X5_certify wl_420 rfl hoz15 (gc_X5_certify fu sa0 sx1 X vz17 Xz16 eXz16) rfl ⟨Nat.le_of_ble_eq_true rfl, Nat.le_of_ble_eq_true rfl⟩ ⟨show cells + 0 ≤ 600000 by omega, show slots + 0 ≤ 7302250 by omega⟩ (Nat.le_of_ble_eq_true rfl) rfl rfl dL_law_396 ?_
  refine gx_aload_n C dL_law_399 rfl rfl ?_
  refine gx_aload_n C dL_law_400 rfl rfl ?_
  refine gx_iload_n C dL_law_401 rfl rfl ?_
  refine gx_iconst (v := 1) C dL_law_402 (by decide) ?_
  refine gx_iadd C dL_law_403 ?_
  obtain ⟨vz18, evz18, h⟩ := gx_bd h
  refine gx_sld C hX hbl hbD evz18 dL_law_404 ?_
  refine gx_if_eq (tgt := 412) C dL_law_405 (by decide) (fun qz19 => ?_) (fun qz19 => ?_)
  · rw [if_pos qz19] at h
    refine gx_iconst (v := 0) C dL_law_412 (by decide) ?_
    exact gt_L_law_413 C hX hbl hbD fu K18 hK18 a1 a2 x3 vz17 a2 (0 : Int32) Xz16 (cells + 0) (slots + 0) _ _ h (by omega) (by omega)
  · rw [if_neg qz19] at h
    refine gx_iconst (v := 1) C dL_law_408 (by decide) ?_
    refine gx_goto (tgt := 413) C dL_law_409 (by decide) ?_
    exact gt_L_law_413 C hX hbl hbD fu K18 hK18 a1 a2 x3 vz17 a2 (1 : Int32) Xz16 (cells + 0) (slots + 0) _ _ h (by omega) (by omega)
def gm_L_law_467 (fu : Nat) (xs : Nat → Int32) (L : Nat) (K18 : Nat → Nat → Int32 → gx_H → Option (Int32 × gx_H × Nat × Nat)) (a1 : Nat) (a2 : Nat) (x3 : Int32) (sx0 : Int32) (sa1 : Nat) (sx2 : Int32) (X : gx_H) : Option (Int32 × gx_H × Nat × Nat) :=
  (gx_scr xs L (x3 + (2 : Int32))).bind fun vz20 =>
  (gx_scr xs L (x3 + (3 : Int32))).bind fun vz21 =>
  (gx_scr xs L (x3 + (4 : Int32))).bind fun vz22 =>
  gx_ob X sa1 6 <|
  gx_b2 (gm_X6_of fu sa1 sx2 vz20 vz21 vz22 X) fun vz25 Xz24 =>
  if sx0 = vz25 then (
  gm_L_law_804 fu xs L K18 a1 a2 x3 Xz24) else (
  some ((0 : Int32), Xz24, 0, 0))
set_option maxHeartbeats 1000000 in
set_option maxRecDepth 20000 in
theorem gt_L_law_467 {p : Program} {l : Launch} {e : Env} {s : State} {m : MethodId} {below : List Frame} {meth : Method} {c : Code} {D : gx_D} {b L : Nat} {xs : Nat → Int32} {X2 : gx_H} (C : gx_C D gz_cl gz_at gz_tb gz_nb p s m meth c code 4 R_law (some .boolean)) (hX : va_X b L xs s s.heap) (hbl : b < s.heap.size) (hbD : D.2.2 = s.heap.size) (fu : Nat) (K18 : Nat → Nat → Int32 → gx_H → Option (Int32 × gx_H × Nat × Nat)) (hK18 : ∀ (a1 : Nat) (a2 : Nat) (x3 : Int32) (X : gx_H) (cells slots nc ns : Nat), K18 a1 a2 x3 X = some (1, X2, nc, ns) → cells + nc ≤ 600000 → slots + ns ≤ 7302250 → gx_W D gz_cl 4 p l e room_1 s m #[Value.ref b] below meth c cells slots (lw_Z below #[Value.ref b] s) X 18 [some (gx_r (some b)), some (gx_r (some a1)), some (gx_r (some a2)), some (gx_i x3)] []) (a1 : Nat) (a2 : Nat) (x3 : Int32) (sx0 : Int32) (sa1 : Nat) (sx2 : Int32) (X : gx_H) (cells slots nc ns : Nat) (h : gm_L_law_467 fu xs L K18 a1 a2 x3 sx0 sa1 sx2 X = some (1, X2, nc, ns)) (h1 : cells + nc ≤ 600000) (h2 : slots + ns ≤ 7302250) : gx_W D gz_cl 4 p l e room_1 s m #[Value.ref b] below meth c cells slots (lw_Z below #[Value.ref b] s) X 467 [some (gx_r (some b)), some (gx_r (some a1)), some (gx_r (some a2)), some (gx_i x3)] [gx_i sx2, gx_r (some sa1), gx_i sx0] := by
  unfold gm_L_law_467 at h
  refine gx_aload_n C dL_law_467 rfl rfl ?_
  refine gx_iload_n C dL_law_468 rfl rfl ?_
  refine gx_iconst (v := 2) C dL_law_469 (by decide) ?_
  refine gx_iadd C dL_law_470 ?_
  obtain ⟨vz20, evz20, h⟩ := gx_bd h
  refine gx_sld C hX hbl hbD evz20 dL_law_471 ?_
  refine gx_aload_n C dL_law_472 rfl rfl ?_
  refine gx_iload_n C dL_law_473 rfl rfl ?_
  refine gx_iconst (v := 3) C dL_law_474 (by decide) ?_
  refine gx_iadd C dL_law_475 ?_
  obtain ⟨vz21, evz21, h⟩ := gx_bd h
  refine gx_sld C hX hbl hbD evz21 dL_law_476 ?_
  refine gx_aload_n C dL_law_477 rfl rfl ?_
  refine gx_iload_n C dL_law_478 rfl rfl ?_
  refine gx_iconst (v := 4) C dL_law_479 (by decide) ?_
  refine gx_iadd C dL_law_480 ?_
  obtain ⟨vz22, evz22, h⟩ := gx_bd h
  refine gx_sld C hX hbl hbD evz22 dL_law_481 ?_
  obtain ⟨hoz23, h⟩ := gx_obs h
  obtain ⟨vz25, Xz24, eXz24, h⟩ := gx_bd2 h
  refine gx_callV (As := [gx_i sx2, gx_i vz20, gx_i vz21, gx_i vz22]) (st := [gx_i sx0]) (stk2 := [gx_i vz25, gx_i sx0]) C cd_X6_of wl_662 ws_X6_of wl_661 rfl hoz23 (gc_X6_of fu sa1 sx2 vz20 vz21 vz22 X vz25 Xz24 eXz24) rfl ⟨Nat.le_of_ble_eq_true rfl, Nat.le_of_ble_eq_true rfl⟩ ⟨show cells + 0 ≤ 600000 by omega, show slots + 0 ≤ 7302250 by omega⟩ (Nat.le_of_ble_eq_true rfl) rfl rfl dL_law_482 ?_
  refine gx_icmp_eq (tgt := 804) C dL_law_485 (by decide) (fun qz26 => ?_) (fun qz26 => ?_)
  · rw [if_pos qz26] at h
    exact gt_L_law_804 C hX hbl hbD fu K18 hK18 a1 a2 x3 Xz24 (cells + 0) (slots + 0) _ _ h (by omega) (by omega)
  · rw [if_neg qz26] at h
    refine gx_iconst (v := 0) C dL_law_488 (by decide) ?_
    exact absurd (Prod.mk.inj (Option.some.inj h)).1 (by decide)
def gm_L_law_435 (fu : Nat) (xs : Nat → Int32) (L : Nat) (K18 : Nat → Nat → Int32 → gx_H → Option (Int32 × gx_H × Nat × Nat)) (a1 : Nat) (a2 : Nat) (x3 : Int32) (sa0 : Nat) (sx1 : Int32) (X : gx_H) : Option (Int32 × gx_H × Nat × Nat) :=
  (gx_scr xs L (x3 + (2 : Int32))).bind fun vz27 =>
  (gx_scr xs L (x3 + (3 : Int32))).bind fun vz28 =>
  (gx_scr xs L (x3 + (4 : Int32))).bind fun vz29 =>
  gx_ob X sa0 5 <|
  gx_b2 (gm_X5_of fu sa0 sx1 vz27 vz28 vz29 X) fun vz32 Xz31 =>
  (gx_scr xs L (x3 + (1 : Int32))).bind fun vz33 =>
  if vz33 = 0 then (
  gm_L_law_467 fu xs L K18 a1 a2 x3 vz32 a2 (0 : Int32) Xz31) else (
  gm_L_law_467 fu xs L K18 a1 a2 x3 vz32 a2 (1 : Int32) Xz31)
set_option maxHeartbeats 1000000 in
set_option maxRecDepth 20000 in
theorem gt_L_law_435 {p : Program} {l : Launch} {e : Env} {s : State} {m : MethodId} {below : List Frame} {meth : Method} {c : Code} {D : gx_D} {b L : Nat} {xs : Nat → Int32} {X2 : gx_H} (C : gx_C D gz_cl gz_at gz_tb gz_nb p s m meth c code 4 R_law (some .boolean)) (hX : va_X b L xs s s.heap) (hbl : b < s.heap.size) (hbD : D.2.2 = s.heap.size) (fu : Nat) (K18 : Nat → Nat → Int32 → gx_H → Option (Int32 × gx_H × Nat × Nat)) (hK18 : ∀ (a1 : Nat) (a2 : Nat) (x3 : Int32) (X : gx_H) (cells slots nc ns : Nat), K18 a1 a2 x3 X = some (1, X2, nc, ns) → cells + nc ≤ 600000 → slots + ns ≤ 7302250 → gx_W D gz_cl 4 p l e room_1 s m #[Value.ref b] below meth c cells slots (lw_Z below #[Value.ref b] s) X 18 [some (gx_r (some b)), some (gx_r (some a1)), some (gx_r (some a2)), some (gx_i x3)] []) (a1 : Nat) (a2 : Nat) (x3 : Int32) (sa0 : Nat) (sx1 : Int32) (X : gx_H) (cells slots nc ns : Nat) (h : gm_L_law_435 fu xs L K18 a1 a2 x3 sa0 sx1 X = some (1, X2, nc, ns)) (h1 : cells + nc ≤ 600000) (h2 : slots + ns ≤ 7302250) : gx_W D gz_cl 4 p l e room_1 s m #[Value.ref b] below meth c cells slots (lw_Z below #[Value.ref b] s) X 435 [some (gx_r (some b)), some (gx_r (some a1)), some (gx_r (some a2)), some (gx_i x3)] [gx_i sx1, gx_r (some sa0)] := by
  unfold gm_L_law_435 at h
  refine gx_aload_n C dL_law_435 rfl rfl ?_
  refine gx_iload_n C dL_law_436 rfl rfl ?_
  refine gx_iconst (v := 2) C dL_law_437 (by decide) ?_
  refine gx_iadd C dL_law_438 ?_
  obtain ⟨vz27, evz27, h⟩ := gx_bd h
  refine gx_sld C hX hbl hbD evz27 dL_law_439 ?_
  refine gx_aload_n C dL_law_440 rfl rfl ?_
  refine gx_iload_n C dL_law_441 rfl rfl ?_
  refine gx_iconst (v := 3) C dL_law_442 (by decide) ?_
  refine gx_iadd C dL_law_443 ?_
  obtain ⟨vz28, evz28, h⟩ := gx_bd h
  refine gx_sld C hX hbl hbD evz28 dL_law_444 ?_
  refine gx_aload_n C dL_law_445 rfl rfl ?_
  refine gx_iload_n C dL_law_446 rfl rfl ?_
  refine gx_iconst (v := 4) C dL_law_447 (by decide) ?_
  refine gx_iadd C dL_law_448 ?_
  obtain ⟨vz29, evz29, h⟩ := gx_bd h
  refine gx_sld C hX hbl hbD evz29 dL_law_449 ?_
  obtain ⟨hoz30, h⟩ := gx_obs h
  obtain ⟨vz32, Xz31, eXz31, h⟩ := gx_bd2 h
  refine gx_callV (As := [gx_i sx1, gx_i vz27, gx_i vz28, gx_i vz29]) (st := []) (stk2 := [gx_i vz32]) C cd_X5_of wl_435 ws_X5_of wl_434 rfl hoz30 (gc_X5_of fu sa0 sx1 vz27 vz28 vz29 X vz32 Xz31 eXz31) rfl ⟨Nat.le_of_ble_eq_true rfl, Nat.le_of_ble_eq_true rfl⟩ ⟨show cells + 0 ≤ 600000 by omega, show slots + 0 ≤ 7302250 by omega⟩ (Nat.le_of_ble_eq_true rfl) rfl rfl dL_law_450 ?_
  refine gx_aload_n C dL_law_453 rfl rfl ?_
  refine gx_aload_n C dL_law_454 rfl rfl ?_
  refine gx_iload_n C dL_law_455 rfl rfl ?_
  refine gx_iconst (v := 1) C dL_law_456 (by decide) ?_
  refine gx_iadd C dL_law_457 ?_
  obtain ⟨vz33, evz33, h⟩ := gx_bd h
  refine gx_sld C hX hbl hbD evz33 dL_law_458 ?_
  refine gx_if_eq (tgt := 466) C dL_law_459 (by decide) (fun qz34 => ?_) (fun qz34 => ?_)
  · rw [if_pos qz34] at h
    refine gx_iconst (v := 0) C dL_law_466 (by decide) ?_
    exact gt_L_law_467 C hX hbl hbD fu K18 hK18 a1 a2 x3 vz32 a2 (0 : Int32) Xz31 (cells + 0) (slots + 0) _ _ h (by omega) (by omega)
  · rw [if_neg qz34] at h
    refine gx_iconst (v := 1) C dL_law_462 (by decide) ?_
    refine gx_goto (tgt := 467) C dL_law_463 (by decide) ?_
    exact gt_L_law_467 C hX hbl hbD fu K18 hK18 a1 a2 x3 vz32 a2 (1 : Int32) Xz31 (cells + 0) (slots + 0) _ _ h (by omega) (by omega)
def gm_L_law_531 (fu : Nat) (xs : Nat → Int32) (L : Nat) (K18 : Nat → Nat → Int32 → gx_H → Option (Int32 × gx_H × Nat × Nat)) (a1 : Nat) (a2 : Nat) (x3 : Int32) (sy0 : Int64) (sa1 : Nat) (sx2 : Int32) (X : gx_H) : Option (Int32 × gx_H × Nat × Nat) :=
  (gx_scr xs L (x3 + (2 : Int32))).bind fun vz35 =>
  (gx_scr xs L (x3 + (3 : Int32))).bind fun vz36 =>
  gx_ob X sa1 6 <|
  gx_b2 (gm_X6_may fu sa1 sx2 vz35 vz36 X) fun vz39 Xz38 =>
  if (lg_cmp sy0 vz39) = 0 then (
  gm_L_law_804 fu xs L K18 a1 a2 x3 Xz38) else (
  some ((0 : Int32), Xz38, 0, 0))
set_option maxHeartbeats 1000000 in
set_option maxRecDepth 20000 in
theorem gt_L_law_531 {p : Program} {l : Launch} {e : Env} {s : State} {m : MethodId} {below : List Frame} {meth : Method} {c : Code} {D : gx_D} {b L : Nat} {xs : Nat → Int32} {X2 : gx_H} (C : gx_C D gz_cl gz_at gz_tb gz_nb p s m meth c code 4 R_law (some .boolean)) (hX : va_X b L xs s s.heap) (hbl : b < s.heap.size) (hbD : D.2.2 = s.heap.size) (fu : Nat) (K18 : Nat → Nat → Int32 → gx_H → Option (Int32 × gx_H × Nat × Nat)) (hK18 : ∀ (a1 : Nat) (a2 : Nat) (x3 : Int32) (X : gx_H) (cells slots nc ns : Nat), K18 a1 a2 x3 X = some (1, X2, nc, ns) → cells + nc ≤ 600000 → slots + ns ≤ 7302250 → gx_W D gz_cl 4 p l e room_1 s m #[Value.ref b] below meth c cells slots (lw_Z below #[Value.ref b] s) X 18 [some (gx_r (some b)), some (gx_r (some a1)), some (gx_r (some a2)), some (gx_i x3)] []) (a1 : Nat) (a2 : Nat) (x3 : Int32) (sy0 : Int64) (sa1 : Nat) (sx2 : Int32) (X : gx_H) (cells slots nc ns : Nat) (h : gm_L_law_531 fu xs L K18 a1 a2 x3 sy0 sa1 sx2 X = some (1, X2, nc, ns)) (h1 : cells + nc ≤ 600000) (h2 : slots + ns ≤ 7302250) : gx_W D gz_cl 4 p l e room_1 s m #[Value.ref b] below meth c cells slots (lw_Z below #[Value.ref b] s) X 531 [some (gx_r (some b)), some (gx_r (some a1)), some (gx_r (some a2)), some (gx_i x3)] [gx_i sx2, gx_r (some sa1), gx_l sy0] := by
  unfold gm_L_law_531 at h
  refine gx_aload_n C dL_law_531 rfl rfl ?_
  refine gx_iload_n C dL_law_532 rfl rfl ?_
  refine gx_iconst (v := 2) C dL_law_533 (by decide) ?_
  refine gx_iadd C dL_law_534 ?_
  obtain ⟨vz35, evz35, h⟩ := gx_bd h
  refine gx_sld C hX hbl hbD evz35 dL_law_535 ?_
  refine gx_aload_n C dL_law_536 rfl rfl ?_
  refine gx_iload_n C dL_law_537 rfl rfl ?_
  refine gx_iconst (v := 3) C dL_law_538 (by decide) ?_
  refine gx_iadd C dL_law_539 ?_
  obtain ⟨vz36, evz36, h⟩ := gx_bd h
  refine gx_sld C hX hbl hbD evz36 dL_law_540 ?_
  obtain ⟨hoz37, h⟩ := gx_obs h
  obtain ⟨vz39, Xz38, eXz38, h⟩ := gx_bd2 h
  refine gx_callV (As := [gx_i sx2, gx_i vz35, gx_i vz36]) (st := [gx_l sy0]) (stk2 := [gx_l vz39, gx_l sy0]) C cd_X6_may wl_674 ws_X6_may wl_673 rfl hoz37 (gc_X6_may fu sa1 sx2 vz35 vz36 X vz39 Xz38 eXz38) rfl ⟨Nat.le_of_ble_eq_true rfl, Nat.le_of_ble_eq_true rfl⟩ ⟨show cells + 0 ≤ 600000 by omega, show slots + 0 ≤ 7302250 by omega⟩ (Nat.le_of_ble_eq_true rfl) rfl rfl dL_law_541 ?_
  refine gx_lcmp C dL_law_544 ?_
  refine gx_if_eq (tgt := 804) C dL_law_545 (by decide) (fun qz40 => ?_) (fun qz40 => ?_)
  · rw [if_pos qz40] at h
    exact gt_L_law_804 C hX hbl hbD fu K18 hK18 a1 a2 x3 Xz38 (cells + 0) (slots + 0) _ _ h (by omega) (by omega)
  · rw [if_neg qz40] at h
    refine gx_iconst (v := 0) C dL_law_548 (by decide) ?_
    exact absurd (Prod.mk.inj (Option.some.inj h)).1 (by decide)
def gm_L_law_504 (fu : Nat) (xs : Nat → Int32) (L : Nat) (K18 : Nat → Nat → Int32 → gx_H → Option (Int32 × gx_H × Nat × Nat)) (a1 : Nat) (a2 : Nat) (x3 : Int32) (sa0 : Nat) (sx1 : Int32) (X : gx_H) : Option (Int32 × gx_H × Nat × Nat) :=
  (gx_scr xs L (x3 + (2 : Int32))).bind fun vz41 =>
  (gx_scr xs L (x3 + (3 : Int32))).bind fun vz42 =>
  gx_ob X sa0 5 <|
  gx_b2 (gm_X5_may fu sa0 sx1 vz41 vz42 X) fun vz45 Xz44 =>
  (gx_scr xs L (x3 + (1 : Int32))).bind fun vz46 =>
  if vz46 = 0 then (
  gm_L_law_531 fu xs L K18 a1 a2 x3 vz45 a2 (0 : Int32) Xz44) else (
  gm_L_law_531 fu xs L K18 a1 a2 x3 vz45 a2 (1 : Int32) Xz44)
set_option maxHeartbeats 1000000 in
set_option maxRecDepth 20000 in
theorem gt_L_law_504 {p : Program} {l : Launch} {e : Env} {s : State} {m : MethodId} {below : List Frame} {meth : Method} {c : Code} {D : gx_D} {b L : Nat} {xs : Nat → Int32} {X2 : gx_H} (C : gx_C D gz_cl gz_at gz_tb gz_nb p s m meth c code 4 R_law (some .boolean)) (hX : va_X b L xs s s.heap) (hbl : b < s.heap.size) (hbD : D.2.2 = s.heap.size) (fu : Nat) (K18 : Nat → Nat → Int32 → gx_H → Option (Int32 × gx_H × Nat × Nat)) (hK18 : ∀ (a1 : Nat) (a2 : Nat) (x3 : Int32) (X : gx_H) (cells slots nc ns : Nat), K18 a1 a2 x3 X = some (1, X2, nc, ns) → cells + nc ≤ 600000 → slots + ns ≤ 7302250 → gx_W D gz_cl 4 p l e room_1 s m #[Value.ref b] below meth c cells slots (lw_Z below #[Value.ref b] s) X 18 [some (gx_r (some b)), some (gx_r (some a1)), some (gx_r (some a2)), some (gx_i x3)] []) (a1 : Nat) (a2 : Nat) (x3 : Int32) (sa0 : Nat) (sx1 : Int32) (X : gx_H) (cells slots nc ns : Nat) (h : gm_L_law_504 fu xs L K18 a1 a2 x3 sa0 sx1 X = some (1, X2, nc, ns)) (h1 : cells + nc ≤ 600000) (h2 : slots + ns ≤ 7302250) : gx_W D gz_cl 4 p l e room_1 s m #[Value.ref b] below meth c cells slots (lw_Z below #[Value.ref b] s) X 504 [some (gx_r (some b)), some (gx_r (some a1)), some (gx_r (some a2)), some (gx_i x3)] [gx_i sx1, gx_r (some sa0)] := by
  unfold gm_L_law_504 at h
  refine gx_aload_n C dL_law_504 rfl rfl ?_
  refine gx_iload_n C dL_law_505 rfl rfl ?_
  refine gx_iconst (v := 2) C dL_law_506 (by decide) ?_
  refine gx_iadd C dL_law_507 ?_
  obtain ⟨vz41, evz41, h⟩ := gx_bd h
  refine gx_sld C hX hbl hbD evz41 dL_law_508 ?_
  refine gx_aload_n C dL_law_509 rfl rfl ?_
  refine gx_iload_n C dL_law_510 rfl rfl ?_
  refine gx_iconst (v := 3) C dL_law_511 (by decide) ?_
  refine gx_iadd C dL_law_512 ?_
  obtain ⟨vz42, evz42, h⟩ := gx_bd h
  refine gx_sld C hX hbl hbD evz42 dL_law_513 ?_
  obtain ⟨hoz43, h⟩ := gx_obs h
  obtain ⟨vz45, Xz44, eXz44, h⟩ := gx_bd2 h
  refine gx_callV (As := [gx_i sx1, gx_i vz41, gx_i vz42]) (st := []) (stk2 := [gx_l vz45]) C cd_X5_may wl_450 ws_X5_may wl_449 rfl hoz43 (gc_X5_may fu sa0 sx1 vz41 vz42 X vz45 Xz44 eXz44) rfl ⟨Nat.le_of_ble_eq_true rfl, Nat.le_of_ble_eq_true rfl⟩ ⟨show cells + 0 ≤ 600000 by omega, show slots + 0 ≤ 7302250 by omega⟩ (Nat.le_of_ble_eq_true rfl) rfl rfl dL_law_514 ?_
  refine gx_aload_n C dL_law_517 rfl rfl ?_
  refine gx_aload_n C dL_law_518 rfl rfl ?_
  refine gx_iload_n C dL_law_519 rfl rfl ?_
  refine gx_iconst (v := 1) C dL_law_520 (by decide) ?_
  refine gx_iadd C dL_law_521 ?_
  obtain ⟨vz46, evz46, h⟩ := gx_bd h
  refine gx_sld C hX hbl hbD evz46 dL_law_522 ?_
  refine gx_if_eq (tgt := 530) C dL_law_523 (by decide) (fun qz47 => ?_) (fun qz47 => ?_)
  · rw [if_pos qz47] at h
    refine gx_iconst (v := 0) C dL_law_530 (by decide) ?_
    exact gt_L_law_531 C hX hbl hbD fu K18 hK18 a1 a2 x3 vz45 a2 (0 : Int32) Xz44 (cells + 0) (slots + 0) _ _ h (by omega) (by omega)
  · rw [if_neg qz47] at h
    refine gx_iconst (v := 1) C dL_law_526 (by decide) ?_
    refine gx_goto (tgt := 531) C dL_law_527 (by decide) ?_
    exact gt_L_law_531 C hX hbl hbD fu K18 hK18 a1 a2 x3 vz45 a2 (1 : Int32) Xz44 (cells + 0) (slots + 0) _ _ h (by omega) (by omega)
def gm_L_law_591 (fu : Nat) (xs : Nat → Int32) (L : Nat) (K18 : Nat → Nat → Int32 → gx_H → Option (Int32 × gx_H × Nat × Nat)) (a1 : Nat) (a2 : Nat) (x3 : Int32) (sy0 : Int64) (sa1 : Nat) (sx2 : Int32) (X : gx_H) : Option (Int32 × gx_H × Nat × Nat) :=
  (gx_scr xs L (x3 + (2 : Int32))).bind fun vz48 =>
  (gx_scr xs L (x3 + (3 : Int32))).bind fun vz49 =>
  gx_ob X sa1 6 <|
  gx_b2 (gm_X6_set fu sa1 sx2 vz48 vz49 X) fun vz52 Xz51 =>
  if (lg_cmp sy0 vz52) = 0 then (
  gm_L_law_804 fu xs L K18 a1 a2 x3 Xz51) else (
  some ((0 : Int32), Xz51, 0, 0))
set_option maxHeartbeats 1000000 in
set_option maxRecDepth 20000 in
theorem gt_L_law_591 {p : Program} {l : Launch} {e : Env} {s : State} {m : MethodId} {below : List Frame} {meth : Method} {c : Code} {D : gx_D} {b L : Nat} {xs : Nat → Int32} {X2 : gx_H} (C : gx_C D gz_cl gz_at gz_tb gz_nb p s m meth c code 4 R_law (some .boolean)) (hX : va_X b L xs s s.heap) (hbl : b < s.heap.size) (hbD : D.2.2 = s.heap.size) (fu : Nat) (K18 : Nat → Nat → Int32 → gx_H → Option (Int32 × gx_H × Nat × Nat)) (hK18 : ∀ (a1 : Nat) (a2 : Nat) (x3 : Int32) (X : gx_H) (cells slots nc ns : Nat), K18 a1 a2 x3 X = some (1, X2, nc, ns) → cells + nc ≤ 600000 → slots + ns ≤ 7302250 → gx_W D gz_cl 4 p l e room_1 s m #[Value.ref b] below meth c cells slots (lw_Z below #[Value.ref b] s) X 18 [some (gx_r (some b)), some (gx_r (some a1)), some (gx_r (some a2)), some (gx_i x3)] []) (a1 : Nat) (a2 : Nat) (x3 : Int32) (sy0 : Int64) (sa1 : Nat) (sx2 : Int32) (X : gx_H) (cells slots nc ns : Nat) (h : gm_L_law_591 fu xs L K18 a1 a2 x3 sy0 sa1 sx2 X = some (1, X2, nc, ns)) (h1 : cells + nc ≤ 600000) (h2 : slots + ns ≤ 7302250) : gx_W D gz_cl 4 p l e room_1 s m #[Value.ref b] below meth c cells slots (lw_Z below #[Value.ref b] s) X 591 [some (gx_r (some b)), some (gx_r (some a1)), some (gx_r (some a2)), some (gx_i x3)] [gx_i sx2, gx_r (some sa1), gx_l sy0] := by
  unfold gm_L_law_591 at h
  refine gx_aload_n C dL_law_591 rfl rfl ?_
  refine gx_iload_n C dL_law_592 rfl rfl ?_
  refine gx_iconst (v := 2) C dL_law_593 (by decide) ?_
  refine gx_iadd C dL_law_594 ?_
  obtain ⟨vz48, evz48, h⟩ := gx_bd h
  refine gx_sld C hX hbl hbD evz48 dL_law_595 ?_
  refine gx_aload_n C dL_law_596 rfl rfl ?_
  refine gx_iload_n C dL_law_597 rfl rfl ?_
  refine gx_iconst (v := 3) C dL_law_598 (by decide) ?_
  refine gx_iadd C dL_law_599 ?_
  obtain ⟨vz49, evz49, h⟩ := gx_bd h
  refine gx_sld C hX hbl hbD evz49 dL_law_600 ?_
  obtain ⟨hoz50, h⟩ := gx_obs h
  obtain ⟨vz52, Xz51, eXz51, h⟩ := gx_bd2 h
  refine gx_callV (As := [gx_i sx2, gx_i vz48, gx_i vz49]) (st := [gx_l sy0]) (stk2 := [gx_l vz52, gx_l sy0]) C cd_X6_set wl_678 ws_X6_set wl_677 rfl hoz50 (gc_X6_set fu sa1 sx2 vz48 vz49 X vz52 Xz51 eXz51) rfl ⟨Nat.le_of_ble_eq_true rfl, Nat.le_of_ble_eq_true rfl⟩ ⟨show cells + 0 ≤ 600000 by omega, show slots + 0 ≤ 7302250 by omega⟩ (Nat.le_of_ble_eq_true rfl) rfl rfl dL_law_601 ?_
  refine gx_lcmp C dL_law_604 ?_
  refine gx_if_eq (tgt := 804) C dL_law_605 (by decide) (fun qz53 => ?_) (fun qz53 => ?_)
  · rw [if_pos qz53] at h
    exact gt_L_law_804 C hX hbl hbD fu K18 hK18 a1 a2 x3 Xz51 (cells + 0) (slots + 0) _ _ h (by omega) (by omega)
  · rw [if_neg qz53] at h
    refine gx_iconst (v := 0) C dL_law_608 (by decide) ?_
    exact absurd (Prod.mk.inj (Option.some.inj h)).1 (by decide)
def gm_L_law_564 (fu : Nat) (xs : Nat → Int32) (L : Nat) (K18 : Nat → Nat → Int32 → gx_H → Option (Int32 × gx_H × Nat × Nat)) (a1 : Nat) (a2 : Nat) (x3 : Int32) (sa0 : Nat) (sx1 : Int32) (X : gx_H) : Option (Int32 × gx_H × Nat × Nat) :=
  (gx_scr xs L (x3 + (2 : Int32))).bind fun vz54 =>
  (gx_scr xs L (x3 + (3 : Int32))).bind fun vz55 =>
  gx_ob X sa0 5 <|
  gx_b2 (gm_X5_set fu sa0 sx1 vz54 vz55 X) fun vz58 Xz57 =>
  (gx_scr xs L (x3 + (1 : Int32))).bind fun vz59 =>
  if vz59 = 0 then (
  gm_L_law_591 fu xs L K18 a1 a2 x3 vz58 a2 (0 : Int32) Xz57) else (
  gm_L_law_591 fu xs L K18 a1 a2 x3 vz58 a2 (1 : Int32) Xz57)
set_option maxHeartbeats 1000000 in
set_option maxRecDepth 20000 in
theorem gt_L_law_564 {p : Program} {l : Launch} {e : Env} {s : State} {m : MethodId} {below : List Frame} {meth : Method} {c : Code} {D : gx_D} {b L : Nat} {xs : Nat → Int32} {X2 : gx_H} (C : gx_C D gz_cl gz_at gz_tb gz_nb p s m meth c code 4 R_law (some .boolean)) (hX : va_X b L xs s s.heap) (hbl : b < s.heap.size) (hbD : D.2.2 = s.heap.size) (fu : Nat) (K18 : Nat → Nat → Int32 → gx_H → Option (Int32 × gx_H × Nat × Nat)) (hK18 : ∀ (a1 : Nat) (a2 : Nat) (x3 : Int32) (X : gx_H) (cells slots nc ns : Nat), K18 a1 a2 x3 X = some (1, X2, nc, ns) → cells + nc ≤ 600000 → slots + ns ≤ 7302250 → gx_W D gz_cl 4 p l e room_1 s m #[Value.ref b] below meth c cells slots (lw_Z below #[Value.ref b] s) X 18 [some (gx_r (some b)), some (gx_r (some a1)), some (gx_r (some a2)), some (gx_i x3)] []) (a1 : Nat) (a2 : Nat) (x3 : Int32) (sa0 : Nat) (sx1 : Int32) (X : gx_H) (cells slots nc ns : Nat) (h : gm_L_law_564 fu xs L K18 a1 a2 x3 sa0 sx1 X = some (1, X2, nc, ns)) (h1 : cells + nc ≤ 600000) (h2 : slots + ns ≤ 7302250) : gx_W D gz_cl 4 p l e room_1 s m #[Value.ref b] below meth c cells slots (lw_Z below #[Value.ref b] s) X 564 [some (gx_r (some b)), some (gx_r (some a1)), some (gx_r (some a2)), some (gx_i x3)] [gx_i sx1, gx_r (some sa0)] := by
  unfold gm_L_law_564 at h
  refine gx_aload_n C dL_law_564 rfl rfl ?_
  refine gx_iload_n C dL_law_565 rfl rfl ?_
  refine gx_iconst (v := 2) C dL_law_566 (by decide) ?_
  refine gx_iadd C dL_law_567 ?_
  obtain ⟨vz54, evz54, h⟩ := gx_bd h
  refine gx_sld C hX hbl hbD evz54 dL_law_568 ?_
  refine gx_aload_n C dL_law_569 rfl rfl ?_
  refine gx_iload_n C dL_law_570 rfl rfl ?_
  refine gx_iconst (v := 3) C dL_law_571 (by decide) ?_
  refine gx_iadd C dL_law_572 ?_
  obtain ⟨vz55, evz55, h⟩ := gx_bd h
  refine gx_sld C hX hbl hbD evz55 dL_law_573 ?_
  obtain ⟨hoz56, h⟩ := gx_obs h
  obtain ⟨vz58, Xz57, eXz57, h⟩ := gx_bd2 h
  refine gx_callV (As := [gx_i sx1, gx_i vz54, gx_i vz55]) (st := []) (stk2 := [gx_l vz58]) C cd_X5_set wl_454 ws_X5_set wl_453 rfl hoz56 (gc_X5_set fu sa0 sx1 vz54 vz55 X vz58 Xz57 eXz57) rfl ⟨Nat.le_of_ble_eq_true rfl, Nat.le_of_ble_eq_true rfl⟩ ⟨show cells + 0 ≤ 600000 by omega, show slots + 0 ≤ 7302250 by omega⟩ (Nat.le_of_ble_eq_true rfl) rfl rfl dL_law_574 ?_
  refine gx_aload_n C dL_law_577 rfl rfl ?_
  refine gx_aload_n C dL_law_578 rfl rfl ?_
  refine gx_iload_n C dL_law_579 rfl rfl ?_
  refine gx_iconst (v := 1) C dL_law_580 (by decide) ?_
  refine gx_iadd C dL_law_581 ?_
  obtain ⟨vz59, evz59, h⟩ := gx_bd h
  refine gx_sld C hX hbl hbD evz59 dL_law_582 ?_
  refine gx_if_eq (tgt := 590) C dL_law_583 (by decide) (fun qz60 => ?_) (fun qz60 => ?_)
  · rw [if_pos qz60] at h
    refine gx_iconst (v := 0) C dL_law_590 (by decide) ?_
    exact gt_L_law_591 C hX hbl hbD fu K18 hK18 a1 a2 x3 vz58 a2 (0 : Int32) Xz57 (cells + 0) (slots + 0) _ _ h (by omega) (by omega)
  · rw [if_neg qz60] at h
    refine gx_iconst (v := 1) C dL_law_586 (by decide) ?_
    refine gx_goto (tgt := 591) C dL_law_587 (by decide) ?_
    exact gt_L_law_591 C hX hbl hbD fu K18 hK18 a1 a2 x3 vz58 a2 (1 : Int32) Xz57 (cells + 0) (slots + 0) _ _ h (by omega) (by omega)
def gm_L_law_651 (fu : Nat) (xs : Nat → Int32) (L : Nat) (K18 : Nat → Nat → Int32 → gx_H → Option (Int32 × gx_H × Nat × Nat)) (a1 : Nat) (a2 : Nat) (x3 : Int32) (sx0 : Int32) (sa1 : Nat) (sx2 : Int32) (X : gx_H) : Option (Int32 × gx_H × Nat × Nat) :=
  (gx_scr xs L (x3 + (2 : Int32))).bind fun vz61 =>
  (gx_scr xs L (x3 + (3 : Int32))).bind fun vz62 =>
  gx_ob X sa1 6 <|
  gx_b2 (gm_X6_size fu sa1 sx2 vz61 vz62 X) fun vz65 Xz64 =>
  if sx0 = vz65 then (
  gm_L_law_804 fu xs L K18 a1 a2 x3 Xz64) else (
  some ((0 : Int32), Xz64, 0, 0))
set_option maxHeartbeats 1000000 in
set_option maxRecDepth 20000 in
theorem gt_L_law_651 {p : Program} {l : Launch} {e : Env} {s : State} {m : MethodId} {below : List Frame} {meth : Method} {c : Code} {D : gx_D} {b L : Nat} {xs : Nat → Int32} {X2 : gx_H} (C : gx_C D gz_cl gz_at gz_tb gz_nb p s m meth c code 4 R_law (some .boolean)) (hX : va_X b L xs s s.heap) (hbl : b < s.heap.size) (hbD : D.2.2 = s.heap.size) (fu : Nat) (K18 : Nat → Nat → Int32 → gx_H → Option (Int32 × gx_H × Nat × Nat)) (hK18 : ∀ (a1 : Nat) (a2 : Nat) (x3 : Int32) (X : gx_H) (cells slots nc ns : Nat), K18 a1 a2 x3 X = some (1, X2, nc, ns) → cells + nc ≤ 600000 → slots + ns ≤ 7302250 → gx_W D gz_cl 4 p l e room_1 s m #[Value.ref b] below meth c cells slots (lw_Z below #[Value.ref b] s) X 18 [some (gx_r (some b)), some (gx_r (some a1)), some (gx_r (some a2)), some (gx_i x3)] []) (a1 : Nat) (a2 : Nat) (x3 : Int32) (sx0 : Int32) (sa1 : Nat) (sx2 : Int32) (X : gx_H) (cells slots nc ns : Nat) (h : gm_L_law_651 fu xs L K18 a1 a2 x3 sx0 sa1 sx2 X = some (1, X2, nc, ns)) (h1 : cells + nc ≤ 600000) (h2 : slots + ns ≤ 7302250) : gx_W D gz_cl 4 p l e room_1 s m #[Value.ref b] below meth c cells slots (lw_Z below #[Value.ref b] s) X 651 [some (gx_r (some b)), some (gx_r (some a1)), some (gx_r (some a2)), some (gx_i x3)] [gx_i sx2, gx_r (some sa1), gx_i sx0] := by
  unfold gm_L_law_651 at h
  refine gx_aload_n C dL_law_651 rfl rfl ?_
  refine gx_iload_n C dL_law_652 rfl rfl ?_
  refine gx_iconst (v := 2) C dL_law_653 (by decide) ?_
  refine gx_iadd C dL_law_654 ?_
  obtain ⟨vz61, evz61, h⟩ := gx_bd h
  refine gx_sld C hX hbl hbD evz61 dL_law_655 ?_
  refine gx_aload_n C dL_law_656 rfl rfl ?_
  refine gx_iload_n C dL_law_657 rfl rfl ?_
  refine gx_iconst (v := 3) C dL_law_658 (by decide) ?_
  refine gx_iadd C dL_law_659 ?_
  obtain ⟨vz62, evz62, h⟩ := gx_bd h
  refine gx_sld C hX hbl hbD evz62 dL_law_660 ?_
  obtain ⟨hoz63, h⟩ := gx_obs h
  obtain ⟨vz65, Xz64, eXz64, h⟩ := gx_bd2 h
  refine gx_callV (As := [gx_i sx2, gx_i vz61, gx_i vz62]) (st := [gx_i sx0]) (stk2 := [gx_i vz65, gx_i sx0]) C cd_X6_size wl_682 ws_X6_size wl_681 rfl hoz63 (gc_X6_size fu sa1 sx2 vz61 vz62 X vz65 Xz64 eXz64) rfl ⟨Nat.le_of_ble_eq_true rfl, Nat.le_of_ble_eq_true rfl⟩ ⟨show cells + 0 ≤ 600000 by omega, show slots + 0 ≤ 7302250 by omega⟩ (Nat.le_of_ble_eq_true rfl) rfl rfl dL_law_661 ?_
  refine gx_icmp_eq (tgt := 804) C dL_law_664 (by decide) (fun qz66 => ?_) (fun qz66 => ?_)
  · rw [if_pos qz66] at h
    exact gt_L_law_804 C hX hbl hbD fu K18 hK18 a1 a2 x3 Xz64 (cells + 0) (slots + 0) _ _ h (by omega) (by omega)
  · rw [if_neg qz66] at h
    refine gx_iconst (v := 0) C dL_law_667 (by decide) ?_
    exact absurd (Prod.mk.inj (Option.some.inj h)).1 (by decide)
def gm_L_law_624 (fu : Nat) (xs : Nat → Int32) (L : Nat) (K18 : Nat → Nat → Int32 → gx_H → Option (Int32 × gx_H × Nat × Nat)) (a1 : Nat) (a2 : Nat) (x3 : Int32) (sa0 : Nat) (sx1 : Int32) (X : gx_H) : Option (Int32 × gx_H × Nat × Nat) :=
  (gx_scr xs L (x3 + (2 : Int32))).bind fun vz67 =>
  (gx_scr xs L (x3 + (3 : Int32))).bind fun vz68 =>
  gx_ob X sa0 5 <|
  gx_b2 (gm_X5_size fu sa0 sx1 vz67 vz68 X) fun vz71 Xz70 =>
  (gx_scr xs L (x3 + (1 : Int32))).bind fun vz72 =>
  if vz72 = 0 then (
  gm_L_law_651 fu xs L K18 a1 a2 x3 vz71 a2 (0 : Int32) Xz70) else (
  gm_L_law_651 fu xs L K18 a1 a2 x3 vz71 a2 (1 : Int32) Xz70)
set_option maxHeartbeats 1000000 in
set_option maxRecDepth 20000 in
theorem gt_L_law_624 {p : Program} {l : Launch} {e : Env} {s : State} {m : MethodId} {below : List Frame} {meth : Method} {c : Code} {D : gx_D} {b L : Nat} {xs : Nat → Int32} {X2 : gx_H} (C : gx_C D gz_cl gz_at gz_tb gz_nb p s m meth c code 4 R_law (some .boolean)) (hX : va_X b L xs s s.heap) (hbl : b < s.heap.size) (hbD : D.2.2 = s.heap.size) (fu : Nat) (K18 : Nat → Nat → Int32 → gx_H → Option (Int32 × gx_H × Nat × Nat)) (hK18 : ∀ (a1 : Nat) (a2 : Nat) (x3 : Int32) (X : gx_H) (cells slots nc ns : Nat), K18 a1 a2 x3 X = some (1, X2, nc, ns) → cells + nc ≤ 600000 → slots + ns ≤ 7302250 → gx_W D gz_cl 4 p l e room_1 s m #[Value.ref b] below meth c cells slots (lw_Z below #[Value.ref b] s) X 18 [some (gx_r (some b)), some (gx_r (some a1)), some (gx_r (some a2)), some (gx_i x3)] []) (a1 : Nat) (a2 : Nat) (x3 : Int32) (sa0 : Nat) (sx1 : Int32) (X : gx_H) (cells slots nc ns : Nat) (h : gm_L_law_624 fu xs L K18 a1 a2 x3 sa0 sx1 X = some (1, X2, nc, ns)) (h1 : cells + nc ≤ 600000) (h2 : slots + ns ≤ 7302250) : gx_W D gz_cl 4 p l e room_1 s m #[Value.ref b] below meth c cells slots (lw_Z below #[Value.ref b] s) X 624 [some (gx_r (some b)), some (gx_r (some a1)), some (gx_r (some a2)), some (gx_i x3)] [gx_i sx1, gx_r (some sa0)] := by
  unfold gm_L_law_624 at h
  refine gx_aload_n C dL_law_624 rfl rfl ?_
  refine gx_iload_n C dL_law_625 rfl rfl ?_
  refine gx_iconst (v := 2) C dL_law_626 (by decide) ?_
  refine gx_iadd C dL_law_627 ?_
  obtain ⟨vz67, evz67, h⟩ := gx_bd h
  refine gx_sld C hX hbl hbD evz67 dL_law_628 ?_
  refine gx_aload_n C dL_law_629 rfl rfl ?_
  refine gx_iload_n C dL_law_630 rfl rfl ?_
  refine gx_iconst (v := 3) C dL_law_631 (by decide) ?_
  refine gx_iadd C dL_law_632 ?_
  obtain ⟨vz68, evz68, h⟩ := gx_bd h
  refine gx_sld C hX hbl hbD evz68 dL_law_633 ?_
  obtain ⟨hoz69, h⟩ := gx_obs h
  obtain ⟨vz71, Xz70, eXz70, h⟩ := gx_bd2 h
  refine gx_callV (As := [gx_i sx1, gx_i vz67, gx_i vz68]) (st := []) (stk2 := [gx_i vz71]) C cd_X5_size wl_458 ws_X5_size wl_457 rfl hoz69 (gc_X5_size fu sa0 sx1 vz67 vz68 X vz71 Xz70 eXz70) rfl ⟨Nat.le_of_ble_eq_true rfl, Nat.le_of_ble_eq_true rfl⟩ ⟨show cells + 0 ≤ 600000 by omega, show slots + 0 ≤ 7302250 by omega⟩ (Nat.le_of_ble_eq_true rfl) rfl rfl dL_law_634 ?_
  refine gx_aload_n C dL_law_637 rfl rfl ?_
  refine gx_aload_n C dL_law_638 rfl rfl ?_
  refine gx_iload_n C dL_law_639 rfl rfl ?_
  refine gx_iconst (v := 1) C dL_law_640 (by decide) ?_
  refine gx_iadd C dL_law_641 ?_
  obtain ⟨vz72, evz72, h⟩ := gx_bd h
  refine gx_sld C hX hbl hbD evz72 dL_law_642 ?_
  refine gx_if_eq (tgt := 650) C dL_law_643 (by decide) (fun qz73 => ?_) (fun qz73 => ?_)
  · rw [if_pos qz73] at h
    refine gx_iconst (v := 0) C dL_law_650 (by decide) ?_
    exact gt_L_law_651 C hX hbl hbD fu K18 hK18 a1 a2 x3 vz71 a2 (0 : Int32) Xz70 (cells + 0) (slots + 0) _ _ h (by omega) (by omega)
  · rw [if_neg qz73] at h
    refine gx_iconst (v := 1) C dL_law_646 (by decide) ?_
    refine gx_goto (tgt := 651) C dL_law_647 (by decide) ?_
    exact gt_L_law_651 C hX hbl hbD fu K18 hK18 a1 a2 x3 vz71 a2 (1 : Int32) Xz70 (cells + 0) (slots + 0) _ _ h (by omega) (by omega)
def gm_L_law_715 (fu : Nat) (xs : Nat → Int32) (L : Nat) (K18 : Nat → Nat → Int32 → gx_H → Option (Int32 × gx_H × Nat × Nat)) (a1 : Nat) (a2 : Nat) (x3 : Int32) (sx0 : Int32) (sa1 : Nat) (sx2 : Int32) (X : gx_H) : Option (Int32 × gx_H × Nat × Nat) :=
  (gx_scr xs L (x3 + (2 : Int32))).bind fun vz74 =>
  (gx_scr xs L (x3 + (3 : Int32))).bind fun vz75 =>
  (gx_scr xs L (x3 + (4 : Int32))).bind fun vz76 =>
  gx_ob X sa1 6 <|
  gx_b2 (gm_X6_range fu sa1 sx2 vz74 vz75 vz76 X) fun vz79 Xz78 =>
  if sx0 = vz79 then (
  gm_L_law_804 fu xs L K18 a1 a2 x3 Xz78) else (
  some ((0 : Int32), Xz78, 0, 0))
set_option maxHeartbeats 1000000 in
set_option maxRecDepth 20000 in
theorem gt_L_law_715 {p : Program} {l : Launch} {e : Env} {s : State} {m : MethodId} {below : List Frame} {meth : Method} {c : Code} {D : gx_D} {b L : Nat} {xs : Nat → Int32} {X2 : gx_H} (C : gx_C D gz_cl gz_at gz_tb gz_nb p s m meth c code 4 R_law (some .boolean)) (hX : va_X b L xs s s.heap) (hbl : b < s.heap.size) (hbD : D.2.2 = s.heap.size) (fu : Nat) (K18 : Nat → Nat → Int32 → gx_H → Option (Int32 × gx_H × Nat × Nat)) (hK18 : ∀ (a1 : Nat) (a2 : Nat) (x3 : Int32) (X : gx_H) (cells slots nc ns : Nat), K18 a1 a2 x3 X = some (1, X2, nc, ns) → cells + nc ≤ 600000 → slots + ns ≤ 7302250 → gx_W D gz_cl 4 p l e room_1 s m #[Value.ref b] below meth c cells slots (lw_Z below #[Value.ref b] s) X 18 [some (gx_r (some b)), some (gx_r (some a1)), some (gx_r (some a2)), some (gx_i x3)] []) (a1 : Nat) (a2 : Nat) (x3 : Int32) (sx0 : Int32) (sa1 : Nat) (sx2 : Int32) (X : gx_H) (cells slots nc ns : Nat) (h : gm_L_law_715 fu xs L K18 a1 a2 x3 sx0 sa1 sx2 X = some (1, X2, nc, ns)) (h1 : cells + nc ≤ 600000) (h2 : slots + ns ≤ 7302250) : gx_W D gz_cl 4 p l e room_1 s m #[Value.ref b] below meth c cells slots (lw_Z below #[Value.ref b] s) X 715 [some (gx_r (some b)), some (gx_r (some a1)), some (gx_r (some a2)), some (gx_i x3)] [gx_i sx2, gx_r (some sa1), gx_i sx0] := by
  unfold gm_L_law_715 at h
  refine gx_aload_n C dL_law_715 rfl rfl ?_
  refine gx_iload_n C dL_law_716 rfl rfl ?_
  refine gx_iconst (v := 2) C dL_law_717 (by decide) ?_
  refine gx_iadd C dL_law_718 ?_
  obtain ⟨vz74, evz74, h⟩ := gx_bd h
  refine gx_sld C hX hbl hbD evz74 dL_law_719 ?_
  refine gx_aload_n C dL_law_720 rfl rfl ?_
  refine gx_iload_n C dL_law_721 rfl rfl ?_
  refine gx_iconst (v := 3) C dL_law_722 (by decide) ?_
  refine gx_iadd C dL_law_723 ?_
  obtain ⟨vz75, evz75, h⟩ := gx_bd h
  refine gx_sld C hX hbl hbD evz75 dL_law_724 ?_
  refine gx_aload_n C dL_law_725 rfl rfl ?_
  refine gx_iload_n C dL_law_726 rfl rfl ?_
  refine gx_iconst (v := 4) C dL_law_727 (by decide) ?_
  refine gx_iadd C dL_law_728 ?_
  obtain ⟨vz76, evz76, h⟩ := gx_bd h
  refine gx_sld C hX hbl hbD evz76 dL_law_729 ?_
  obtain ⟨hoz77, h⟩ := gx_obs h
  obtain ⟨vz79, Xz78, eXz78, h⟩ := gx_bd2 h
  refine gx_callV (As := [gx_i sx2, gx_i vz74, gx_i vz75, gx_i vz76]) (st := [gx_i sx0]) (stk2 := [gx_i vz79, gx_i sx0]) C cd_X6_range wl_694 ws_X6_range wl_693 rfl hoz77 (gc_X6_range fu sa1 sx2 vz74 vz75 vz76 X vz79 Xz78 eXz78) rfl ⟨Nat.le_of_ble_eq_true rfl, Nat.le_of_ble_eq_true rfl⟩ ⟨show cells + 0 ≤ 600000 by omega, show slots + 0 ≤ 7302250 by omega⟩ (Nat.le_of_ble_eq_true rfl) rfl rfl dL_law_730 ?_
  refine gx_icmp_eq (tgt := 804) C dL_law_733 (by decide) (fun qz80 => ?_) (fun qz80 => ?_)
  · rw [if_pos qz80] at h
    exact gt_L_law_804 C hX hbl hbD fu K18 hK18 a1 a2 x3 Xz78 (cells + 0) (slots + 0) _ _ h (by omega) (by omega)
  · rw [if_neg qz80] at h
    refine gx_iconst (v := 0) C dL_law_736 (by decide) ?_
    exact absurd (Prod.mk.inj (Option.some.inj h)).1 (by decide)
def gm_L_law_683 (fu : Nat) (xs : Nat → Int32) (L : Nat) (K18 : Nat → Nat → Int32 → gx_H → Option (Int32 × gx_H × Nat × Nat)) (a1 : Nat) (a2 : Nat) (x3 : Int32) (sa0 : Nat) (sx1 : Int32) (X : gx_H) : Option (Int32 × gx_H × Nat × Nat) :=
  (gx_scr xs L (x3 + (2 : Int32))).bind fun vz81 =>
  (gx_scr xs L (x3 + (3 : Int32))).bind fun vz82 =>
  (gx_scr xs L (x3 + (4 : Int32))).bind fun vz83 =>
  gx_ob X sa0 5 <|
  gx_b2 (gm_X5_range fu sa0 sx1 vz81 vz82 vz83 X) fun vz86 Xz85 =>
  (gx_scr xs L (x3 + (1 : Int32))).bind fun vz87 =>
  if vz87 = 0 then (
  gm_L_law_715 fu xs L K18 a1 a2 x3 vz86 a2 (0 : Int32) Xz85) else (
  gm_L_law_715 fu xs L K18 a1 a2 x3 vz86 a2 (1 : Int32) Xz85)
set_option maxHeartbeats 1000000 in
set_option maxRecDepth 20000 in
theorem gt_L_law_683 {p : Program} {l : Launch} {e : Env} {s : State} {m : MethodId} {below : List Frame} {meth : Method} {c : Code} {D : gx_D} {b L : Nat} {xs : Nat → Int32} {X2 : gx_H} (C : gx_C D gz_cl gz_at gz_tb gz_nb p s m meth c code 4 R_law (some .boolean)) (hX : va_X b L xs s s.heap) (hbl : b < s.heap.size) (hbD : D.2.2 = s.heap.size) (fu : Nat) (K18 : Nat → Nat → Int32 → gx_H → Option (Int32 × gx_H × Nat × Nat)) (hK18 : ∀ (a1 : Nat) (a2 : Nat) (x3 : Int32) (X : gx_H) (cells slots nc ns : Nat), K18 a1 a2 x3 X = some (1, X2, nc, ns) → cells + nc ≤ 600000 → slots + ns ≤ 7302250 → gx_W D gz_cl 4 p l e room_1 s m #[Value.ref b] below meth c cells slots (lw_Z below #[Value.ref b] s) X 18 [some (gx_r (some b)), some (gx_r (some a1)), some (gx_r (some a2)), some (gx_i x3)] []) (a1 : Nat) (a2 : Nat) (x3 : Int32) (sa0 : Nat) (sx1 : Int32) (X : gx_H) (cells slots nc ns : Nat) (h : gm_L_law_683 fu xs L K18 a1 a2 x3 sa0 sx1 X = some (1, X2, nc, ns)) (h1 : cells + nc ≤ 600000) (h2 : slots + ns ≤ 7302250) : gx_W D gz_cl 4 p l e room_1 s m #[Value.ref b] below meth c cells slots (lw_Z below #[Value.ref b] s) X 683 [some (gx_r (some b)), some (gx_r (some a1)), some (gx_r (some a2)), some (gx_i x3)] [gx_i sx1, gx_r (some sa0)] := by
  unfold gm_L_law_683 at h
  refine gx_aload_n C dL_law_683 rfl rfl ?_
  refine gx_iload_n C dL_law_684 rfl rfl ?_
  refine gx_iconst (v := 2) C dL_law_685 (by decide) ?_
  refine gx_iadd C dL_law_686 ?_
  obtain ⟨vz81, evz81, h⟩ := gx_bd h
  refine gx_sld C hX hbl hbD evz81 dL_law_687 ?_
  refine gx_aload_n C dL_law_688 rfl rfl ?_
  refine gx_iload_n C dL_law_689 rfl rfl ?_
  refine gx_iconst (v := 3) C dL_law_690 (by decide) ?_
  refine gx_iadd C dL_law_691 ?_
  obtain ⟨vz82, evz82, h⟩ := gx_bd h
  refine gx_sld C hX hbl hbD evz82 dL_law_692 ?_
  refine gx_aload_n C dL_law_693 rfl rfl ?_
  refine gx_iload_n C dL_law_694 rfl rfl ?_
  refine gx_iconst (v := 4) C dL_law_695 (by decide) ?_
  refine gx_iadd C dL_law_696 ?_
  obtain ⟨vz83, evz83, h⟩ := gx_bd h
  refine gx_sld C hX hbl hbD evz83 dL_law_697 ?_
  obtain ⟨hoz84, h⟩ := gx_obs h
  obtain ⟨vz86, Xz85, eXz85, h⟩ := gx_bd2 h
  refine gx_callV (As := [gx_i sx1, gx_i vz81, gx_i vz82, gx_i vz83]) (st := []) (stk2 := [gx_i vz86]) C cd_X5_range wl_470 ws_X5_range wl_469 rfl hoz84 (gc_X5_range fu sa0 sx1 vz81 vz82 vz83 X vz86 Xz85 eXz85) rfl ⟨Nat.le_of_ble_eq_true rfl, Nat.le_of_ble_eq_true rfl⟩ ⟨show cells + 0 ≤ 600000 by omega, show slots + 0 ≤ 7302250 by omega⟩ (Nat.le_of_ble_eq_true rfl) rfl rfl dL_law_698 ?_
  refine gx_aload_n C dL_law_701 rfl rfl ?_
  refine gx_aload_n C dL_law_702 rfl rfl ?_
  refine gx_iload_n C dL_law_703 rfl rfl ?_
  refine gx_iconst (v := 1) C dL_law_704 (by decide) ?_
  refine gx_iadd C dL_law_705 ?_
  obtain ⟨vz87, evz87, h⟩ := gx_bd h
  refine gx_sld C hX hbl hbD evz87 dL_law_706 ?_
  refine gx_if_eq (tgt := 714) C dL_law_707 (by decide) (fun qz88 => ?_) (fun qz88 => ?_)
  · rw [if_pos qz88] at h
    refine gx_iconst (v := 0) C dL_law_714 (by decide) ?_
    exact gt_L_law_715 C hX hbl hbD fu K18 hK18 a1 a2 x3 vz86 a2 (0 : Int32) Xz85 (cells + 0) (slots + 0) _ _ h (by omega) (by omega)
  · rw [if_neg qz88] at h
    refine gx_iconst (v := 1) C dL_law_710 (by decide) ?_
    refine gx_goto (tgt := 715) C dL_law_711 (by decide) ?_
    exact gt_L_law_715 C hX hbl hbD fu K18 hK18 a1 a2 x3 vz86 a2 (1 : Int32) Xz85 (cells + 0) (slots + 0) _ _ h (by omega) (by omega)
def gm_L_law_18 (fu : Nat) (xs : Nat → Int32) (L : Nat) : Nat → Nat → Nat → Int32 → gx_H → Option (Int32 × gx_H × Nat × Nat)
  | 0, _, _, _, _ => none
  | n + 1, a1, a2, x3, X =>
    if ((Int32.ofNat L) - (5 : Int32)) < x3 then (
    some ((1 : Int32), X, 0, 0)) else (
    (gx_scr xs L x3).bind fun vz90 =>
    if (vz90 &&& (15 : Int32)) = (0 : Int32) then (
    (gx_scr xs L (x3 + (1 : Int32))).bind fun vz92 =>
    gx_ob X a1 5 <|
    gx_b2 (gm_X5_begin fu a1 vz92 X) fun vz95 Xz94 =>
    (gx_scr xs L (x3 + (1 : Int32))).bind fun vz96 =>
    gx_ob Xz94 a2 6 <|
    gx_b2 (gm_X6_begin fu a2 vz96 Xz94) fun vz99 Xz98 =>
    if vz95 = vz99 then (
    gm_L_law_804 fu xs L (gm_L_law_18 fu xs L  n) a1 a2 x3 Xz98) else (
    some ((0 : Int32), Xz98, 0, 0))) else (
    if (vz90 &&& (15 : Int32)) = (1 : Int32) then (
    (gx_scr xs L (x3 + (1 : Int32))).bind fun vz101 =>
    (gx_scr xs L (x3 + (2 : Int32))).bind fun vz102 =>
    (gx_scr xs L (x3 + (3 : Int32))).bind fun vz103 =>
    gx_ob X a1 5 <|
    gx_b2 (gm_X5_way fu a1 vz101 vz102 vz103 X) fun vz106 Xz105 =>
    (gx_scr xs L (x3 + (1 : Int32))).bind fun vz107 =>
    (gx_scr xs L (x3 + (2 : Int32))).bind fun vz108 =>
    (gx_scr xs L (x3 + (3 : Int32))).bind fun vz109 =>
    gx_ob Xz105 a2 6 <|
    gx_b2 (gm_X6_way fu a2 vz107 vz108 vz109 Xz105) fun vz112 Xz111 =>
    if vz106 = vz112 then (
    gm_L_law_804 fu xs L (gm_L_law_18 fu xs L  n) a1 a2 x3 Xz111) else (
    some ((0 : Int32), Xz111, 0, 0))) else (
    if (vz90 &&& (15 : Int32)) = (2 : Int32) then (
    (gx_scr xs L (x3 + (1 : Int32))).bind fun vz114 =>
    (gx_scr xs L (x3 + (2 : Int32))).bind fun vz115 =>
    if vz115 = 0 then (
    gm_L_law_197 fu xs L (gm_L_law_18 fu xs L  n) a1 a2 x3 a1 vz114 (0 : Int32) X) else (
    gm_L_law_197 fu xs L (gm_L_law_18 fu xs L  n) a1 a2 x3 a1 vz114 (1 : Int32) X)) else (
    if (vz90 &&& (15 : Int32)) = (3 : Int32) then (
    (gx_scr xs L (x3 + (1 : Int32))).bind fun vz117 =>
    gx_ob X a1 5 <|
    gx_b4 (gm_X5_function fu a1 vz117 X) fun vz120 Xz119 cz121 sz121 => gx_ad cz121 sz121 <|
    (gx_scr xs L (x3 + (1 : Int32))).bind fun vz123 =>
    gx_ob Xz119 a2 6 <|
    gx_b2 (gm_X6_function fu a2 vz123 Xz119) fun vz126 Xz125 =>
    if vz120 = vz126 then (
    gm_L_law_804 fu xs L (gm_L_law_18 fu xs L  n) a1 a2 x3 Xz125) else (
    some ((0 : Int32), Xz125, 0, 0))) else (
    if (vz90 &&& (15 : Int32)) = (4 : Int32) then (
    (gx_scr xs L (x3 + (1 : Int32))).bind fun vz128 =>
    (gx_scr xs L (x3 + (2 : Int32))).bind fun vz129 =>
    (gx_scr xs L (x3 + (3 : Int32))).bind fun vz130 =>
    (gx_scr xs L (x3 + (4 : Int32))).bind fun vz131 =>
    gx_ob X a1 5 <|
    gx_b2 (gm_X5_code fu a1 vz128 vz129 vz130 vz131 X) fun vz134 Xz133 =>
    (gx_scr xs L (x3 + (1 : Int32))).bind fun vz135 =>
    (gx_scr xs L (x3 + (2 : Int32))).bind fun vz136 =>
    (gx_scr xs L (x3 + (3 : Int32))).bind fun vz137 =>
    (gx_scr xs L (x3 + (4 : Int32))).bind fun vz138 =>
    gx_ob Xz133 a2 6 <|
    gx_b2 (gm_X6_code fu a2 vz135 vz136 vz137 vz138 Xz133) fun vz141 Xz140 =>
    if vz134 = vz141 then (
    gm_L_law_804 fu xs L (gm_L_law_18 fu xs L  n) a1 a2 x3 Xz140) else (
    some ((0 : Int32), Xz140, 0, 0))) else (
    if (vz90 &&& (15 : Int32)) = (5 : Int32) then (
    (gx_scr xs L (x3 + (1 : Int32))).bind fun vz143 =>
    (gx_scr xs L (x3 + (2 : Int32))).bind fun vz144 =>
    (gx_scr xs L (x3 + (3 : Int32))).bind fun vz145 =>
    (gx_scr xs L (x3 + (4 : Int32))).bind fun vz146 =>
    gx_ob X a1 5 <|
    gx_b2 (gm_X5_handler fu a1 vz143 vz144 vz145 vz146 X) fun vz149 Xz148 =>
    (gx_scr xs L (x3 + (1 : Int32))).bind fun vz150 =>
    (gx_scr xs L (x3 + (2 : Int32))).bind fun vz151 =>
    (gx_scr xs L (x3 + (3 : Int32))).bind fun vz152 =>
    (gx_scr xs L (x3 + (4 : Int32))).bind fun vz153 =>
    gx_ob Xz148 a2 6 <|
    gx_b2 (gm_X6_handler fu a2 vz150 vz151 vz152 vz153 Xz148) fun vz156 Xz155 =>
    if vz149 = vz156 then (
    gm_L_law_804 fu xs L (gm_L_law_18 fu xs L  n) a1 a2 x3 Xz155) else (
    some ((0 : Int32), Xz155, 0, 0))) else (
    if (vz90 &&& (15 : Int32)) = (6 : Int32) then (
    gx_ob X a1 5 <|
    gx_b4 (gm_X5_forge fu a1 X) fun vz160 Xz159 cz161 sz161 => gx_ad cz161 sz161 <|
    gx_ob Xz159 a2 6 <|
    gx_b2 (gm_X6_forge fu a2 Xz159) fun vz165 Xz164 =>
    if vz160 = vz165 then (
    gm_L_law_804 fu xs L (gm_L_law_18 fu xs L  n) a1 a2 x3 Xz164) else (
    some ((0 : Int32), Xz164, 0, 0))) else (
    if (vz90 &&& (15 : Int32)) = (7 : Int32) then (
    gx_ob X a1 5 <|
    gx_b2 (gm_X5_take fu a1 X) fun vz169 Xz168 =>
    gx_ob Xz168 a2 6 <|
    gx_b2 (gm_X6_take fu a2 Xz168) fun vz172 Xz171 =>
    if vz169 = vz172 then (
    gm_L_law_804 fu xs L (gm_L_law_18 fu xs L  n) a1 a2 x3 Xz171) else (
    some ((0 : Int32), Xz171, 0, 0))) else (
    if (vz90 &&& (15 : Int32)) = (8 : Int32) then (
    (gx_scr xs L (x3 + (1 : Int32))).bind fun vz174 =>
    if vz174 = 0 then (
    gm_L_law_396 fu xs L (gm_L_law_18 fu xs L  n) a1 a2 x3 a1 (0 : Int32) X) else (
    gm_L_law_396 fu xs L (gm_L_law_18 fu xs L  n) a1 a2 x3 a1 (1 : Int32) X)) else (
    if (vz90 &&& (15 : Int32)) = (9 : Int32) then (
    (gx_scr xs L (x3 + (1 : Int32))).bind fun vz176 =>
    if vz176 = 0 then (
    gm_L_law_435 fu xs L (gm_L_law_18 fu xs L  n) a1 a2 x3 a1 (0 : Int32) X) else (
    gm_L_law_435 fu xs L (gm_L_law_18 fu xs L  n) a1 a2 x3 a1 (1 : Int32) X)) else (
    if (vz90 &&& (15 : Int32)) = (10 : Int32) then (
    (gx_scr xs L (x3 + (1 : Int32))).bind fun vz178 =>
    if vz178 = 0 then (
    gm_L_law_504 fu xs L (gm_L_law_18 fu xs L  n) a1 a2 x3 a1 (0 : Int32) X) else (
    gm_L_law_504 fu xs L (gm_L_law_18 fu xs L  n) a1 a2 x3 a1 (1 : Int32) X)) else (
    if (vz90 &&& (15 : Int32)) = (11 : Int32) then (
    (gx_scr xs L (x3 + (1 : Int32))).bind fun vz180 =>
    if vz180 = 0 then (
    gm_L_law_564 fu xs L (gm_L_law_18 fu xs L  n) a1 a2 x3 a1 (0 : Int32) X) else (
    gm_L_law_564 fu xs L (gm_L_law_18 fu xs L  n) a1 a2 x3 a1 (1 : Int32) X)) else (
    if (vz90 &&& (15 : Int32)) = (12 : Int32) then (
    (gx_scr xs L (x3 + (1 : Int32))).bind fun vz182 =>
    if vz182 = 0 then (
    gm_L_law_624 fu xs L (gm_L_law_18 fu xs L  n) a1 a2 x3 a1 (0 : Int32) X) else (
    gm_L_law_624 fu xs L (gm_L_law_18 fu xs L  n) a1 a2 x3 a1 (1 : Int32) X)) else (
    if (vz90 &&& (15 : Int32)) = (13 : Int32) then (
    (gx_scr xs L (x3 + (1 : Int32))).bind fun vz184 =>
    if vz184 = 0 then (
    gm_L_law_683 fu xs L (gm_L_law_18 fu xs L  n) a1 a2 x3 a1 (0 : Int32) X) else (
    gm_L_law_683 fu xs L (gm_L_law_18 fu xs L  n) a1 a2 x3 a1 (1 : Int32) X)) else (
    if (vz90 &&& (15 : Int32)) = (14 : Int32) then (
    (gx_scr xs L (x3 + (1 : Int32))).bind fun vz186 =>
    (gx_scr xs L (x3 + (2 : Int32))).bind fun vz187 =>
    (gx_scr xs L (x3 + (3 : Int32))).bind fun vz188 =>
    gx_ob X a1 5 <|
    gx_b2 (gm_X5_goes fu a1 vz186 vz187 vz188 X) fun vz191 Xz190 =>
    (gx_scr xs L (x3 + (1 : Int32))).bind fun vz192 =>
    (gx_scr xs L (x3 + (2 : Int32))).bind fun vz193 =>
    (gx_scr xs L (x3 + (3 : Int32))).bind fun vz194 =>
    gx_ob Xz190 a2 6 <|
    gx_b2 (gm_X6_goes fu a2 vz192 vz193 vz194 Xz190) fun vz197 Xz196 =>
    if vz191 = vz197 then (
    gm_L_law_804 fu xs L (gm_L_law_18 fu xs L  n) a1 a2 x3 Xz196) else (
    some ((0 : Int32), Xz196, 0, 0))) else (
    if (vz90 &&& (15 : Int32)) = (15 : Int32) then (
    (gx_scr xs L (x3 + (1 : Int32))).bind fun vz199 =>
    gx_ob X a1 5 <|
    gx_b2 (gm_X5_look fu a1 vz199 X) fun vz202 Xz201 =>
    (gx_scr xs L (x3 + (1 : Int32))).bind fun vz203 =>
    gx_ob Xz201 a2 6 <|
    gx_b2 (gm_X6_look fu a2 vz203 Xz201) fun vz206 Xz205 =>
    if vz202 = vz206 then (
    gm_L_law_804 fu xs L (gm_L_law_18 fu xs L  n) a1 a2 x3 Xz205) else (
    some ((0 : Int32), Xz205, 0, 0))) else (
    gm_L_law_804 fu xs L (gm_L_law_18 fu xs L  n) a1 a2 x3 X)))))))))))))))))
set_option maxHeartbeats 1000000 in
set_option maxRecDepth 20000 in
theorem gt_L_law_18 {p : Program} {l : Launch} {e : Env} {s : State} {m : MethodId} {below : List Frame} {meth : Method} {c : Code} {D : gx_D} {b L : Nat} {xs : Nat → Int32} {X2 : gx_H} (C : gx_C D gz_cl gz_at gz_tb gz_nb p s m meth c code 4 R_law (some .boolean)) (hX : va_X b L xs s s.heap) (hbl : b < s.heap.size) (hbD : D.2.2 = s.heap.size) (fu : Nat) : ∀ (n : Nat) (a1 : Nat) (a2 : Nat) (x3 : Int32) (X : gx_H) (cells slots nc ns : Nat) , gm_L_law_18 fu xs L  n a1 a2 x3 X = some (1, X2, nc, ns) → cells + nc ≤ 600000 → slots + ns ≤ 7302250 → gx_W D gz_cl 4 p l e room_1 s m #[Value.ref b] below meth c cells slots (lw_Z below #[Value.ref b] s) X 18 [some (gx_r (some b)), some (gx_r (some a1)), some (gx_r (some a2)), some (gx_i x3)] [] := by
  intro n
  induction n with
  | zero =>
    intro a1 a2 x3 X cells slots nc ns h
    have h : none = some _ := h
    cases h
  | succ n ih =>
    intro a1 a2 x3 X cells slots nc ns h h1 h2
    rw [gm_L_law_18] at h
    refine gx_iload_n C dL_law_18 rfl rfl ?_
    refine gx_aload_n C dL_law_19 rfl rfl ?_
    refine gx_sle C hX hbl hbD dL_law_20 ?_
    refine gx_iconst (v := 5) C dL_law_21 (by decide) ?_
    refine gx_isub C dL_law_22 ?_
    refine gx_icmp_gt (tgt := 810) C dL_law_23 (by decide) (fun qz89 => ?_) (fun qz89 => ?_)
    · rw [if_pos qz89] at h
      refine gx_iconst (v := 1) C dL_law_810 (by decide) ?_
      cases h
      exact gx_lend C hX hbl hbD dL_law_811 (by omega) (by omega)
    · rw [if_neg qz89] at h
      refine gx_aload_n C dL_law_26 rfl rfl ?_
      refine gx_iload_n C dL_law_27 rfl rfl ?_
      obtain ⟨vz90, evz90, h⟩ := gx_bd h
      refine gx_sld C hX hbl hbD evz90 dL_law_28 ?_
      refine gx_bipush (v := 15) C dL_law_29 (by decide) ?_
      refine gx_iand C dL_law_31 ?_
      by_cases qz91_0 : (vz90 &&& (15 : Int32)) = (0 : Int32)
      · rw [if_pos qz91_0] at h
        refine gx_swIn (tgt := 112) (off := 80) C dL_law_32 (by rw [qz91_0]; decide) (by rw [qz91_0]; decide) (by rw [qz91_0]; decide) (by decide) ?_
        refine gx_aload_n C dL_law_112 rfl rfl ?_
        refine gx_aload_n C dL_law_113 rfl rfl ?_
        refine gx_iload_n C dL_law_114 rfl rfl ?_
        refine gx_iconst (v := 1) C dL_law_115 (by decide) ?_
        refine gx_iadd C dL_law_116 ?_
        obtain ⟨vz92, evz92, h⟩ := gx_bd h
        refine gx_sld C hX hbl hbD evz92 dL_law_117 ?_
        obtain ⟨hoz93, h⟩ := gx_obs h
        obtain ⟨vz95, Xz94, eXz94, h⟩ := gx_bd2 h
        refine gx_callV (As := [gx_i vz92]) (st := []) (stk2 := [gx_i vz95]) C cd_X5_begin wl_115 ws_X5_begin wl_114 rfl hoz93 (gc_X5_begin fu a1 vz92 X vz95 Xz94 eXz94) rfl ⟨Nat.le_of_ble_eq_true rfl, Nat.le_of_ble_eq_true rfl⟩ ⟨show cells + 0 ≤ 600000 by omega, show slots + 0 ≤ 7302250 by omega⟩ (Nat.le_of_ble_eq_true rfl) rfl rfl dL_law_118 ?_
        refine gx_aload_n C dL_law_121 rfl rfl ?_
        refine gx_aload_n C dL_law_122 rfl rfl ?_
        refine gx_iload_n C dL_law_123 rfl rfl ?_
        refine gx_iconst (v := 1) C dL_law_124 (by decide) ?_
        refine gx_iadd C dL_law_125 ?_
        obtain ⟨vz96, evz96, h⟩ := gx_bd h
        refine gx_sld C hX hbl hbD evz96 dL_law_126 ?_
        obtain ⟨hoz97, h⟩ := gx_obs h
        obtain ⟨vz99, Xz98, eXz98, h⟩ := gx_bd2 h
        refine gx_callV (As := [gx_i vz96]) (st := [gx_i vz95]) (stk2 := [gx_i vz99, gx_i vz95]) C cd_X6_begin wl_559 ws_X6_begin wl_558 rfl hoz97 (gc_X6_begin fu a2 vz96 Xz94 vz99 Xz98 eXz98) rfl ⟨Nat.le_of_ble_eq_true rfl, Nat.le_of_ble_eq_true rfl⟩ ⟨show cells + 0 + 0 ≤ 600000 by omega, show slots + 0 + 0 ≤ 7302250 by omega⟩ (Nat.le_of_ble_eq_true rfl) rfl rfl dL_law_127 ?_
        refine gx_icmp_eq (tgt := 804) C dL_law_130 (by decide) (fun qz100 => ?_) (fun qz100 => ?_)
        · rw [if_pos qz100] at h
          exact gt_L_law_804 C hX hbl hbD fu (gm_L_law_18 fu xs L  n) ih a1 a2 x3 Xz98 (cells + 0 + 0) (slots + 0 + 0) _ _ h (by omega) (by omega)
        · rw [if_neg qz100] at h
          refine gx_iconst (v := 0) C dL_law_133 (by decide) ?_
          exact absurd (Prod.mk.inj (Option.some.inj h)).1 (by decide)
      rw [if_neg qz91_0] at h
      by_cases qz91_1 : (vz90 &&& (15 : Int32)) = (1 : Int32)
      · rw [if_pos qz91_1] at h
        refine gx_swIn (tgt := 135) (off := 103) C dL_law_32 (by rw [qz91_1]; decide) (by rw [qz91_1]; decide) (by rw [qz91_1]; decide) (by decide) ?_
        refine gx_aload_n C dL_law_135 rfl rfl ?_
        refine gx_aload_n C dL_law_136 rfl rfl ?_
        refine gx_iload_n C dL_law_137 rfl rfl ?_
        refine gx_iconst (v := 1) C dL_law_138 (by decide) ?_
        refine gx_iadd C dL_law_139 ?_
        obtain ⟨vz101, evz101, h⟩ := gx_bd h
        refine gx_sld C hX hbl hbD evz101 dL_law_140 ?_
        refine gx_aload_n C dL_law_141 rfl rfl ?_
        refine gx_iload_n C dL_law_142 rfl rfl ?_
        refine gx_iconst (v := 2) C dL_law_143 (by decide) ?_
        refine gx_iadd C dL_law_144 ?_
        obtain ⟨vz102, evz102, h⟩ := gx_bd h
        refine gx_sld C hX hbl hbD evz102 dL_law_145 ?_
        refine gx_aload_n C dL_law_146 rfl rfl ?_
        refine gx_iload_n C dL_law_147 rfl rfl ?_
        refine gx_iconst (v := 3) C dL_law_148 (by decide) ?_
        refine gx_iadd C dL_law_149 ?_
        obtain ⟨vz103, evz103, h⟩ := gx_bd h
        refine gx_sld C hX hbl hbD evz103 dL_law_150 ?_
        obtain ⟨hoz104, h⟩ := gx_obs h
        obtain ⟨vz106, Xz105, eXz105, h⟩ := gx_bd2 h
        refine gx_callV (As := [gx_i vz101, gx_i vz102, gx_i vz103]) (st := []) (stk2 := [gx_i vz106]) C cd_X5_way wl_127 ws_X5_way wl_126 rfl hoz104 (gc_X5_way fu a1 vz101 vz102 vz103 X vz106 Xz105 eXz105) rfl ⟨Nat.le_of_ble_eq_true rfl, Nat.le_of_ble_eq_true rfl⟩ ⟨show cells + 0 ≤ 600000 by omega, show slots + 0 ≤ 7302250 by omega⟩ (Nat.le_of_ble_eq_true rfl) rfl rfl dL_law_151 ?_
        refine gx_aload_n C dL_law_154 rfl rfl ?_
        refine gx_aload_n C dL_law_155 rfl rfl ?_
        refine gx_iload_n C dL_law_156 rfl rfl ?_
        refine gx_iconst (v := 1) C dL_law_157 (by decide) ?_
        refine gx_iadd C dL_law_158 ?_
        obtain ⟨vz107, evz107, h⟩ := gx_bd h
        refine gx_sld C hX hbl hbD evz107 dL_law_159 ?_
        refine gx_aload_n C dL_law_160 rfl rfl ?_
        refine gx_iload_n C dL_law_161 rfl rfl ?_
        refine gx_iconst (v := 2) C dL_law_162 (by decide) ?_
        refine gx_iadd C dL_law_163 ?_
        obtain ⟨vz108, evz108, h⟩ := gx_bd h
        refine gx_sld C hX hbl hbD evz108 dL_law_164 ?_
        refine gx_aload_n C dL_law_165 rfl rfl ?_
        refine gx_iload_n C dL_law_166 rfl rfl ?_
        refine gx_iconst (v := 3) C dL_law_167 (by decide) ?_
        refine gx_iadd C dL_law_168 ?_
        obtain ⟨vz109, evz109, h⟩ := gx_bd h
        refine gx_sld C hX hbl hbD evz109 dL_law_169 ?_
        obtain ⟨hoz110, h⟩ := gx_obs h
        obtain ⟨vz112, Xz111, eXz111, h⟩ := gx_bd2 h
        refine gx_callV (As := [gx_i vz107, gx_i vz108, gx_i vz109]) (st := [gx_i vz106]) (stk2 := [gx_i vz112, gx_i vz106]) C cd_X6_way wl_567 ws_X6_way wl_566 rfl hoz110 (gc_X6_way fu a2 vz107 vz108 vz109 Xz105 vz112 Xz111 eXz111) rfl ⟨Nat.le_of_ble_eq_true rfl, Nat.le_of_ble_eq_true rfl⟩ ⟨show cells + 0 + 0 ≤ 600000 by omega, show slots + 0 + 0 ≤ 7302250 by omega⟩ (Nat.le_of_ble_eq_true rfl) rfl rfl dL_law_170 ?_
        refine gx_icmp_eq (tgt := 804) C dL_law_173 (by decide) (fun qz113 => ?_) (fun qz113 => ?_)
        · rw [if_pos qz113] at h
          exact gt_L_law_804 C hX hbl hbD fu (gm_L_law_18 fu xs L  n) ih a1 a2 x3 Xz111 (cells + 0 + 0) (slots + 0 + 0) _ _ h (by omega) (by omega)
        · rw [if_neg qz113] at h
          refine gx_iconst (v := 0) C dL_law_176 (by decide) ?_
          exact absurd (Prod.mk.inj (Option.some.inj h)).1 (by decide)
      rw [if_neg qz91_1] at h
      by_cases qz91_2 : (vz90 &&& (15 : Int32)) = (2 : Int32)
      · rw [if_pos qz91_2] at h
        refine gx_swIn (tgt := 178) (off := 146) C dL_law_32 (by rw [qz91_2]; decide) (by rw [qz91_2]; decide) (by rw [qz91_2]; decide) (by decide) ?_
        refine gx_aload_n C dL_law_178 rfl rfl ?_
        refine gx_aload_n C dL_law_179 rfl rfl ?_
        refine gx_iload_n C dL_law_180 rfl rfl ?_
        refine gx_iconst (v := 1) C dL_law_181 (by decide) ?_
        refine gx_iadd C dL_law_182 ?_
        obtain ⟨vz114, evz114, h⟩ := gx_bd h
        refine gx_sld C hX hbl hbD evz114 dL_law_183 ?_
        refine gx_aload_n C dL_law_184 rfl rfl ?_
        refine gx_iload_n C dL_law_185 rfl rfl ?_
        refine gx_iconst (v := 2) C dL_law_186 (by decide) ?_
        refine gx_iadd C dL_law_187 ?_
        obtain ⟨vz115, evz115, h⟩ := gx_bd h
        refine gx_sld C hX hbl hbD evz115 dL_law_188 ?_
        refine gx_if_eq (tgt := 196) C dL_law_189 (by decide) (fun qz116 => ?_) (fun qz116 => ?_)
        · rw [if_pos qz116] at h
          refine gx_iconst (v := 0) C dL_law_196 (by decide) ?_
          exact gt_L_law_197 C hX hbl hbD fu (gm_L_law_18 fu xs L  n) ih a1 a2 x3 a1 vz114 (0 : Int32) X cells slots _ _ h (by omega) (by omega)
        · rw [if_neg qz116] at h
          refine gx_iconst (v := 1) C dL_law_192 (by decide) ?_
          refine gx_goto (tgt := 197) C dL_law_193 (by decide) ?_
          exact gt_L_law_197 C hX hbl hbD fu (gm_L_law_18 fu xs L  n) ih a1 a2 x3 a1 vz114 (1 : Int32) X cells slots _ _ h (by omega) (by omega)
      rw [if_neg qz91_2] at h
      by_cases qz91_3 : (vz90 &&& (15 : Int32)) = (3 : Int32)
      · rw [if_pos qz91_3] at h
        refine gx_swIn (tgt := 227) (off := 195) C dL_law_32 (by rw [qz91_3]; decide) (by rw [qz91_3]; decide) (by rw [qz91_3]; decide) (by decide) ?_
        refine gx_aload_n C dL_law_227 rfl rfl ?_
        refine gx_aload_n C dL_law_228 rfl rfl ?_
        refine gx_iload_n C dL_law_229 rfl rfl ?_
        refine gx_iconst (v := 1) C dL_law_230 (by decide) ?_
        refine gx_iadd C dL_law_231 ?_
        obtain ⟨vz117, evz117, h⟩ := gx_bd h
        refine gx_sld C hX hbl hbD evz117 dL_law_232 ?_
        obtain ⟨hoz118, h⟩ := gx_obs h
        obtain ⟨vz120, Xz119, cz121, sz121, eXz119, h⟩ := gx_bd4 h
        obtain ⟨cz122, sz122, h, ecz122, esz122⟩ := gx_add h
        refine gx_callV (As := [gx_i vz117]) (st := []) (stk2 := [gx_i vz120]) C cd_X5_function wl_167 ws_X5_function wl_166 rfl hoz118 (gc_X5_function fu a1 vz117 X vz120 Xz119 cz121 sz121 eXz119) rfl ⟨Nat.le_of_ble_eq_true rfl, Nat.le_of_ble_eq_true rfl⟩ ⟨show cells + cz121 ≤ 600000 by omega, show slots + sz121 ≤ 7302250 by omega⟩ (Nat.le_of_ble_eq_true rfl) rfl rfl dL_law_233 ?_
        refine gx_aload_n C dL_law_236 rfl rfl ?_
        refine gx_aload_n C dL_law_237 rfl rfl ?_
        refine gx_iload_n C dL_law_238 rfl rfl ?_
        refine gx_iconst (v := 1) C dL_law_239 (by decide) ?_
        refine gx_iadd C dL_law_240 ?_
        obtain ⟨vz123, evz123, h⟩ := gx_bd h
        refine gx_sld C hX hbl hbD evz123 dL_law_241 ?_
        obtain ⟨hoz124, h⟩ := gx_obs h
        obtain ⟨vz126, Xz125, eXz125, h⟩ := gx_bd2 h
        refine gx_callV (As := [gx_i vz123]) (st := [gx_i vz120]) (stk2 := [gx_i vz126, gx_i vz120]) C cd_X6_function wl_590 ws_X6_function wl_589 rfl hoz124 (gc_X6_function fu a2 vz123 Xz119 vz126 Xz125 eXz125) rfl ⟨Nat.le_of_ble_eq_true rfl, Nat.le_of_ble_eq_true rfl⟩ ⟨show cells + cz121 + 0 ≤ 600000 by omega, show slots + sz121 + 0 ≤ 7302250 by omega⟩ (Nat.le_of_ble_eq_true rfl) rfl rfl dL_law_242 ?_
        refine gx_icmp_eq (tgt := 804) C dL_law_245 (by decide) (fun qz127 => ?_) (fun qz127 => ?_)
        · rw [if_pos qz127] at h
          exact gt_L_law_804 C hX hbl hbD fu (gm_L_law_18 fu xs L  n) ih a1 a2 x3 Xz125 (cells + cz121 + 0) (slots + sz121 + 0) _ _ h (by omega) (by omega)
        · rw [if_neg qz127] at h
          refine gx_iconst (v := 0) C dL_law_248 (by decide) ?_
          exact absurd (Prod.mk.inj (Option.some.inj h)).1 (by decide)
      rw [if_neg qz91_3] at h
      by_cases qz91_4 : (vz90 &&& (15 : Int32)) = (4 : Int32)
      · rw [if_pos qz91_4] at h
        refine gx_swIn (tgt := 250) (off := 218) C dL_law_32 (by rw [qz91_4]; decide) (by rw [qz91_4]; decide) (by rw [qz91_4]; decide) (by decide) ?_
        refine gx_aload_n C dL_law_250 rfl rfl ?_
        refine gx_aload_n C dL_law_251 rfl rfl ?_
        refine gx_iload_n C dL_law_252 rfl rfl ?_
        refine gx_iconst (v := 1) C dL_law_253 (by decide) ?_
        refine gx_iadd C dL_law_254 ?_
        obtain ⟨vz128, evz128, h⟩ := gx_bd h
        refine gx_sld C hX hbl hbD evz128 dL_law_255 ?_
        refine gx_aload_n C dL_law_256 rfl rfl ?_
        refine gx_iload_n C dL_law_257 rfl rfl ?_
        refine gx_iconst (v := 2) C dL_law_258 (by decide) ?_
        refine gx_iadd C dL_law_259 ?_
        obtain ⟨vz129, evz129, h⟩ := gx_bd h
        refine gx_sld C hX hbl hbD evz129 dL_law_260 ?_
        refine gx_aload_n C dL_law_261 rfl rfl ?_
        refine gx_iload_n C dL_law_262 rfl rfl ?_
        refine gx_iconst (v := 3) C dL_law_263 (by decide) ?_
        refine gx_iadd C dL_law_264 ?_
        obtain ⟨vz130, evz130, h⟩ := gx_bd h
        refine gx_sld C hX hbl hbD evz130 dL_law_265 ?_
        refine gx_aload_n C dL_law_266 rfl rfl ?_
        refine gx_iload_n C dL_law_267 rfl rfl ?_
        refine gx_iconst (v := 4) C dL_law_268 (by decide) ?_
        refine gx_iadd C dL_law_269 ?_
        obtain ⟨vz131, evz131, h⟩ := gx_bd h
        refine gx_sld C hX hbl hbD evz131 dL_law_270 ?_
        obtain ⟨hoz132, h⟩ := gx_obs h
        obtain ⟨vz134, Xz133, eXz133, h⟩ := gx_bd2 h
        refine gx_callV (As := [gx_i vz128, gx_i vz129, gx_i vz130, gx_i vz131]) (st := []) (stk2 := [gx_i vz134]) C cd_X5_code wl_271 ws_X5_code wl_270 rfl hoz132 (gc_X5_code fu a1 vz128 vz129 vz130 vz131 X vz134 Xz133 eXz133) rfl ⟨Nat.le_of_ble_eq_true rfl, Nat.le_of_ble_eq_true rfl⟩ ⟨show cells + 0 ≤ 600000 by omega, show slots + 0 ≤ 7302250 by omega⟩ (Nat.le_of_ble_eq_true rfl) rfl rfl dL_law_271 ?_
        refine gx_aload_n C dL_law_274 rfl rfl ?_
        refine gx_aload_n C dL_law_275 rfl rfl ?_
        refine gx_iload_n C dL_law_276 rfl rfl ?_
        refine gx_iconst (v := 1) C dL_law_277 (by decide) ?_
        refine gx_iadd C dL_law_278 ?_
        obtain ⟨vz135, evz135, h⟩ := gx_bd h
        refine gx_sld C hX hbl hbD evz135 dL_law_279 ?_
        refine gx_aload_n C dL_law_280 rfl rfl ?_
        refine gx_iload_n C dL_law_281 rfl rfl ?_
        refine gx_iconst (v := 2) C dL_law_282 (by decide) ?_
        refine gx_iadd C dL_law_283 ?_
        obtain ⟨vz136, evz136, h⟩ := gx_bd h
        refine gx_sld C hX hbl hbD evz136 dL_law_284 ?_
        refine gx_aload_n C dL_law_285 rfl rfl ?_
        refine gx_iload_n C dL_law_286 rfl rfl ?_
        refine gx_iconst (v := 3) C dL_law_287 (by decide) ?_
        refine gx_iadd C dL_law_288 ?_
        obtain ⟨vz137, evz137, h⟩ := gx_bd h
        refine gx_sld C hX hbl hbD evz137 dL_law_289 ?_
        refine gx_aload_n C dL_law_290 rfl rfl ?_
        refine gx_iload_n C dL_law_291 rfl rfl ?_
        refine gx_iconst (v := 4) C dL_law_292 (by decide) ?_
        refine gx_iadd C dL_law_293 ?_
        obtain ⟨vz138, evz138, h⟩ := gx_bd h
        refine gx_sld C hX hbl hbD evz138 dL_law_294 ?_
        obtain ⟨hoz139, h⟩ := gx_obs h
        obtain ⟨vz141, Xz140, eXz140, h⟩ := gx_bd2 h
        refine gx_callV (As := [gx_i vz135, gx_i vz136, gx_i vz137, gx_i vz138]) (st := [gx_i vz134]) (stk2 := [gx_i vz141, gx_i vz134]) C cd_X6_code wl_594 ws_X6_code wl_593 rfl hoz139 (gc_X6_code fu a2 vz135 vz136 vz137 vz138 Xz133 vz141 Xz140 eXz140) rfl ⟨Nat.le_of_ble_eq_true rfl, Nat.le_of_ble_eq_true rfl⟩ ⟨show cells + 0 + 0 ≤ 600000 by omega, show slots + 0 + 0 ≤ 7302250 by omega⟩ (Nat.le_of_ble_eq_true rfl) rfl rfl dL_law_295 ?_
        refine gx_icmp_eq (tgt := 804) C dL_law_298 (by decide) (fun qz142 => ?_) (fun qz142 => ?_)
        · rw [if_pos qz142] at h
          exact gt_L_law_804 C hX hbl hbD fu (gm_L_law_18 fu xs L  n) ih a1 a2 x3 Xz140 (cells + 0 + 0) (slots + 0 + 0) _ _ h (by omega) (by omega)
        · rw [if_neg qz142] at h
          refine gx_iconst (v := 0) C dL_law_301 (by decide) ?_
          exact absurd (Prod.mk.inj (Option.some.inj h)).1 (by decide)
      rw [if_neg qz91_4] at h
      by_cases qz91_5 : (vz90 &&& (15 : Int32)) = (5 : Int32)
      · rw [if_pos qz91_5] at h
        refine gx_swIn (tgt := 303) (off := 271) C dL_law_32 (by rw [qz91_5]; decide) (by rw [qz91_5]; decide) (by rw [qz91_5]; decide) (by decide) ?_
        refine gx_aload_n C dL_law_303 rfl rfl ?_
        refine gx_aload_n C dL_law_304 rfl rfl ?_
        refine gx_iload_n C dL_law_305 rfl rfl ?_
        refine gx_iconst (v := 1) C dL_law_306 (by decide) ?_
        refine gx_iadd C dL_law_307 ?_
        obtain ⟨vz143, evz143, h⟩ := gx_bd h
        refine gx_sld C hX hbl hbD evz143 dL_law_308 ?_
        refine gx_aload_n C dL_law_309 rfl rfl ?_
        refine gx_iload_n C dL_law_310 rfl rfl ?_
        refine gx_iconst (v := 2) C dL_law_311 (by decide) ?_
        refine gx_iadd C dL_law_312 ?_
        obtain ⟨vz144, evz144, h⟩ := gx_bd h
        refine gx_sld C hX hbl hbD evz144 dL_law_313 ?_
        refine gx_aload_n C dL_law_314 rfl rfl ?_
        refine gx_iload_n C dL_law_315 rfl rfl ?_
        refine gx_iconst (v := 3) C dL_law_316 (by decide) ?_
        refine gx_iadd C dL_law_317 ?_
        obtain ⟨vz145, evz145, h⟩ := gx_bd h
        refine gx_sld C hX hbl hbD evz145 dL_law_318 ?_
        refine gx_aload_n C dL_law_319 rfl rfl ?_
        refine gx_iload_n C dL_law_320 rfl rfl ?_
        refine gx_iconst (v := 4) C dL_law_321 (by decide) ?_
        refine gx_iadd C dL_law_322 ?_
        obtain ⟨vz146, evz146, h⟩ := gx_bd h
        refine gx_sld C hX hbl hbD evz146 dL_law_323 ?_
        obtain ⟨hoz147, h⟩ := gx_obs h
        obtain ⟨vz149, Xz148, eXz148, h⟩ := gx_bd2 h
        refine gx_callV (As := [gx_i vz143, gx_i vz144, gx_i vz145, gx_i vz146]) (st := []) (stk2 := [gx_i vz149]) C cd_X5_handler wl_289 ws_X5_handler wl_288 rfl hoz147 (gc_X5_handler fu a1 vz143 vz144 vz145 vz146 X vz149 Xz148 eXz148) rfl ⟨Nat.le_of_ble_eq_true rfl, Nat.le_of_ble_eq_true rfl⟩ ⟨show cells + 0 ≤ 600000 by omega, show slots + 0 ≤ 7302250 by omega⟩ (Nat.le_of_ble_eq_true rfl) rfl rfl dL_law_324 ?_
        refine gx_aload_n C dL_law_327 rfl rfl ?_
        refine gx_aload_n C dL_law_328 rfl rfl ?_
        refine gx_iload_n C dL_law_329 rfl rfl ?_
        refine gx_iconst (v := 1) C dL_law_330 (by decide) ?_
        refine gx_iadd C dL_law_331 ?_
        obtain ⟨vz150, evz150, h⟩ := gx_bd h
        refine gx_sld C hX hbl hbD evz150 dL_law_332 ?_
        refine gx_aload_n C dL_law_333 rfl rfl ?_
        refine gx_iload_n C dL_law_334 rfl rfl ?_
        refine gx_iconst (v := 2) C dL_law_335 (by decide) ?_
        refine gx_iadd C dL_law_336 ?_
        obtain ⟨vz151, evz151, h⟩ := gx_bd h
        refine gx_sld C hX hbl hbD evz151 dL_law_337 ?_
        refine gx_aload_n C dL_law_338 rfl rfl ?_
        refine gx_iload_n C dL_law_339 rfl rfl ?_
        refine gx_iconst (v := 3) C dL_law_340 (by decide) ?_
        refine gx_iadd C dL_law_341 ?_
        obtain ⟨vz152, evz152, h⟩ := gx_bd h
        refine gx_sld C hX hbl hbD evz152 dL_law_342 ?_
        refine gx_aload_n C dL_law_343 rfl rfl ?_
        refine gx_iload_n C dL_law_344 rfl rfl ?_
        refine gx_iconst (v := 4) C dL_law_345 (by decide) ?_
        refine gx_iadd C dL_law_346 ?_
        obtain ⟨vz153, evz153, h⟩ := gx_bd h
        refine gx_sld C hX hbl hbD evz153 dL_law_347 ?_
        obtain ⟨hoz154, h⟩ := gx_obs h
        obtain ⟨vz156, Xz155, eXz155, h⟩ := gx_bd2 h
        refine gx_callV (As := [gx_i vz150, gx_i vz151, gx_i vz152, gx_i vz153]) (st := [gx_i vz149]) (stk2 := [gx_i vz156, gx_i vz149]) C cd_X6_handler wl_606 ws_X6_handler wl_605 rfl hoz154 (gc_X6_handler fu a2 vz150 vz151 vz152 vz153 Xz148 vz156 Xz155 eXz155) rfl ⟨Nat.le_of_ble_eq_true rfl, Nat.le_of_ble_eq_true rfl⟩ ⟨show cells + 0 + 0 ≤ 600000 by omega, show slots + 0 + 0 ≤ 7302250 by omega⟩ (Nat.le_of_ble_eq_true rfl) rfl rfl dL_law_348 ?_
        refine gx_icmp_eq (tgt := 804) C dL_law_351 (by decide) (fun qz157 => ?_) (fun qz157 => ?_)
        · rw [if_pos qz157] at h
          exact gt_L_law_804 C hX hbl hbD fu (gm_L_law_18 fu xs L  n) ih a1 a2 x3 Xz155 (cells + 0 + 0) (slots + 0 + 0) _ _ h (by omega) (by omega)
        · rw [if_neg qz157] at h
          refine gx_iconst (v := 0) C dL_law_354 (by decide) ?_
          exact absurd (Prod.mk.inj (Option.some.inj h)).1 (by decide)
      rw [if_neg qz91_5] at h
      by_cases qz91_6 : (vz90 &&& (15 : Int32)) = (6 : Int32)
      · rw [if_pos qz91_6] at h
        refine gx_swIn (tgt := 356) (off := 324) C dL_law_32 (by rw [qz91_6]; decide) (by rw [qz91_6]; decide) (by rw [qz91_6]; decide) (by decide) ?_
        refine gx_aload_n C dL_law_356 rfl rfl ?_
        obtain ⟨hoz158, h⟩ := gx_obs h
        obtain ⟨vz160, Xz159, cz161, sz161, eXz159, h⟩ := gx_bd4 h
        obtain ⟨cz162, sz162, h, ecz162, esz162⟩ := gx_add h
        refine gx_callV (As := []) (st := []) (stk2 := [gx_i vz160]) C cd_X5_forge wl_301 ws_X5_forge wl_300 rfl hoz158 (gc_X5_forge fu a1 X vz160 Xz159 cz161 sz161 eXz159) rfl ⟨Nat.le_of_ble_eq_true rfl, Nat.le_of_ble_eq_true rfl⟩ ⟨show cells + cz161 ≤ 600000 by omega, show slots + sz161 ≤ 7302250 by omega⟩ (Nat.le_of_ble_eq_true rfl) rfl rfl dL_law_357 ?_
        refine gx_aload_n C dL_law_360 rfl rfl ?_
        obtain ⟨hoz163, h⟩ := gx_obs h
        obtain ⟨vz165, Xz164, eXz164, h⟩ := gx_bd2 h
        refine gx_callV (As := []) (st := [gx_i vz160]) (stk2 := [gx_i vz165, gx_i vz160]) C cd_X6_forge wl_610 ws_X6_forge wl_609 rfl hoz163 (gc_X6_forge fu a2 Xz159 vz165 Xz164 eXz164) rfl ⟨Nat.le_of_ble_eq_true rfl, Nat.le_of_ble_eq_true rfl⟩ ⟨show cells + cz161 + 0 ≤ 600000 by omega, show slots + sz161 + 0 ≤ 7302250 by omega⟩ (Nat.le_of_ble_eq_true rfl) rfl rfl dL_law_361 ?_
        refine gx_icmp_eq (tgt := 804) C dL_law_364 (by decide) (fun qz166 => ?_) (fun qz166 => ?_)
        · rw [if_pos qz166] at h
          exact gt_L_law_804 C hX hbl hbD fu (gm_L_law_18 fu xs L  n) ih a1 a2 x3 Xz164 (cells + cz161 + 0) (slots + sz161 + 0) _ _ h (by omega) (by omega)
        · rw [if_neg qz166] at h
          refine gx_iconst (v := 0) C dL_law_367 (by decide) ?_
          exact absurd (Prod.mk.inj (Option.some.inj h)).1 (by decide)
      rw [if_neg qz91_6] at h
      by_cases qz91_7 : (vz90 &&& (15 : Int32)) = (7 : Int32)
      · rw [if_pos qz91_7] at h
        refine gx_swIn (tgt := 369) (off := 337) C dL_law_32 (by rw [qz91_7]; decide) (by rw [qz91_7]; decide) (by rw [qz91_7]; decide) (by decide) ?_
        refine gx_aload_n C dL_law_369 rfl rfl ?_
        obtain ⟨hoz167, h⟩ := gx_obs h
        obtain ⟨vz169, Xz168, eXz168, h⟩ := gx_bd2 h
        refine gx_callV (As := []) (st := []) (stk2 := [gx_i vz169]) C cd_X5_take wl_417 ws_X5_take wl_416 rfl hoz167 (gc_X5_take fu a1 X vz169 Xz168 eXz168) rfl ⟨Nat.le_of_ble_eq_true rfl, Nat.le_of_ble_eq_true rfl⟩ ⟨show cells + 0 ≤ 600000 by omega, show slots + 0 ≤ 7302250 by omega⟩ (Nat.le_of_ble_eq_true rfl) rfl rfl dL_law_370 ?_
        refine gx_aload_n C dL_law_373 rfl rfl ?_
        obtain ⟨hoz170, h⟩ := gx_obs h
        obtain ⟨vz172, Xz171, eXz171, h⟩ := gx_bd2 h
        refine gx_callV (As := []) (st := [gx_i vz169]) (stk2 := [gx_i vz172, gx_i vz169]) C cd_X6_take wl_654 ws_X6_take wl_653 rfl hoz170 (gc_X6_take fu a2 Xz168 vz172 Xz171 eXz171) rfl ⟨Nat.le_of_ble_eq_true rfl, Nat.le_of_ble_eq_true rfl⟩ ⟨show cells + 0 + 0 ≤ 600000 by omega, show slots + 0 + 0 ≤ 7302250 by omega⟩ (Nat.le_of_ble_eq_true rfl) rfl rfl dL_law_374 ?_
        refine gx_icmp_eq (tgt := 804) C dL_law_377 (by decide) (fun qz173 => ?_) (fun qz173 => ?_)
        · rw [if_pos qz173] at h
          exact gt_L_law_804 C hX hbl hbD fu (gm_L_law_18 fu xs L  n) ih a1 a2 x3 Xz171 (cells + 0 + 0) (slots + 0 + 0) _ _ h (by omega) (by omega)
        · rw [if_neg qz173] at h
          refine gx_iconst (v := 0) C dL_law_380 (by decide) ?_
          exact absurd (Prod.mk.inj (Option.some.inj h)).1 (by decide)
      rw [if_neg qz91_7] at h
      by_cases qz91_8 : (vz90 &&& (15 : Int32)) = (8 : Int32)
      · rw [if_pos qz91_8] at h
        refine gx_swIn (tgt := 382) (off := 350) C dL_law_32 (by rw [qz91_8]; decide) (by rw [qz91_8]; decide) (by rw [qz91_8]; decide) (by decide) ?_
        refine gx_aload_n C dL_law_382 rfl rfl ?_
        refine gx_aload_n C dL_law_383 rfl rfl ?_
        refine gx_iload_n C dL_law_384 rfl rfl ?_
        refine gx_iconst (v := 1) C dL_law_385 (by decide) ?_
        refine gx_iadd C dL_law_386 ?_
        obtain ⟨vz174, evz174, h⟩ := gx_bd h
        refine gx_sld C hX hbl hbD evz174 dL_law_387 ?_
        refine gx_if_eq (tgt := 395) C dL_law_388 (by decide) (fun qz175 => ?_) (fun qz175 => ?_)
        · rw [if_pos qz175] at h
          refine gx_iconst (v := 0) C dL_law_395 (by decide) ?_
          exact gt_L_law_396 C hX hbl hbD fu (gm_L_law_18 fu xs L  n) ih a1 a2 x3 a1 (0 : Int32) X cells slots _ _ h (by omega) (by omega)
        · rw [if_neg qz175] at h
          refine gx_iconst (v := 1) C dL_law_391 (by decide) ?_
          refine gx_goto (tgt := 396) C dL_law_392 (by decide) ?_
          exact gt_L_law_396 C hX hbl hbD fu (gm_L_law_18 fu xs L  n) ih a1 a2 x3 a1 (1 : Int32) X cells slots _ _ h (by omega) (by omega)
      rw [if_neg qz91_8] at h
      by_cases qz91_9 : (vz90 &&& (15 : Int32)) = (9 : Int32)
      · rw [if_pos qz91_9] at h
        refine gx_swIn (tgt := 421) (off := 389) C dL_law_32 (by rw [qz91_9]; decide) (by rw [qz91_9]; decide) (by rw [qz91_9]; decide) (by decide) ?_
        refine gx_aload_n C dL_law_421 rfl rfl ?_
        refine gx_aload_n C dL_law_422 rfl rfl ?_
        refine gx_iload_n C dL_law_423 rfl rfl ?_
        refine gx_iconst (v := 1) C dL_law_424 (by decide) ?_
        refine gx_iadd C dL_law_425 ?_
        obtain ⟨vz176, evz176, h⟩ := gx_bd h
        refine gx_sld C hX hbl hbD evz176 dL_law_426 ?_
        refine gx_if_eq (tgt := 434) C dL_law_427 (by decide) (fun qz177 => ?_) (fun qz177 => ?_)
        · rw [if_pos qz177] at h
          refine gx_iconst (v := 0) C dL_law_434 (by decide) ?_
          exact gt_L_law_435 C hX hbl hbD fu (gm_L_law_18 fu xs L  n) ih a1 a2 x3 a1 (0 : Int32) X cells slots _ _ h (by omega) (by omega)
        · rw [if_neg qz177] at h
          refine gx_iconst (v := 1) C dL_law_430 (by decide) ?_
          refine gx_goto (tgt := 435) C dL_law_431 (by decide) ?_
          exact gt_L_law_435 C hX hbl hbD fu (gm_L_law_18 fu xs L  n) ih a1 a2 x3 a1 (1 : Int32) X cells slots _ _ h (by omega) (by omega)
      rw [if_neg qz91_9] at h
      by_cases qz91_10 : (vz90 &&& (15 : Int32)) = (10 : Int32)
      · rw [if_pos qz91_10] at h
        refine gx_swIn (tgt := 490) (off := 458) C dL_law_32 (by rw [qz91_10]; decide) (by rw [qz91_10]; decide) (by rw [qz91_10]; decide) (by decide) ?_
        refine gx_aload_n C dL_law_490 rfl rfl ?_
        refine gx_aload_n C dL_law_491 rfl rfl ?_
        refine gx_iload_n C dL_law_492 rfl rfl ?_
        refine gx_iconst (v := 1) C dL_law_493 (by decide) ?_
        refine gx_iadd C dL_law_494 ?_
        obtain ⟨vz178, evz178, h⟩ := gx_bd h
        refine gx_sld C hX hbl hbD evz178 dL_law_495 ?_
        refine gx_if_eq (tgt := 503) C dL_law_496 (by decide) (fun qz179 => ?_) (fun qz179 => ?_)
        · rw [if_pos qz179] at h
          refine gx_iconst (v := 0) C dL_law_503 (by decide) ?_
          exact gt_L_law_504 C hX hbl hbD fu (gm_L_law_18 fu xs L  n) ih a1 a2 x3 a1 (0 : Int32) X cells slots _ _ h (by omega) (by omega)
        · rw [if_neg qz179] at h
          refine gx_iconst (v := 1) C dL_law_499 (by decide) ?_
          refine gx_goto (tgt := 504) C dL_law_500 (by decide) ?_
          exact gt_L_law_504 C hX hbl hbD fu (gm_L_law_18 fu xs L  n) ih a1 a2 x3 a1 (1 : Int32) X cells slots _ _ h (by omega) (by omega)
      rw [if_neg qz91_10] at h
      by_cases qz91_11 : (vz90 &&& (15 : Int32)) = (11 : Int32)
      · rw [if_pos qz91_11] at h
        refine gx_swIn (tgt := 550) (off := 518) C dL_law_32 (by rw [qz91_11]; decide) (by rw [qz91_11]; decide) (by rw [qz91_11]; decide) (by decide) ?_
        refine gx_aload_n C dL_law_550 rfl rfl ?_
        refine gx_aload_n C dL_law_551 rfl rfl ?_
        refine gx_iload_n C dL_law_552 rfl rfl ?_
        refine gx_iconst (v := 1) C dL_law_553 (by decide) ?_
        refine gx_iadd C dL_law_554 ?_
        obtain ⟨vz180, evz180, h⟩ := gx_bd h
        refine gx_sld C hX hbl hbD evz180 dL_law_555 ?_
        refine gx_if_eq (tgt := 563) C dL_law_556 (by decide) (fun qz181 => ?_) (fun qz181 => ?_)
        · rw [if_pos qz181] at h
          refine gx_iconst (v := 0) C dL_law_563 (by decide) ?_
          exact gt_L_law_564 C hX hbl hbD fu (gm_L_law_18 fu xs L  n) ih a1 a2 x3 a1 (0 : Int32) X cells slots _ _ h (by omega) (by omega)
        · rw [if_neg qz181] at h
          refine gx_iconst (v := 1) C dL_law_559 (by decide) ?_
          refine gx_goto (tgt := 564) C dL_law_560 (by decide) ?_
          exact gt_L_law_564 C hX hbl hbD fu (gm_L_law_18 fu xs L  n) ih a1 a2 x3 a1 (1 : Int32) X cells slots _ _ h (by omega) (by omega)
      rw [if_neg qz91_11] at h
      by_cases qz91_12 : (vz90 &&& (15 : Int32)) = (12 : Int32)
      · rw [if_pos qz91_12] at h
        refine gx_swIn (tgt := 610) (off := 578) C dL_law_32 (by rw [qz91_12]; decide) (by rw [qz91_12]; decide) (by rw [qz91_12]; decide) (by decide) ?_
        refine gx_aload_n C dL_law_610 rfl rfl ?_
        refine gx_aload_n C dL_law_611 rfl rfl ?_
        refine gx_iload_n C dL_law_612 rfl rfl ?_
        refine gx_iconst (v := 1) C dL_law_613 (by decide) ?_
        refine gx_iadd C dL_law_614 ?_
        obtain ⟨vz182, evz182, h⟩ := gx_bd h
        refine gx_sld C hX hbl hbD evz182 dL_law_615 ?_
        refine gx_if_eq (tgt := 623) C dL_law_616 (by decide) (fun qz183 => ?_) (fun qz183 => ?_)
        · rw [if_pos qz183] at h
          refine gx_iconst (v := 0) C dL_law_623 (by decide) ?_
          exact gt_L_law_624 C hX hbl hbD fu (gm_L_law_18 fu xs L  n) ih a1 a2 x3 a1 (0 : Int32) X cells slots _ _ h (by omega) (by omega)
        · rw [if_neg qz183] at h
          refine gx_iconst (v := 1) C dL_law_619 (by decide) ?_
          refine gx_goto (tgt := 624) C dL_law_620 (by decide) ?_
          exact gt_L_law_624 C hX hbl hbD fu (gm_L_law_18 fu xs L  n) ih a1 a2 x3 a1 (1 : Int32) X cells slots _ _ h (by omega) (by omega)
      rw [if_neg qz91_12] at h
      by_cases qz91_13 : (vz90 &&& (15 : Int32)) = (13 : Int32)
      · rw [if_pos qz91_13] at h
        refine gx_swIn (tgt := 669) (off := 637) C dL_law_32 (by rw [qz91_13]; decide) (by rw [qz91_13]; decide) (by rw [qz91_13]; decide) (by decide) ?_
        refine gx_aload_n C dL_law_669 rfl rfl ?_
        refine gx_aload_n C dL_law_670 rfl rfl ?_
        refine gx_iload_n C dL_law_671 rfl rfl ?_
        refine gx_iconst (v := 1) C dL_law_672 (by decide) ?_
        refine gx_iadd C dL_law_673 ?_
        obtain ⟨vz184, evz184, h⟩ := gx_bd h
        refine gx_sld C hX hbl hbD evz184 dL_law_674 ?_
        refine gx_if_eq (tgt := 682) C dL_law_675 (by decide) (fun qz185 => ?_) (fun qz185 => ?_)
        · rw [if_pos qz185] at h
          refine gx_iconst (v := 0) C dL_law_682 (by decide) ?_
          exact gt_L_law_683 C hX hbl hbD fu (gm_L_law_18 fu xs L  n) ih a1 a2 x3 a1 (0 : Int32) X cells slots _ _ h (by omega) (by omega)
        · rw [if_neg qz185] at h
          refine gx_iconst (v := 1) C dL_law_678 (by decide) ?_
          refine gx_goto (tgt := 683) C dL_law_679 (by decide) ?_
          exact gt_L_law_683 C hX hbl hbD fu (gm_L_law_18 fu xs L  n) ih a1 a2 x3 a1 (1 : Int32) X cells slots _ _ h (by omega) (by omega)
      rw [if_neg qz91_13] at h
      by_cases qz91_14 : (vz90 &&& (15 : Int32)) = (14 : Int32)
      · rw [if_pos qz91_14] at h
        refine gx_swIn (tgt := 738) (off := 706) C dL_law_32 (by rw [qz91_14]; decide) (by rw [qz91_14]; decide) (by rw [qz91_14]; decide) (by decide) ?_
        refine gx_aload_n C dL_law_738 rfl rfl ?_
        refine gx_aload_n C dL_law_739 rfl rfl ?_
        refine gx_iload_n C dL_law_740 rfl rfl ?_
        refine gx_iconst (v := 1) C dL_law_741 (by decide) ?_
        refine gx_iadd C dL_law_742 ?_
        obtain ⟨vz186, evz186, h⟩ := gx_bd h
        refine gx_sld C hX hbl hbD evz186 dL_law_743 ?_
        refine gx_aload_n C dL_law_744 rfl rfl ?_
        refine gx_iload_n C dL_law_745 rfl rfl ?_
        refine gx_iconst (v := 2) C dL_law_746 (by decide) ?_
        refine gx_iadd C dL_law_747 ?_
        obtain ⟨vz187, evz187, h⟩ := gx_bd h
        refine gx_sld C hX hbl hbD evz187 dL_law_748 ?_
        refine gx_aload_n C dL_law_749 rfl rfl ?_
        refine gx_iload_n C dL_law_750 rfl rfl ?_
        refine gx_iconst (v := 3) C dL_law_751 (by decide) ?_
        refine gx_iadd C dL_law_752 ?_
        obtain ⟨vz188, evz188, h⟩ := gx_bd h
        refine gx_sld C hX hbl hbD evz188 dL_law_753 ?_
        obtain ⟨hoz189, h⟩ := gx_obs h
        obtain ⟨vz191, Xz190, eXz190, h⟩ := gx_bd2 h
        refine gx_callV (As := [gx_i vz186, gx_i vz187, gx_i vz188]) (st := []) (stk2 := [gx_i vz191]) C cd_X5_goes wl_474 ws_X5_goes wl_473 rfl hoz189 (gc_X5_goes fu a1 vz186 vz187 vz188 X vz191 Xz190 eXz190) rfl ⟨Nat.le_of_ble_eq_true rfl, Nat.le_of_ble_eq_true rfl⟩ ⟨show cells + 0 ≤ 600000 by omega, show slots + 0 ≤ 7302250 by omega⟩ (Nat.le_of_ble_eq_true rfl) rfl rfl dL_law_754 ?_
        refine gx_aload_n C dL_law_757 rfl rfl ?_
        refine gx_aload_n C dL_law_758 rfl rfl ?_
        refine gx_iload_n C dL_law_759 rfl rfl ?_
        refine gx_iconst (v := 1) C dL_law_760 (by decide) ?_
        refine gx_iadd C dL_law_761 ?_
        obtain ⟨vz192, evz192, h⟩ := gx_bd h
        refine gx_sld C hX hbl hbD evz192 dL_law_762 ?_
        refine gx_aload_n C dL_law_763 rfl rfl ?_
        refine gx_iload_n C dL_law_764 rfl rfl ?_
        refine gx_iconst (v := 2) C dL_law_765 (by decide) ?_
        refine gx_iadd C dL_law_766 ?_
        obtain ⟨vz193, evz193, h⟩ := gx_bd h
        refine gx_sld C hX hbl hbD evz193 dL_law_767 ?_
        refine gx_aload_n C dL_law_768 rfl rfl ?_
        refine gx_iload_n C dL_law_769 rfl rfl ?_
        refine gx_iconst (v := 3) C dL_law_770 (by decide) ?_
        refine gx_iadd C dL_law_771 ?_
        obtain ⟨vz194, evz194, h⟩ := gx_bd h
        refine gx_sld C hX hbl hbD evz194 dL_law_772 ?_
        obtain ⟨hoz195, h⟩ := gx_obs h
        obtain ⟨vz197, Xz196, eXz196, h⟩ := gx_bd2 h
        refine gx_callV (As := [gx_i vz192, gx_i vz193, gx_i vz194]) (st := [gx_i vz191]) (stk2 := [gx_i vz197, gx_i vz191]) C cd_X6_goes wl_582 ws_X6_goes wl_581 rfl hoz195 (gc_X6_goes fu a2 vz192 vz193 vz194 Xz190 vz197 Xz196 eXz196) rfl ⟨Nat.le_of_ble_eq_true rfl, Nat.le_of_ble_eq_true rfl⟩ ⟨show cells + 0 + 0 ≤ 600000 by omega, show slots + 0 + 0 ≤ 7302250 by omega⟩ (Nat.le_of_ble_eq_true rfl) rfl rfl dL_law_773 ?_
        refine gx_icmp_eq (tgt := 804) C dL_law_776 (by decide) (fun qz198 => ?_) (fun qz198 => ?_)
        · rw [if_pos qz198] at h
          exact gt_L_law_804 C hX hbl hbD fu (gm_L_law_18 fu xs L  n) ih a1 a2 x3 Xz196 (cells + 0 + 0) (slots + 0 + 0) _ _ h (by omega) (by omega)
        · rw [if_neg qz198] at h
          refine gx_iconst (v := 0) C dL_law_779 (by decide) ?_
          exact absurd (Prod.mk.inj (Option.some.inj h)).1 (by decide)
      rw [if_neg qz91_14] at h
      by_cases qz91_15 : (vz90 &&& (15 : Int32)) = (15 : Int32)
      · rw [if_pos qz91_15] at h
        refine gx_swIn (tgt := 781) (off := 749) C dL_law_32 (by rw [qz91_15]; decide) (by rw [qz91_15]; decide) (by rw [qz91_15]; decide) (by decide) ?_
        refine gx_aload_n C dL_law_781 rfl rfl ?_
        refine gx_aload_n C dL_law_782 rfl rfl ?_
        refine gx_iload_n C dL_law_783 rfl rfl ?_
        refine gx_iconst (v := 1) C dL_law_784 (by decide) ?_
        refine gx_iadd C dL_law_785 ?_
        obtain ⟨vz199, evz199, h⟩ := gx_bd h
        refine gx_sld C hX hbl hbD evz199 dL_law_786 ?_
        obtain ⟨hoz200, h⟩ := gx_obs h
        obtain ⟨vz202, Xz201, eXz201, h⟩ := gx_bd2 h
        refine gx_callV (As := [gx_i vz199]) (st := []) (stk2 := [gx_i vz202]) C cd_X5_look wl_478 ws_X5_look wl_477 rfl hoz200 (gc_X5_look fu a1 vz199 X vz202 Xz201 eXz201) rfl ⟨Nat.le_of_ble_eq_true rfl, Nat.le_of_ble_eq_true rfl⟩ ⟨show cells + 0 ≤ 600000 by omega, show slots + 0 ≤ 7302250 by omega⟩ (Nat.le_of_ble_eq_true rfl) rfl rfl dL_law_787 ?_
        refine gx_aload_n C dL_law_790 rfl rfl ?_
        refine gx_aload_n C dL_law_791 rfl rfl ?_
        refine gx_iload_n C dL_law_792 rfl rfl ?_
        refine gx_iconst (v := 1) C dL_law_793 (by decide) ?_
        refine gx_iadd C dL_law_794 ?_
        obtain ⟨vz203, evz203, h⟩ := gx_bd h
        refine gx_sld C hX hbl hbD evz203 dL_law_795 ?_
        obtain ⟨hoz204, h⟩ := gx_obs h
        obtain ⟨vz206, Xz205, eXz205, h⟩ := gx_bd2 h
        refine gx_callV (As := [gx_i vz203]) (st := [gx_i vz202]) (stk2 := [gx_i vz206, gx_i vz202]) C cd_X6_look wl_698 ws_X6_look wl_697 rfl hoz204 (gc_X6_look fu a2 vz203 Xz201 vz206 Xz205 eXz205) rfl ⟨Nat.le_of_ble_eq_true rfl, Nat.le_of_ble_eq_true rfl⟩ ⟨show cells + 0 + 0 ≤ 600000 by omega, show slots + 0 + 0 ≤ 7302250 by omega⟩ (Nat.le_of_ble_eq_true rfl) rfl rfl dL_law_796 ?_
        refine gx_icmp_eq (tgt := 804) C dL_law_799 (by decide) (fun qz207 => ?_) (fun qz207 => ?_)
        · rw [if_pos qz207] at h
          exact gt_L_law_804 C hX hbl hbD fu (gm_L_law_18 fu xs L  n) ih a1 a2 x3 Xz205 (cells + 0 + 0) (slots + 0 + 0) _ _ h (by omega) (by omega)
        · rw [if_neg qz207] at h
          refine gx_iconst (v := 0) C dL_law_802 (by decide) ?_
          exact absurd (Prod.mk.inj (Option.some.inj h)).1 (by decide)
      rw [if_neg qz91_15] at h
      refine gx_swOut (tgt := 804) C dL_law_32 (by have n0 := lv_neT qz91_0 (a := 0) (by decide); have n1 := lv_neT qz91_1 (a := 1) (by decide); have n2 := lv_neT qz91_2 (a := 2) (by decide); have n3 := lv_neT qz91_3 (a := 3) (by decide); have n4 := lv_neT qz91_4 (a := 4) (by decide); have n5 := lv_neT qz91_5 (a := 5) (by decide); have n6 := lv_neT qz91_6 (a := 6) (by decide); have n7 := lv_neT qz91_7 (a := 7) (by decide); have n8 := lv_neT qz91_8 (a := 8) (by decide); have n9 := lv_neT qz91_9 (a := 9) (by decide); have n10 := lv_neT qz91_10 (a := 10) (by decide); have n11 := lv_neT qz91_11 (a := 11) (by decide); have n12 := lv_neT qz91_12 (a := 12) (by decide); have n13 := lv_neT qz91_13 (a := 13) (by decide); have n14 := lv_neT qz91_14 (a := 14) (by decide); have n15 := lv_neT qz91_15 (a := 15) (by decide); omega) (by decide) ?_
      exact gt_L_law_804 C hX hbl hbD fu (gm_L_law_18 fu xs L  n) ih a1 a2 x3 X cells slots _ _ h (by omega) (by omega)
def gm_L_law (fu : Nat) (xs : Nat → Int32) (L : Nat) (X : gx_H) : Option (Int32 × gx_H × Nat × Nat) :=
  gx_ad 1 6 <|
  gx_b4 (gm_X5_init fu X.2 (gx_nw X (.inr (5, [.null, .null, .null, .null, .null, .int 0])))) fun _u Xz209 cz210 sz210 => gx_ad cz210 sz210 <|
  gx_ad 1 20 <|
  gx_b4 (gm_X6_init fu Xz209.2 (gx_nw Xz209 (.inr (6, [.int 0, .int 0, .null, .null, .null, .null, .null, .null, .null, .null, .null, .null, .int 0, .null, .null, .null, .null, .null, .int 0, .null])))) fun _u Xz213 cz214 sz214 => gx_ad cz214 sz214 <|
  gm_L_law_18 fu xs L  fu X.2 Xz209.2 (0 : Int32) Xz213
set_option maxHeartbeats 1000000 in
set_option maxRecDepth 20000 in
theorem gt_L_law {p : Program} {l : Launch} {e : Env} {s : State} {m : MethodId} {below : List Frame} {meth : Method} {c : Code} {D : gx_D} {b L : Nat} {xs : Nat → Int32} {X2 : gx_H} (C : gx_C D gz_cl gz_at gz_tb gz_nb p s m meth c code 4 R_law (some .boolean)) (hX : va_X b L xs s s.heap) (hbl : b < s.heap.size) (hbD : D.2.2 = s.heap.size) (fu : Nat) (X : gx_H) (nc ns : Nat) (h : gm_L_law fu xs L X = some (1, X2, nc, ns)) (h1 : 0 + nc ≤ 600000) (h2 : 0 + ns ≤ 7302250) : gx_W D gz_cl 4 p l e room_1 s m #[Value.ref b] below meth c 0 0 (lw_Z below #[Value.ref b] s) X 0 [some (gx_r (some b)), none, none, none] [] := by
  unfold gm_L_law at h
  obtain ⟨cz208, sz208, h, ecz208, esz208⟩ := gx_add h
  refine gx_new C kcX5 [.null, .null, .null, .null, .null, .int 0] wl_9 wl_10 wl_1 dfX5 (show 0 + 1 ≤ 600000 by omega) (show 0 + 6 ≤ 7302250 by omega) dL_law_0 ?_
  refine gx_dup C dL_law_3 rfl ?_
  obtain ⟨⟨⟩, Xz209, cz210, sz210, eXz209, h⟩ := gx_bd4 h
  obtain ⟨cz211, sz211, h, ecz211, esz211⟩ := gx_add h
  refine gx_callI (As := []) (st := [gx_r (some X.2)]) (stk2 := [gx_r (some X.2)]) C cd_X5_init wl_12 rfl wl_11 (gc_X5_init fu X.2 (gx_nw X (.inr (5, [.null, .null, .null, .null, .null, .int 0]))) Xz209 cz210 sz210 eXz209) rfl ⟨Nat.le_of_ble_eq_true rfl, Nat.le_of_ble_eq_true rfl⟩ ⟨show 0 + 1 + cz210 ≤ 600000 by omega, show 0 + 6 + sz210 ≤ 7302250 by omega⟩ (Nat.le_of_ble_eq_true rfl) rfl rfl dL_law_4 ?_
  refine gx_astore_n (lv2 := [some (gx_r (some b)), some (gx_r (some X.2)), none, none]) C dL_law_7 rfl (by decide) rfl ?_
  obtain ⟨cz212, sz212, h, ecz212, esz212⟩ := gx_add h
  refine gx_new C kcX6 [.int 0, .int 0, .null, .null, .null, .null, .null, .null, .null, .null, .null, .null, .int 0, .null, .null, .null, .null, .null, .int 0, .null] wl_490 wl_491 wl_6 dfX6 (show 0 + 1 + cz210 + 1 ≤ 600000 by omega) (show 0 + 6 + sz210 + 20 ≤ 7302250 by omega) dL_law_8 ?_
  refine gx_dup C dL_law_11 rfl ?_
  obtain ⟨⟨⟩, Xz213, cz214, sz214, eXz213, h⟩ := gx_bd4 h
  obtain ⟨cz215, sz215, h, ecz215, esz215⟩ := gx_add h
  refine gx_callI (As := []) (st := [gx_r (some Xz209.2)]) (stk2 := [gx_r (some Xz209.2)]) C cd_X6_init wl_493 rfl wl_492 (gc_X6_init fu Xz209.2 (gx_nw Xz209 (.inr (6, [.int 0, .int 0, .null, .null, .null, .null, .null, .null, .null, .null, .null, .null, .int 0, .null, .null, .null, .null, .null, .int 0, .null]))) Xz213 cz214 sz214 eXz213) rfl ⟨Nat.le_of_ble_eq_true rfl, Nat.le_of_ble_eq_true rfl⟩ ⟨show 0 + 1 + cz210 + 1 + cz214 ≤ 600000 by omega, show 0 + 6 + sz210 + 20 + sz214 ≤ 7302250 by omega⟩ (Nat.le_of_ble_eq_true rfl) rfl rfl dL_law_12 ?_
  refine gx_astore_n (lv2 := [some (gx_r (some b)), some (gx_r (some X.2)), some (gx_r (some Xz209.2)), none]) C dL_law_15 rfl (by decide) rfl ?_
  refine gx_iconst (v := 0) C dL_law_16 (by decide) ?_
  refine gx_istore_n (lv2 := [some (gx_r (some b)), some (gx_r (some X.2)), some (gx_r (some Xz209.2)), some (gx_i (0 : Int32))]) C dL_law_17 rfl (by decide) rfl ?_
  exact gt_L_law_18 C hX hbl hbD fu  fu X.2 Xz209.2 (0 : Int32) Xz213 (0 + 1 + cz210 + 1 + cz214) (0 + 6 + sz210 + 20 + sz214) _ _ h (by omega) (by omega)
