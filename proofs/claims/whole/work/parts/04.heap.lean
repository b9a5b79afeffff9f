/-! ROWS over the world: fields, arrays, new cells, calls, ends -/
def gx_cc (cl : List vw_C) (tb : List Cond) (ci : Nat) (Cn : String) (T : u_T) (N : Nat) (ty : Nat → FieldType) : Prop := cl[ci]? = some (Cn, T, N) ∧ (∀ w ∈ u_ws Cn T N, w ∈ tb) ∧ (∀ k, k < N → parseFieldDescriptor (T k).2.2.1 = some (ty k)) ∧ ∀ a, a < N → ∀ b, b < N → a ≠ b → (T a).2.1 ≠ (T b).2.1
def gx_cd (tb : List Cond) (y : MethodName) (bytes : ByteArray) (maxL : Nat) (ret : Option FieldType) (n : Nat) : Prop := Cond.code y bytes maxL ret ∈ tb ∧ Cond.initialized y.cls ∈ tb ∧ y.cls ≠ "java/lang/invoke/MethodHandle" ∧ y.cls ≠ "java/lang/invoke/VarHandle" ∧ (parseMethodDescriptor y.desc).map (fun d => d.parameters.length) = some n
theorem gx_nz {x : Int32} (h : x = 0 ∨ x = 1) : narrow .boolean (gx_t (gx_i x)) = gx_t (gx_i x) ∧ fits .boolean (gx_t (gx_i x)) = true := by
  rcases h with rfl | rfl <;> exact ⟨rfl, by decide⟩
theorem gx_nr {C : String} (o : Option Nat) : narrow (.object C) (gx_t (gx_r o)) = gx_t (gx_r o) ∧ fits (.object C) (gx_t (gx_r o)) = true := by
  cases o <;> exact ⟨rfl, rfl⟩
theorem gx_sl_len : ∀ (vs : List gx_V), (lg_sl (vs.map gx_t)).length = (gx_en vs).length
  | [] => rfl
  | .inl x :: t => by
    have := gx_sl_len t
    simp only [lg_sl, gx_en, List.map_cons, List.flatMap_cons, List.length_append, List.length_cons] at this ⊢
    rw [this, gx_cat]
    simp [gx_2]
    omega
  | .inr (.inl x) :: t => by
    have := gx_sl_len t
    simp only [lg_sl, gx_en, List.map_cons, List.flatMap_cons, List.length_append, List.length_cons] at this ⊢
    rw [this, gx_cat]
    simp [gx_2]
    omega
  | .inr (.inr o) :: t => by
    have := gx_sl_len t
    simp only [lg_sl, gx_en, List.map_cons, List.flatMap_cons, List.length_append, List.length_cons] at this ⊢
    rw [this, gx_cat]
    simp [gx_2]
    omega
section GY
variable {p : Program} {l : Launch} {e : Env} {R : Room} {s : State} {m : MethodId} {args : Array Value} {below : List Frame} {meth : Method} {c : Code} {cells slots : Nat} {Q : State → Prop}
variable {D : gx_D} {cl : List vw_C} {aty : List FieldType} {tb nb : List Cond} {cc : ByteArray} {nL : Nat} {own : String} {ret : Option FieldType} {X : gx_H} {pc : Nat} {lv : List (Option gx_V)} {st : List gx_V}

theorem gx_get (C : gx_C D cl aty tb nb p s m meth c cc nL own ret) {ci N : Nat} {Cn : String} {T : u_T} {ty : Nat → FieldType} (Kc : gx_cc cl tb ci Cn T N ty) (k : Nat) {a idx : Nat} {v : gx_V} (hk : k < N) (hlink : Cond.fieldLink own idx (T k).1 (T k).2.1 (T k).2.2.1 ∈ tb) (h : gx_gf X a ci k = some (gx_t v)) (hd : decode cc pc = .ok (.getfield idx, 3)) (kk : gx_W D cl nL p l e R s m args below meth c cells slots Q X (pc + 3) lv (v :: st)) : gx_W D cl nL p l e R s m args below meth c cells slots Q X pc lv (gx_r (some a) :: st) := fun H locs ls hR hS hL => by
  obtain ⟨fs, h1, h2⟩ := gx_gf_s h
  exact va_get (D := D.1) (ci := ci) (v := gx_t v) (ws := [(a, gx_e D (.inr (ci, fs)))]) (tys := []) (Ts := tb) C.1 C.2.1 (fun w hw => C.2.2.2.2.2.2.2.2.1 w hw args) Kc.2.1 C.2.2.2.1 C.2.2.2.2.2.2.va (hR.one h1) 0 rfl Kc.1 k hk (C.2.2.2.2.2.2.2.2.1 _ hlink args) (fun _ h9 => h9) h2 hd (kk H locs ls hR hS hL)
theorem gx_getN (C : gx_C D cl aty tb nb p s m meth c cc nL own ret) {ci N : Nat} {Cn host : String} {T : u_T} {ty : Nat → FieldType} (Kc : gx_cc cl tb ci Cn T N ty) (k : Nat) {a idx : Nat} {v : gx_V} (hk : k < N) (hlink : Cond.fieldLinkNest own idx (T k).1 (T k).2.1 (T k).2.2.1 host ∈ nb) (h : gx_gf X a ci k = some (gx_t v)) (hd : decode cc pc = .ok (.getfield idx, 3)) (kk : gx_W D cl nL p l e R s m args below meth c cells slots Q X (pc + 3) lv (v :: st)) : gx_W D cl nL p l e R s m args below meth c cells slots Q X pc lv (gx_r (some a) :: st) := fun H locs ls hR hS hL => by
  obtain ⟨fs, h1, h2⟩ := gx_gf_s h
  exact va_getN (D := D.1) (ci := ci) (v := gx_t v) (ws := [(a, gx_e D (.inr (ci, fs)))]) (tys := []) (Ts := tb) C.1 C.2.1 (fun w hw => C.2.2.2.2.2.2.2.2.1 w hw args) Kc.2.1 C.2.2.2.1 C.2.2.2.2.2.2.va (hR.one h1) 0 rfl Kc.1 k hk (va_Nw.use rfl (C.2.2.2.2.2.2.2.2.2.1 _ hlink)) (fun _ h9 => h9) h2 hd (kk H locs ls hR hS hL)
theorem gx_put (C : gx_C D cl aty tb nb p s m meth c cc nL own ret) {ci N : Nat} {Cn : String} {T : u_T} {ty : Nat → FieldType} (Kc : gx_cc cl tb ci Cn T N ty) (k : Nat) {a idx : Nat} {v : gx_V} {X2 : gx_H} (hk : k < N) (hfin : (T k).2.2.2 = false) (hlink : Cond.fieldLink own idx (T k).1 (T k).2.1 (T k).2.2.1 ∈ tb) (hn : narrow (ty k) (gx_t v) = gx_t v ∧ fits (ty k) (gx_t v) = true) (h : gx_pf X a ci k (gx_t v) = some X2) (hd : decode cc pc = .ok (.putfield idx, 3)) (kk : gx_W D cl nL p l e R s m args below meth c cells slots Q X2 (pc + 3) lv st) : gx_W D cl nL p l e R s m args below meth c cells slots Q X pc lv (v :: gx_r (some a) :: st) := fun H locs ls hR hS hL => by
  obtain ⟨fs, h1, h2, rfl⟩ := gx_pf_s h
  have hap := va_apart (own := own) (fun w hw => C.2.2.2.2.2.2.2.2.1 w hw args) Kc.2.1 ty Kc.2.2.1 Kc.2.2.2 C.2.2.2.2.2.2.va Kc.1
  obtain ⟨r, g1, cell, q1, q2, q3, q4⟩ := (hR.2.2 a _ h1).2
  have hr : r = (Cn, T, N) := Option.some.inj (g1.symm.trans Kc.1)
  subst hr
  obtain ⟨hSl, hfc, kC, hkC, hkind⟩ := C.2.2.2.2.2.2.1 ci _ Kc.1
  obtain ⟨cf, kf, fi, f, hi, hsl⟩ := hSl k hk
  have hlay := C.2.2.2.2.2.2.2.2.1 _ (Kc.2.1 _ (u_in_lay hk)) args
  unfold u_lay at hlay
  rw [if_neg (by rw [hfin]; decide)] at hlay
  have hst := (u_facts hfc hkC (u_lays (fun w hw => C.2.2.2.2.2.2.2.2.1 w hw args) Kc.2.1 hk) hi).1
  have h6 := u_store hfc hkC hkind hlay hi (Kc.2.2.1 k hk) hn.1 hn.2
  refine W.putK C.1 C.2.1 (f := f) ⟨C.2.2.2.1, C.2.2.2.2.2.2.2.2.1 _ hlink args, ⟨_, _, _, hi⟩, hst⟩ (by rw [q2]; exact h6) q1 q3 (by rw [hsl]; exact k2_hasslot (q4 k hk)) rfl rfl hd fun H' e1 e2 e3 => ?_
  rw [hsl] at e1 ⊢
  exact kk H' _ ls (hR.put h1 e2 e3 ⟨_, Kc.1, t_OB.to (V := updV (vp_V fs) k (gx_t v)) ⟨_, e1, q2, q3, t_set q4 hap hk (gx_t v)⟩ (fun j _ => vp_updV_set h2 (gx_t v) j)⟩) (hS.put e2 e3 (hR.2.2 a _ h1).1) hL
theorem gx_putN (C : gx_C D cl aty tb nb p s m meth c cc nL own ret) {ci N : Nat} {Cn host : String} {T : u_T} {ty : Nat → FieldType} (Kc : gx_cc cl tb ci Cn T N ty) (k : Nat) {a idx : Nat} {v : gx_V} {X2 : gx_H} (hk : k < N) (hfin : (T k).2.2.2 = false) (hlink : Cond.fieldLinkNest own idx (T k).1 (T k).2.1 (T k).2.2.1 host ∈ nb) (hn : narrow (ty k) (gx_t v) = gx_t v ∧ fits (ty k) (gx_t v) = true) (h : gx_pf X a ci k (gx_t v) = some X2) (hd : decode cc pc = .ok (.putfield idx, 3)) (kk : gx_W D cl nL p l e R s m args below meth c cells slots Q X2 (pc + 3) lv st) : gx_W D cl nL p l e R s m args below meth c cells slots Q X pc lv (v :: gx_r (some a) :: st) := fun H locs ls hR hS hL => by
  obtain ⟨fs, h1, h2, rfl⟩ := gx_pf_s h
  have hap := va_apart (own := own) (fun w hw => C.2.2.2.2.2.2.2.2.1 w hw args) Kc.2.1 ty Kc.2.2.1 Kc.2.2.2 C.2.2.2.2.2.2.va Kc.1
  obtain ⟨r, g1, cell, q1, q2, q3, q4⟩ := (hR.2.2 a _ h1).2
  have hr : r = (Cn, T, N) := Option.some.inj (g1.symm.trans Kc.1)
  subst hr
  obtain ⟨hSl, hfc, kC, hkC, hkind⟩ := C.2.2.2.2.2.2.1 ci _ Kc.1
  obtain ⟨cf, kf, fi, f, hi, hsl⟩ := hSl k hk
  have hlay := C.2.2.2.2.2.2.2.2.1 _ (Kc.2.1 _ (u_in_lay hk)) args
  unfold u_lay at hlay
  rw [if_neg (by rw [hfin]; decide)] at hlay
  have hst := (u_facts hfc hkC (u_lays (fun w hw => C.2.2.2.2.2.2.2.2.1 w hw args) Kc.2.1 hk) hi).1
  have h6 := u_store hfc hkC hkind hlay hi (Kc.2.2.1 k hk) hn.1 hn.2
  refine va_WputK C.1 C.2.1 (f := f) C.2.2.2.1 (va_Nw.use rfl (C.2.2.2.2.2.2.2.2.2.1 _ hlink)) hi hst (by rw [q2]; exact h6) q1 q3 (by rw [hsl]; exact k2_hasslot (q4 k hk)) rfl rfl hd fun H' e1 e2 e3 => ?_
  rw [hsl] at e1 ⊢
  exact kk H' _ ls (hR.put h1 e2 e3 ⟨_, Kc.1, t_OB.to (V := updV (vp_V fs) k (gx_t v)) ⟨_, e1, q2, q3, t_set q4 hap hk (gx_t v)⟩ (fun j _ => vp_updV_set h2 (gx_t v) j)⟩) (hS.put e2 e3 (hR.2.2 a _ h1).1) hL
theorem gx_putF (C : gx_C D cl aty tb nb p s m meth c cc nL own ret) {ci N : Nat} {Cn : String} {T : u_T} {ty : Nat → FieldType} (Kc : gx_cc cl tb ci Cn T N ty) (k : Nat) {a idx : Nat} {v : gx_V} {X2 : gx_H} (hk : k < N) (hfin : (T k).2.2.2 = true) (hin2 : meth.name = "<init>") (hdecl : (T k).1 = own) (hlink : Cond.fieldLink own idx (T k).1 (T k).2.1 (T k).2.2.1 ∈ tb) (hn : narrow (ty k) (gx_t v) = gx_t v ∧ fits (ty k) (gx_t v) = true) (h : gx_pf X a ci k (gx_t v) = some X2) (hd : decode cc pc = .ok (.putfield idx, 3)) (kk : gx_W D cl nL p l e R s m args below meth c cells slots Q X2 (pc + 3) lv st) : gx_W D cl nL p l e R s m args below meth c cells slots Q X pc lv (v :: gx_r (some a) :: st) := fun H locs ls hR hS hL => by
  obtain ⟨fs, h1, h2, rfl⟩ := gx_pf_s h
  have hap := va_apart (own := own) (fun w hw => C.2.2.2.2.2.2.2.2.1 w hw args) Kc.2.1 ty Kc.2.2.1 Kc.2.2.2 C.2.2.2.2.2.2.va Kc.1
  obtain ⟨r, g1, cell, q1, q2, q3, q4⟩ := (hR.2.2 a _ h1).2
  have hr : r = (Cn, T, N) := Option.some.inj (g1.symm.trans Kc.1)
  subst hr
  obtain ⟨hSl, hfc, kC, hkC, hkind⟩ := C.2.2.2.2.2.2.1 ci _ Kc.1
  obtain ⟨cf, kf, fi, f, hi, hsl⟩ := hSl k hk
  have hlay := C.2.2.2.2.2.2.2.2.1 _ (Kc.2.1 _ (u_in_lay hk)) args
  unfold u_lay at hlay
  rw [if_pos hfin] at hlay
  have hst := (u_facts hfc hkC (u_lays (fun w hw => C.2.2.2.2.2.2.2.2.1 w hw args) Kc.2.1 hk) hi).1
  have hcf : m.cls = cf := by
    obtain ⟨_, _, c', _, _, _, -, -, hf', -, -, -, hown2, -⟩ := Cond.laysFinal_spec hlay
    have e1 : c' = cf := by have := hi.symm.trans hf'; simp at this; exact this.1.symm
    rw [hdecl] at hown2
    rw [← e1]; exact Option.some.inj (C.2.2.2.1.symm.trans hown2)
  have h6 := u_fits hfc hkC hkind (Or.inr hlay) hi (Kc.2.2.1 k hk) hn.1 hn.2
  refine W.putFinK C.1 C.2.1 C.2.2.2.1 (C.2.2.2.2.2.2.2.2.1 _ hlink args) hi hst hcf hin2 (by rw [q2]; exact h6) q1 q3 (by rw [hsl]; exact k2_hasslot (q4 k hk)) rfl rfl hd fun H' e1 e2 e3 => ?_
  rw [hsl] at e1 ⊢
  exact kk H' _ ls (hR.put h1 e2 e3 ⟨_, Kc.1, t_OB.to (V := updV (vp_V fs) k (gx_t v)) ⟨_, e1, q2, q3, t_set q4 hap hk (gx_t v)⟩ (fun j _ => vp_updV_set h2 (gx_t v) j)⟩) (hS.put e2 e3 (hR.2.2 a _ h1).1) hL
theorem gx_iald (C : gx_C D cl aty tb nb p s m meth c cc nL own ret) {a t : Nat} {i : Int32} {x : Int32} (ht : aty[t]? = some .int) (h : gx_gai X a t i = some x) (hd : decode cc pc = .ok (.iaload, 1)) (kk : gx_W D cl nL p l e R s m args below meth c cells slots Q X (pc + 1) lv (gx_i x :: st)) : gx_W D cl nL p l e R s m args below meth c cells slots Q X pc lv (gx_i i :: gx_r (some a) :: st) := fun H locs ls hR hS hL => by
  obtain ⟨n, f, h1, h2, rfl⟩ := gx_gai_s h
  exact va_iald (D := D.1) (ws := [(a, gx_e D (.inl (t, n, .inl f)))]) (tys := [(D.2.1 t, .int)]) (cl := cl) C.1 C.2.1 (C.2.2.2.2.2.2.va1 ht) (hR.one h1) 0 0 rfl rfl h2 hd (kk H locs ls hR hS hL)
theorem gx_zald (C : gx_C D cl aty tb nb p s m meth c cc nL own ret) {a t : Nat} {i : Int32} {x : Int32} (ht : aty[t]? = some .boolean) (h : gx_gai X a t i = some x) (hd : decode cc pc = .ok (.baload, 1)) (kk : gx_W D cl nL p l e R s m args below meth c cells slots Q X (pc + 1) lv (gx_i x :: st)) : gx_W D cl nL p l e R s m args below meth c cells slots Q X pc lv (gx_i i :: gx_r (some a) :: st) := fun H locs ls hR hS hL => by
  obtain ⟨n, f, h1, h2, rfl⟩ := gx_gai_s h
  exact va_zald (D := D.1) (ws := [(a, gx_e D (.inl (t, n, .inl f)))]) (tys := [(D.2.1 t, .boolean)]) (cl := cl) C.1 C.2.1 (C.2.2.2.2.2.2.va1 ht) (hR.one h1) 0 0 rfl rfl h2 hd (kk H locs ls hR hS hL)
theorem gx_lald (C : gx_C D cl aty tb nb p s m meth c cc nL own ret) {a t : Nat} {i : Int32} {x : Int64} (ht : aty[t]? = some .long) (h : gx_gal X a t i = some x) (hd : decode cc pc = .ok (.laload, 1)) (kk : gx_W D cl nL p l e R s m args below meth c cells slots Q X (pc + 1) lv (gx_l x :: st)) : gx_W D cl nL p l e R s m args below meth c cells slots Q X pc lv (gx_i i :: gx_r (some a) :: st) := fun H locs ls hR hS hL => by
  obtain ⟨n, f, h1, h2, rfl⟩ := gx_gal_s h
  exact va_lald (D := D.1) (ws := [(a, gx_e D (.inl (t, n, .inr (.inl f))))]) (tys := [(D.2.1 t, .long)]) (cl := cl) C.1 C.2.1 (C.2.2.2.2.2.2.va1 ht) (hR.one h1) 0 0 rfl rfl h2 hd (kk H locs ls hR hS hL)
theorem gx_aald (C : gx_C D cl aty tb nb p s m meth c cc nL own ret) {a t : Nat} {i : Int32} {x : Option Nat} {Cn : String} (ht : aty[t]? = some (.object Cn)) (h : gx_gar X a t i = some x) (hd : decode cc pc = .ok (.aaload, 1)) (kk : gx_W D cl nL p l e R s m args below meth c cells slots Q X (pc + 1) lv (gx_r x :: st)) : gx_W D cl nL p l e R s m args below meth c cells slots Q X pc lv (gx_i i :: gx_r (some a) :: st) := fun H locs ls hR hS hL => by
  obtain ⟨n, f, h1, h2, rfl⟩ := gx_gar_s h
  exact va_aldq (D := D.1) (C := Cn) (ws := [(a, gx_e D (.inl (t, n, .inr (.inr (.inr (.inr f))))))]) (tys := [(D.2.1 t, .object Cn)]) (cl := cl) C.1 C.2.1 (C.2.2.2.2.2.2.va1 ht) (hR.one h1) 0 0 rfl rfl h2 hd (kk H locs ls hR hS hL)
theorem gx_iast (C : gx_C D cl aty tb nb p s m meth c cc nL own ret) {a t : Nat} {i : Int32} {x : Int32} {X2 : gx_H} (ht : aty[t]? = some .int) (h : gx_pai X a t i x = some X2) (hd : decode cc pc = .ok (.iastore, 1)) (kk : gx_W D cl nL p l e R s m args below meth c cells slots Q X2 (pc + 1) lv st) : gx_W D cl nL p l e R s m args below meth c cells slots Q X pc lv (gx_i x :: gx_i i :: gx_r (some a) :: st) := fun H locs ls hR hS hL => by
  obtain ⟨n, f, h1, h2, rfl⟩ := gx_pai_s h
  refine W.iast C.1 C.2.1 (hR.2.2 a _ h1).2 ((C.2.2.2.2.2.2.2.1 t _ ht).1 n (fun j => .int (f j))) (fun q => by cases q) (by show ¬ (i < 0 ∨ (arrV _ _ _).slots.size ≤ _); rw [arrV_size]; exact h2) rfl rfl hd fun H1 e1 z oq => ?_
  refine kk H1 _ ls (hR.put h1 z oq ?_) (hS.put z oq (hR.2.2 a _ h1).1) hL
  show H1[a]? = some (vp_cell _ _)
  rw [e1]
  show some (Cell.setSlot (vp_cell _ _) _ _) = some (vp_cell _ _)
  rw [vp_cell_i, vp_cell_i, arrV_store]
  congr 2
  funext q
  by_cases hq : q = i.toNatClampNeg
  · subst hq
    simp [updV, upd, vp_nar]
    try rfl
  · simp [updV, upd, hq]
theorem gx_zast (C : gx_C D cl aty tb nb p s m meth c cc nL own ret) {a t : Nat} {i : Int32} {x : Int32} {X2 : gx_H} (ht : aty[t]? = some .boolean) (h : gx_pai X a t i (vp_nar .boolean x) = some X2) (hd : decode cc pc = .ok (.bastore, 1)) (kk : gx_W D cl nL p l e R s m args below meth c cells slots Q X2 (pc + 1) lv st) : gx_W D cl nL p l e R s m args below meth c cells slots Q X pc lv (gx_i x :: gx_i i :: gx_r (some a) :: st) := fun H locs ls hR hS hL => by
  obtain ⟨n, f, h1, h2, rfl⟩ := gx_pai_s h
  refine W.zast C.1 C.2.1 (hR.2.2 a _ h1).2 ((C.2.2.2.2.2.2.2.1 t _ ht).1 n (fun j => .int (f j))) (fun q => by cases q) (by show ¬ (i < 0 ∨ (arrV _ _ _).slots.size ≤ _); rw [arrV_size]; exact h2) rfl rfl hd fun H1 e1 z oq => ?_
  refine kk H1 _ ls (hR.put h1 z oq ?_) (hS.put z oq (hR.2.2 a _ h1).1) hL
  show H1[a]? = some (vp_cell _ _)
  rw [e1]
  show some (Cell.setSlot (vp_cell _ _) _ _) = some (vp_cell _ _)
  rw [vp_cell_i, vp_cell_i, arrV_store]
  congr 2
  funext q
  by_cases hq : q = i.toNatClampNeg
  · subst hq
    simp [updV, upd, vp_nar]
    try rfl
  · simp [updV, upd, hq]
theorem gx_last (C : gx_C D cl aty tb nb p s m meth c cc nL own ret) {a t : Nat} {i : Int32} {x : Int64} {X2 : gx_H} (ht : aty[t]? = some .long) (h : gx_pal X a t i x = some X2) (hd : decode cc pc = .ok (.lastore, 1)) (kk : gx_W D cl nL p l e R s m args below meth c cells slots Q X2 (pc + 1) lv st) : gx_W D cl nL p l e R s m args below meth c cells slots Q X pc lv (gx_l x :: gx_i i :: gx_r (some a) :: st) := fun H locs ls hR hS hL => by
  obtain ⟨n, f, h1, h2, rfl⟩ := gx_pal_s h
  refine W.last C.1 C.2.1 (hR.2.2 a _ h1).2 ((C.2.2.2.2.2.2.2.1 t _ ht).1 n (fun j => .long (f j))) (fun q => by cases q) (by show ¬ (i < 0 ∨ (arrV _ _ _).slots.size ≤ _); rw [arrV_size]; exact h2) rfl rfl hd fun H1 e1 z oq => ?_
  refine kk H1 _ ls (hR.put h1 z oq ?_) (hS.put z oq (hR.2.2 a _ h1).1) hL
  show H1[a]? = some (vp_cell _ _)
  rw [e1]
  show some (Cell.setSlot (vp_cell _ _) _ _) = some (vp_cell _ _)
  rw [vp_cell_l, vp_cell_l, arrV_store]
  congr 2
  funext q
  by_cases hq : q = i.toNatClampNeg
  · subst hq
    simp [updV, vp_updL, vp_nar]
    try rfl
  · simp [updV, vp_updL, hq]
theorem gx_aast (C : gx_C D cl aty tb nb p s m meth c cc nL own ret) {a t v ci N : Nat} {i : Int32} {X2 : gx_H} {Cn : String} {T : u_T} (ht : aty[t]? = some (.object Cn)) (hcl : cl[ci]? = some (Cn, T, N)) (ho : gx_is X v ci = true) (h : gx_par X a t i (some v) = some X2) (hd : decode cc pc = .ok (.aastore, 1)) (kk : gx_W D cl nL p l e R s m args below meth c cells slots Q X2 (pc + 1) lv st) : gx_W D cl nL p l e R s m args below meth c cells slots Q X pc lv (gx_r (some v) :: gx_i i :: gx_r (some a) :: st) := fun H locs ls hR hS hL => by
  obtain ⟨n, f, h1, h2, rfl⟩ := gx_par_s h
  obtain ⟨vs, hv⟩ := gx_is_s ho
  have hlt : i.toNatClampNeg < n := Nat.not_le.mp fun q => h2 (Or.inr q)
  have h0 : ¬ i < 0 := fun q => h2 (Or.inl q)
  obtain ⟨r', hr', cellV, g1, g2, g3, -⟩ := (hR.2.2 v _ hv).2
  have hcls := (C.2.2.2.2.2.2.1 ci _ hcl).2
  obtain ⟨kA, comp, k1, k2, k3, -⟩ := (C.2.2.2.2.2.2.2.1 t _ ht).2
  have hcomp : comp = D.1.1 ci := Option.some.inj (k3.symm.trans hcls.1)
  subst hcomp
  obtain ⟨kC, hkC, -⟩ := hcls.2
  refine W.aast C.1 C.2.1 (hR.2.2 a _ h1).2 (fun q h => by cases h) (fun h => by cases h) k1 k2 rfl hkC ⟨h0, by show _ < (arrV _ _ _).slots.size; rw [arrV_size]; exact hlt⟩ g1 (fun q h => by rw [g3] at h; cases h) (by rw [g2]; exact hkC) (by rw [g2]; exact va_assign hcls) rfl rfl hd fun H1 e1 z oq => ?_
  refine kk H1 _ ls (hR.put h1 z oq ?_) (hS.put z oq (hR.2.2 a _ h1).1) hL
  show H1[a]? = some (vp_cell _ _)
  rw [e1]
  show some (Cell.setSlot (vp_cell _ _) _ _) = some (vp_cell _ _)
  rw [vp_cell_q, vp_cell_q, arrV_store]
  congr 2
  funext q
  by_cases hq : q = i.toNatClampNeg
  · subst hq
    simp [updV, va_up, va_rf]
  · simp [updV, va_up, hq]
theorem gx_alen (C : gx_C D cl aty tb nb p s m meth c cc nL own ret) {a t : Nat} {x : Int32} {ty : FieldType} (ht : aty[t]? = some ty) (h : gx_len X a t = some x) (hd : decode cc pc = .ok (.arraylength, 1)) (kk : gx_W D cl nL p l e R s m args below meth c cells slots Q X (pc + 1) lv (gx_i x :: st)) : gx_W D cl nL p l e R s m args below meth c cells slots Q X pc lv (gx_r (some a) :: st) := fun H locs ls hR hS hL => by
  obtain ⟨b, h1, h2⟩ := gx_len_s h
  exact va_alen (D := D.1) (ws := [(a, gx_e D (.inl (t, b)))]) (tys := [(D.2.1 t, ty)]) (cl := cl) C.1 C.2.1 (C.2.2.2.2.2.2.va1 ht) (hR.one h1) 0 0 rfl rfl h2 hd (kk H locs ls hR hS hL)
theorem gx_new (C : gx_C D cl aty tb nb p s m meth c cc nL own ret) {ci N idx : Nat} {Cn : String} {T : u_T} {ty : Nat → FieldType} (Kc : gx_cc cl tb ci Cn T N ty) (fs : List Value) (hl : Cond.classLink own idx Cn ∈ tb) (hi : Cond.instantiable Cn N ∈ tb) (hini : Cond.initialized Cn ∈ tb) (hfs : ∀ j, j < N → defaultValue (ty j) = vp_V fs j) (hcells : cells + 1 ≤ R.cells) (hslots : slots + N ≤ R.slots) (hd : decode cc pc = .ok (.new idx, 3)) (kk : gx_W D cl nL p l e R s m args below meth c (cells + 1) (slots + N) Q (gx_nw X (.inr (ci, fs))) (pc + 3) lv (gx_r (some X.2) :: st)) : gx_W D cl nL p l e R s m args below meth c cells slots Q X pc lv st := fun H locs ls hR hS hL => by
  have hKn := C.2.2.2.2.2.2.1 ci _ Kc.1
  refine W.newcK C.1 C.2.1 C.2.2.2.1 (C.2.2.2.2.2.2.2.2.1 _ hl args) (C.2.2.2.2.2.2.2.2.1 _ hi args) (C.2.2.2.2.2.2.2.2.1 _ hini args) rfl hd hcells hslots hKn.2.1 hR.1 fun H1 kC hkC e1 z1 o1 => ?_
  have z : H1.size = H.size + 1 := by rw [z1, hR.1]
  have oq : ∀ q : Nat, q < H.size → H1[q]? = H[q]? := fun q hq => o1 q (by rw [← hR.1]; exact hq)
  exact kk H1 locs ls (hR.push (e := .inr (ci, fs)) z oq ⟨_, Kc.1, (u_born ty (fun w hw => C.2.2.2.2.2.2.2.2.1 w hw args) Kc.2.1 hKn hkC e1 Kc.2.2.1).to hfs⟩) ⟨Nat.le_trans hS.1 (by omega), fun x h1 h2 => (oq x (Nat.lt_of_lt_of_le h1 hS.1)).trans (hS.2.1 x h1 h2), hS.2.2⟩ hL
theorem gx_newa (C : gx_C D cl aty tb nb p s m meth c cc nL own ret) {t : Nat} {atype : ArrayType} {ty : FieldType} {n : Int32} {N' : Nat} {a0 : vp_A} (ht : aty[t]? = some ty) (hty : newarray.typeOf atype = ty) (hp : ∀ (U : State) (cA : ClassId), va_RA U cA ty → U.vm.findClass ("[" ++ ty.toString) = some cA) (harr : Cond.arrayClass ty ∈ tb) (ha : ∀ cA : ClassId, vp_cell cA a0 = arrV cA N' (fun _ => defaultValue ty)) (hn : ¬ n < 0) (hN : n.toNatClampNeg = N') (hbytes : N' * componentBytes ty ≤ 536870912) (hcells : cells + 1 ≤ R.cells) (hslots : slots + N' ≤ R.slots) (hd : decode cc pc = .ok (.newarray atype, 2)) (kk : gx_W D cl nL p l e R s m args below meth c (cells + 1) (slots + N') Q (gx_nw X (.inl (t, a0))) (pc + 2) lv (gx_r (some X.2) :: st)) : gx_W D cl nL p l e R s m args below meth c cells slots Q X pc lv (gx_i n :: st) := fun H locs ls hR hS hL => by
  subst hty
  refine va_newaK C.1 C.2.1 (C.2.2.2.2.2.2.2.2.1 _ harr args) rfl hd rfl hn hN hbytes hcells hslots hR.1 fun H1 cA e1 z1 o1 hAr hNm => ?_
  have hcA : cA = D.2.1 t := Option.some.inj (hNm.symm.trans (hp s _ (C.2.2.2.2.2.2.2.1 t _ ht).2))
  subst hcA
  have z : H1.size = H.size + 1 := by rw [z1, hR.1]
  have oq : ∀ q : Nat, q < H.size → H1[q]? = H[q]? := fun q hq => o1 q (by rw [← hR.1]; exact hq)
  exact kk H1 locs ls (hR.push (e := .inl (t, a0)) z oq (by show H1[X.2]? = some (vp_cell _ _); rw [ha]; exact e1)) ⟨Nat.le_trans hS.1 (by omega), fun x h1 h2 => (oq x (Nat.lt_of_lt_of_le h1 hS.1)).trans (hS.2.1 x h1 h2), hS.2.2⟩ hL
theorem gx_anew (C : gx_C D cl aty tb nb p s m meth c cc nL own ret) {t idx : Nat} {Cn : String} {n : Int32} {N' : Nat} (ht : aty[t]? = some (.object Cn)) (hl : Cond.classLink own idx Cn ∈ tb) (hov : Cond.arrayOver (.object Cn) ∈ nb) (hn : ¬ n < 0) (hN : n.toNatClampNeg = N') (hbytes : N' * 4 ≤ 536870912) (hcells : cells + 1 ≤ R.cells) (hslots : slots + N' ≤ R.slots) (hd : decode cc pc = .ok (.anewarray idx, 3)) (kk : gx_W D cl nL p l e R s m args below meth c (cells + 1) (slots + N') Q (gx_nw X (.inl (t, N', .inr (.inr (.inr (.inr (fun _ => none))))))) (pc + 3) lv (gx_r (some X.2) :: st)) : gx_W D cl nL p l e R s m args below meth c cells slots Q X pc lv (gx_i n :: st) := fun H locs ls hR hS hL => by
  subst hN
  refine W.anew C.1 C.2.1 C.2.2.2.1 (C.2.2.2.2.2.2.2.2.1 _ hl args) (va_AO.use (C.2.2.2.2.2.2.2.2.2.1 _ hov)) rfl hd rfl hn hbytes hcells hslots fun cA kA comp f1 f2 f3 f4 => ?_
  obtain ⟨kA2, comp2, k1, k2, k3, k4⟩ := (C.2.2.2.2.2.2.2.1 t _ ht).2
  have hcA : cA = D.2.1 t := Option.some.inj (f1.symm.trans k4)
  subst hcA
  generalize hH1 : H.push ({ cls := D.2.1 t, slots := Array.replicate n.toNatClampNeg .null, vm := .none } : Cell) = H1
  have z : H1.size = H.size + 1 := by rw [← hH1, Array.size_push]
  have e1 : H1[H.size]? = some (arrV (D.2.1 t) n.toNatClampNeg (fun _ => .null)) := by rw [← hH1, Array.getElem?_push_size, ← arrV_new]
  have oq : ∀ q : Nat, q < H.size → H1[q]? = H[q]? := fun q hq => by rw [← hH1, Array.getElem?_push, if_neg (Nat.ne_of_lt hq)]
  rw [hR.1]
  exact kk H1 locs ls (hR.push (e := .inl (t, n.toNatClampNeg, .inr (.inr (.inr (.inr (fun _ => none)))))) z oq (by show H1[X.2]? = some (vp_cell _ _); rw [vp_cell_q, ← hR.1]; exact e1)) ⟨Nat.le_trans hS.1 (by omega), fun x h1 h2 => (oq x (Nat.lt_of_lt_of_le h1 hS.1)).trans (hS.2.1 x h1 h2), hS.2.2⟩ hL
theorem gx_objInit (C : gx_C D cl aty tb nb p s m meth c cc nL own ret) {idx a : Nat} (hl : Cond.methodLink own idx Lib.objectInit ∈ tb) (hi : Cond.instanceMethod Lib.objectInit ∈ tb) (hc : Cond.code Lib.objectInit ⟨#[0xb1]⟩ 1 none ∈ tb) (hd : decode cc pc = .ok (.invokespecial idx, 3)) (hfr : 1 ≤ R.frames) (hlo : (st.map (fun v => if gx_2 v = true then 2 else 1)).sum + 12 ≤ R.locals) (kk : gx_W D cl nL p l e R s m args below meth c cells slots Q X (pc + 3) lv st) : gx_W D cl nL p l e R s m args below meth c cells slots Q X pc lv (gx_r (some a) :: st) := fun H locs ls hR hS hL => by
  refine W.objInit C.1 C.2.1 C.2.2.2.1 (C.2.2.2.2.2.2.2.2.1 _ hl args) (C.2.2.2.2.2.2.2.2.1 _ hi args) (C.2.2.2.2.2.2.2.2.1 _ hc args) rfl (by rw [C.2.2.1]; exact hL.1) rfl hd hfr ?_ (kk H locs ls hR hS hL)
  have e0 : (F0 m pc ls (List.map gx_t (gx_r (some a) :: st))).monitorRoom = 0 := rfl
  have e1 : (fun v : Value => v.category) ∘ gx_t = fun v => if gx_2 v = true then 2 else 1 := funext fun v => gx_cat v
  rw [e0, List.map_map, e1, Nat.mul_zero, Nat.zero_add]
  exact hlo
theorem gx_iret {x : Int32} (C : gx_C D cl aty tb nb p s m meth c cc nL own (some .int)) (hd : decode cc pc = .ok (.ireturn, 1)) : gx_W D cl nL p l e R s m args below meth c cells slots (MQ below (gx_Q D cl (some (gx_i x)) X) args s cells slots (gx_Z D)) X pc lv [gx_i x] := fun H locs ls hR hS hL => W.iret C.1 C.2.1 C.2.2.2.2.1  (fun t ht hW => ⟨rfl, by rw [ht]; exact hR, hS.F ht⟩) hS.2.2 hd C.2.2.2.2.2.1
theorem gx_zret {x : Int32} (hx : x = 0 ∨ x = 1) (C : gx_C D cl aty tb nb p s m meth c cc nL own (some .boolean)) (hd : decode cc pc = .ok (.ireturn, 1)) : gx_W D cl nL p l e R s m args below meth c cells slots (MQ below (gx_Q D cl (some (gx_i x)) X) args s cells slots (gx_Z D)) X pc lv [gx_i x] := fun H locs ls hR hS hL => W.zret C.1 C.2.1 C.2.2.2.2.1 (gx_nz hx).1 (fun t ht hW => ⟨rfl, by rw [ht]; exact hR, hS.F ht⟩) hS.2.2 hd C.2.2.2.2.2.1
theorem gx_lret {x : Int64} (C : gx_C D cl aty tb nb p s m meth c cc nL own (some .long)) (hd : decode cc pc = .ok (.lreturn, 1)) : gx_W D cl nL p l e R s m args below meth c cells slots (MQ below (gx_Q D cl (some (gx_l x)) X) args s cells slots (gx_Z D)) X pc lv [gx_l x] := fun H locs ls hR hS hL => W.lret C.1 C.2.1 C.2.2.2.2.1  (fun t ht hW => ⟨rfl, by rw [ht]; exact hR, hS.F ht⟩) hS.2.2 hd C.2.2.2.2.2.1
theorem gx_vret  (C : gx_C D cl aty tb nb p s m meth c cc nL own none) (hd : decode cc pc = .ok (.return_, 1)) : gx_W D cl nL p l e R s m args below meth c cells slots (MQ below (gx_Q D cl none X) args s cells slots (gx_Z D)) X pc lv [] := fun H locs ls hR hS hL => W.vret C.1 C.2.1 C.2.2.2.2.1  (fun t ht hW => ⟨rfl, by rw [ht]; exact hR, hS.F ht⟩) hS.2.2 hd C.2.2.2.2.2.1
theorem gx_aret {Cn : String} {x : Option Nat} (C : gx_C D cl aty tb nb p s m meth c cc nL own (some (.object Cn))) (hd : decode cc pc = .ok (.areturn, 1)) : gx_W D cl nL p l e R s m args below meth c cells slots (MQ below (gx_Q D cl (some (gx_r x)) X) args s cells slots (gx_Z D)) X pc lv [gx_r x] := fun H locs ls hR hS hL => W.aret C.1 C.2.1 C.2.2.2.2.1 (Or.inl ⟨_, rfl⟩) (by cases x <;> first | exact Or.inl rfl | exact Or.inr ⟨_, rfl⟩) (fun t ht hW => ⟨rfl, by rw [ht]; exact hR, hS.F ht⟩) hS.2.2 hd C.2.2.2.2.2.1
theorem gx_blind {D : gx_D} {cl : List vw_C} {aty : List FieldType} {tb nb : List Cond} {av : List gx_V} {X : gx_H} : FrameBlind (gx_Pc D cl aty tb nb av X) := fun a U g mk h => ⟨h.1, h.2.1, h.2.2.same rfl⟩
theorem gx_after {H : Heap} {locs : List Loc} {ls : Array Slot} {nc ns : Nat} {r : Option gx_V} {X2 : gx_H} {stk : List Value} {av : Array Value} (hR : gx_R D cl X H) (hS : va_S (gx_Z D) s.heap H locs) (hL : gx_L ls nL lv) (hr : va_Run p l e R s m args below meth c H locs cells slots nc ns (F0 m pc ls stk) (st.map gx_t) (gx_Q D cl r X2 av) (gx_Z D)) (kk : gx_W D cl nL p l e R s m args below meth c (cells + nc) (slots + ns) Q X2 (pc + 3) lv (r.toList ++ st)) : W p l e R s m args below meth c H locs cells slots Q (F0 m pc ls stk) := by
  intro T hT S
  obtain ⟨v, st₀, t, T', L, h0, S', hLc, e1, e2, ⟨hv, hX2, hz, hk⟩, go⟩ := hr T hT S
  have hv' : v = r.map gx_t := by
    have := hv
    simpa using this
  subst hv'
  rw [h0] at hz hk
  have hstk : (r.map gx_t).toList ++ st.map gx_t = (r.toList ++ st).map gx_t := by cases r <;> rfl
  obtain ⟨t2, a1, b1⟩ := kk t.heap (locs ++ L) ls hX2 ⟨Nat.le_trans hS.1 hz, fun q h1 h2 => by rw [hk q (Nat.lt_of_lt_of_le h1 hS.1) h2]; exact hS.2.1 q h1 h2, fun q hq => by
      rcases List.mem_append.mp hq with h | h
      · exact hS.2.2 q h
      · exact hLc q h⟩ hL T' e1 S'
  refine ⟨t2, go t2 ?_, b1⟩
  rw [hstk]
  exact a1
theorem gx_cb (C : gx_C D cl aty tb nb p s m meth c cc nL own ret) {y : MethodName} {bytes : ByteArray} {maxL : Nat} {retc : Option FieldType} {n fr lo nc ns idx : Nat} {r : Option gx_V} {X2 : gx_H} {stk stk2 : List gx_V} (cd : gx_cd tb y bytes maxL retc n) (hl : Cond.methodLink own idx y ∈ tb) (hR0 : fr + 1 ≤ R.frames ∧ 8 + (maxL + 11) + lo ≤ R.locals) : CallB R s args own idx y bytes maxL retc [.code y bytes maxL retc] (gx_rm fr lo nc ns) nc ns n := by
  refine ⟨rfl, rfl, hR0.1, hR0.2, fun w hw a' U hW => ?_, List.mem_cons_self, C.2.2.2.2.2.2.2.2.1 _ cd.1 args, C.2.2.2.2.2.2.2.2.1 _ cd.2.1 args, ⟨cd.2.2.1, cd.2.2.2.1⟩, fun sig h => ?_, C.2.2.2.2.2.2.2.2.1 _ hl args⟩
  · rw [List.mem_singleton.mp hw]
    exact (C.2.2.2.2.2.2.moved hW).2.2.1 _ cd.1 a'
  · have h2 := cd.2.2.2.2
    rw [h] at h2
    exact (Option.some.inj h2).symm
theorem gx_cn (C : gx_C D cl aty tb nb p s m meth c cc nL own ret) {y : MethodName} {bytes : ByteArray} {maxL : Nat} {retc : Option FieldType} {n fr lo nc ns idx : Nat} {r : Option gx_V} {X2 : gx_H} {stk stk2 : List gx_V} {host : String} (cd : gx_cd tb y bytes maxL retc n) (hl : Cond.methodLinkNest own idx y host ∈ nb) (hR0 : fr + 1 ≤ R.frames ∧ 8 + (maxL + 11) + lo ≤ R.locals) : va_CN R s args own idx y host bytes maxL retc [.code y bytes maxL retc] (gx_rm fr lo nc ns) nc ns n := by
  refine ⟨⟨rfl, rfl, hR0.1, hR0.2, fun w hw a' U hW => ?_, List.mem_cons_self⟩, C.2.2.2.2.2.2.2.2.1 _ cd.1 args, C.2.2.2.2.2.2.2.2.1 _ cd.2.1 args, ⟨cd.2.2.1, cd.2.2.2.1⟩, fun sig h => ?_, va_Nw.use rfl (C.2.2.2.2.2.2.2.2.2.1 _ hl)⟩
  · rw [List.mem_singleton.mp hw]
    exact (C.2.2.2.2.2.2.moved hW).2.2.1 _ cd.1 a'
  · have h2 := cd.2.2.2.2
    rw [h] at h2
    exact (Option.some.inj h2).symm
theorem gx_room {m : MethodId} {pc : Nat} {ls : Array Slot} {stk : List Value} (hst : (st.map (fun v => if gx_2 v = true then 2 else 1)).sum ≤ 8) : 2 * (F0 m pc ls stk).monitorRoom + ((st.map gx_t).map fun v => v.category).sum ≤ 8 := by
  refine lv_room ?_
  rw [List.map_map]
  have e : (fun v : Value => v.category) ∘ gx_t = fun v => if gx_2 v = true then 2 else 1 := funext fun v => gx_cat v
  rw [e]
  exact hst
theorem gx_recv (C : gx_C D cl aty tb nb p s m meth c cc nL own ret) {a ci N : Nat} {Cn : String} {T : u_T} {H : Heap} (hR : gx_R D cl X H) (hcl : cl[ci]? = some (Cn, T, N)) (ho : gx_is X a ci = true) : ∃ cell : Cell, H[a]? = some cell ∧ cell.vm.isStatics = false ∧ s.vm.findClass Cn = some cell.cls := by
  obtain ⟨fs, hv⟩ := gx_is_s ho
  exact va_recv (D := D.1) (ws := [(a, gx_e D (.inr (ci, fs)))]) C.2.2.2.2.2.2.va (hR.one hv) hcl (q0 := 0) rfl
theorem gx_callV (C : gx_C D cl aty tb nb p s m meth c cc nL own ret) {y : MethodName} {bytes : ByteArray} {maxL : Nat} {retc : Option FieldType} {n fr lo nc ns idx : Nat} {r : Option gx_V} {X2 : gx_H} {stk stk2 : List gx_V} {a ci N : Nat} {T : u_T} {As : List gx_V} (cd : gx_cd tb y bytes maxL retc n) (hi : Cond.instanceMethod y ∈ tb) (hs : Cond.selects y.cls y y ∈ tb) (hl : Cond.methodLink own idx y ∈ tb) (hcl : cl[ci]? = some (y.cls, T, N)) (ho : gx_is X a ci = true) (hM : gx_M D cl aty tb nb l y bytes maxL retc fr lo (gx_r (some a) :: As) X r X2 nc ns) (hn : As.length = n) (hR0 : fr + 1 ≤ R.frames ∧ 8 + (maxL + 11) + lo ≤ R.locals) (hc : cells + nc ≤ R.cells ∧ slots + ns ≤ R.slots) (hst : (st.map (fun v => if gx_2 v = true then 2 else 1)).sum ≤ 8) (hstk : stk = As.reverse ++ gx_r (some a) :: st) (hs2 : r.toList ++ st = stk2) (hd : decode cc pc = .ok (.invokevirtual idx, 3)) (kk : gx_W D cl nL p l e R s m args below meth c (cells + nc) (slots + ns) Q X2 (pc + 3) lv stk2) : gx_W D cl nL p l e R s m args below meth c cells slots Q X pc lv stk := fun H locs ls hR hS hL => by
  subst hstk
  subst hs2
  refine gx_after (X2 := X2) (r := r) (st := st) hR hS hL (va_runV (b := a) (As := As.map gx_t) (rest := st.map gx_t) (C := y.cls) (n := n) (Ts := []) (nL := nL) (own := own) ⟨C.1, C.2.1, C.2.2.1, C.2.2.2.1, fun w hw => by cases hw⟩ hM ⟨gx_cb C (n := n) (fr := fr) (lo := lo) (nc := nc) (ns := ns) (r := r) (X2 := X2) (stk := []) (stk2 := []) cd hl hR0, C.2.2.2.2.2.2.2.2.1 _ hi args, C.2.2.2.2.2.2.2.2.1 _ hs args⟩ ⟨gx_blind, gx_recv C hR hcl ho, fun U hU hW => ⟨rfl, by rw [hU]; exact hR, C.2.2.2.2.2.2.moved hW⟩⟩ rfl (by rw [List.length_map]; exact hn) hL.1 ?_ (gx_room hst) hd hc) kk
  show List.map gx_t (As.reverse ++ gx_r (some a) :: st) = _
  rw [List.map_append, List.map_reverse]
  rfl
theorem gx_callVN (C : gx_C D cl aty tb nb p s m meth c cc nL own ret) {y : MethodName} {bytes : ByteArray} {maxL : Nat} {retc : Option FieldType} {n fr lo nc ns idx : Nat} {r : Option gx_V} {X2 : gx_H} {stk stk2 : List gx_V} {host : String} {a ci N : Nat} {T : u_T} {As : List gx_V} (cd : gx_cd tb y bytes maxL retc n) (hi : Cond.instanceMethod y ∈ tb) (hs : Cond.selects y.cls y y ∈ tb) (hl : Cond.methodLinkNest own idx y host ∈ nb) (hcl : cl[ci]? = some (y.cls, T, N)) (ho : gx_is X a ci = true) (hM : gx_M D cl aty tb nb l y bytes maxL retc fr lo (gx_r (some a) :: As) X r X2 nc ns) (hn : As.length = n) (hR0 : fr + 1 ≤ R.frames ∧ 8 + (maxL + 11) + lo ≤ R.locals) (hc : cells + nc ≤ R.cells ∧ slots + ns ≤ R.slots) (hst : (st.map (fun v => if gx_2 v = true then 2 else 1)).sum ≤ 8) (hstk : stk = As.reverse ++ gx_r (some a) :: st) (hs2 : r.toList ++ st = stk2) (hd : decode cc pc = .ok (.invokevirtual idx, 3)) (kk : gx_W D cl nL p l e R s m args below meth c (cells + nc) (slots + ns) Q X2 (pc + 3) lv stk2) : gx_W D cl nL p l e R s m args below meth c cells slots Q X pc lv stk := fun H locs ls hR hS hL => by
  subst hstk
  subst hs2
  refine gx_after (X2 := X2) (r := r) (st := st) hR hS hL (va_runVN (b := a) (As := As.map gx_t) (rest := st.map gx_t) (C := y.cls) (n := n) (Ts := []) (nL := nL) (own := own) ⟨C.1, C.2.1, C.2.2.1, C.2.2.2.1, fun w hw => by cases hw⟩ hM ⟨gx_cn C (n := n) (fr := fr) (lo := lo) (nc := nc) (ns := ns) (r := r) (X2 := X2) (stk := []) (stk2 := []) cd hl hR0, C.2.2.2.2.2.2.2.2.1 _ hi args, C.2.2.2.2.2.2.2.2.1 _ hs args⟩ ⟨gx_blind, gx_recv C hR hcl ho, fun U hU hW => ⟨rfl, by rw [hU]; exact hR, C.2.2.2.2.2.2.moved hW⟩⟩ rfl (by rw [List.length_map]; exact hn) hL.1 ?_ (gx_room hst) hd hc) kk
  show List.map gx_t (As.reverse ++ gx_r (some a) :: st) = _
  rw [List.map_append, List.map_reverse]
  rfl
theorem gx_callI (C : gx_C D cl aty tb nb p s m meth c cc nL own ret) {y : MethodName} {bytes : ByteArray} {maxL : Nat} {n fr lo nc ns idx : Nat} {r : Option gx_V} {X2 : gx_H} {stk stk2 : List gx_V} {a : Nat} {As : List gx_V} (cd : gx_cd tb y bytes maxL none n) (hi : Cond.instanceMethod y ∈ tb) (hy1 : y.name = "<init>") (hl : Cond.methodLink own idx y ∈ tb) (hM : gx_M D cl aty tb nb l y bytes maxL none fr lo (gx_r (some a) :: As) X r X2 nc ns) (hn : As.length = n) (hR0 : fr + 1 ≤ R.frames ∧ 8 + (maxL + 11) + lo ≤ R.locals) (hc : cells + nc ≤ R.cells ∧ slots + ns ≤ R.slots) (hst : (st.map (fun v => if gx_2 v = true then 2 else 1)).sum ≤ 8) (hstk : stk = As.reverse ++ gx_r (some a) :: st) (hs2 : r.toList ++ st = stk2) (hd : decode cc pc = .ok (.invokespecial idx, 3)) (kk : gx_W D cl nL p l e R s m args below meth c (cells + nc) (slots + ns) Q X2 (pc + 3) lv stk2) : gx_W D cl nL p l e R s m args below meth c cells slots Q X pc lv stk := fun H locs ls hR hS hL => by
  subst hstk
  subst hs2
  refine gx_after (X2 := X2) (r := r) (st := st) hR hS hL (va_runI (b := a) (As := As.map gx_t) (rest := st.map gx_t) (n := n) (Ts := []) (nL := nL) (own := own) ⟨C.1, C.2.1, C.2.2.1, C.2.2.2.1, fun w hw => by cases hw⟩ hM ⟨gx_cb C (n := n) (fr := fr) (lo := lo) (nc := nc) (ns := ns) (r := r) (X2 := X2) (stk := []) (stk2 := []) cd hl hR0, hy1, C.2.2.2.2.2.2.2.2.1 _ hi args⟩ ⟨gx_blind, fun U hU hW => ⟨rfl, by rw [hU]; exact hR, C.2.2.2.2.2.2.moved hW⟩⟩ rfl (by rw [List.length_map]; exact hn) hL.1 ?_ (gx_room hst) hd hc) kk
  show List.map gx_t (As.reverse ++ gx_r (some a) :: st) = _
  rw [List.map_append, List.map_reverse]
  rfl
theorem gx_callIN (C : gx_C D cl aty tb nb p s m meth c cc nL own ret) {y : MethodName} {bytes : ByteArray} {maxL : Nat} {n fr lo nc ns idx : Nat} {r : Option gx_V} {X2 : gx_H} {stk stk2 : List gx_V} {host : String} {a : Nat} {As : List gx_V} (cd : gx_cd tb y bytes maxL none n) (hi : Cond.instanceMethod y ∈ tb) (hy1 : y.name = "<init>") (hl : Cond.methodLinkNest own idx y host ∈ nb) (hM : gx_M D cl aty tb nb l y bytes maxL none fr lo (gx_r (some a) :: As) X r X2 nc ns) (hn : As.length = n) (hR0 : fr + 1 ≤ R.frames ∧ 8 + (maxL + 11) + lo ≤ R.locals) (hc : cells + nc ≤ R.cells ∧ slots + ns ≤ R.slots) (hst : (st.map (fun v => if gx_2 v = true then 2 else 1)).sum ≤ 8) (hstk : stk = As.reverse ++ gx_r (some a) :: st) (hs2 : r.toList ++ st = stk2) (hd : decode cc pc = .ok (.invokespecial idx, 3)) (kk : gx_W D cl nL p l e R s m args below meth c (cells + nc) (slots + ns) Q X2 (pc + 3) lv stk2) : gx_W D cl nL p l e R s m args below meth c cells slots Q X pc lv stk := fun H locs ls hR hS hL => by
  subst hstk
  subst hs2
  refine gx_after (X2 := X2) (r := r) (st := st) hR hS hL (va_runIN (b := a) (As := As.map gx_t) (rest := st.map gx_t) (n := n) (Ts := []) (nL := nL) (own := own) ⟨C.1, C.2.1, C.2.2.1, C.2.2.2.1, fun w hw => by cases hw⟩ hM ⟨gx_cn C (n := n) (fr := fr) (lo := lo) (nc := nc) (ns := ns) (r := r) (X2 := X2) (stk := []) (stk2 := []) cd hl hR0, hy1, C.2.2.2.2.2.2.2.2.1 _ hi args⟩ ⟨gx_blind, fun U hU hW => ⟨rfl, by rw [hU]; exact hR, C.2.2.2.2.2.2.moved hW⟩⟩ rfl (by rw [List.length_map]; exact hn) hL.1 ?_ (gx_room hst) hd hc) kk
  show List.map gx_t (As.reverse ++ gx_r (some a) :: st) = _
  rw [List.map_append, List.map_reverse]
  rfl
theorem gx_callS (C : gx_C D cl aty tb nb p s m meth c cc nL own ret) {y : MethodName} {bytes : ByteArray} {maxL : Nat} {retc : Option FieldType} {n fr lo nc ns idx : Nat} {r : Option gx_V} {X2 : gx_H} {stk stk2 : List gx_V} {As : List gx_V} (cd : gx_cd tb y bytes maxL retc n) (hi : Cond.static y ∈ tb) (hl : Cond.methodLink own idx y ∈ tb) (hM : gx_M D cl aty tb nb l y bytes maxL retc fr lo As X r X2 nc ns) (hn : As.length = n) (hR0 : fr + 1 ≤ R.frames ∧ 8 + (maxL + 11) + lo ≤ R.locals) (hc : cells + nc ≤ R.cells ∧ slots + ns ≤ R.slots) (hst : (st.map (fun v => if gx_2 v = true then 2 else 1)).sum ≤ 8) (hstk : stk = As.reverse ++ st) (hs2 : r.toList ++ st = stk2) (hd : decode cc pc = .ok (.invokestatic idx, 3)) (kk : gx_W D cl nL p l e R s m args below meth c (cells + nc) (slots + ns) Q X2 (pc + 3) lv stk2) : gx_W D cl nL p l e R s m args below meth c cells slots Q X pc lv stk := fun H locs ls hR hS hL => by
  subst hstk
  subst hs2
  refine gx_after (X2 := X2) (r := r) (st := st) hR hS hL (va_runS (As := As.map gx_t) (rest := st.map gx_t) (n := n) (Ts := []) (nL := nL) (own := own) ⟨C.1, C.2.1, C.2.2.1, C.2.2.2.1, fun w hw => by cases hw⟩ hM ⟨gx_cb C (n := n) (fr := fr) (lo := lo) (nc := nc) (ns := ns) (r := r) (X2 := X2) (stk := []) (stk2 := []) cd hl hR0, C.2.2.2.2.2.2.2.2.1 _ hi args⟩ ⟨gx_blind, fun U hU hW => ⟨rfl, by rw [hU]; exact hR, C.2.2.2.2.2.2.moved hW⟩⟩ rfl (by rw [List.length_map]; exact hn) hL.1 ?_ (gx_room hst) hd hc) kk
  show List.map gx_t (As.reverse ++ st) = _
  rw [List.map_append, List.map_reverse]
theorem gx_callSN (C : gx_C D cl aty tb nb p s m meth c cc nL own ret) {y : MethodName} {bytes : ByteArray} {maxL : Nat} {retc : Option FieldType} {n fr lo nc ns idx : Nat} {r : Option gx_V} {X2 : gx_H} {stk stk2 : List gx_V} {host : String} {As : List gx_V} (cd : gx_cd tb y bytes maxL retc n) (hi : Cond.static y ∈ tb) (hl : Cond.methodLinkNest own idx y host ∈ nb) (hM : gx_M D cl aty tb nb l y bytes maxL retc fr lo As X r X2 nc ns) (hn : As.length = n) (hR0 : fr + 1 ≤ R.frames ∧ 8 + (maxL + 11) + lo ≤ R.locals) (hc : cells + nc ≤ R.cells ∧ slots + ns ≤ R.slots) (hst : (st.map (fun v => if gx_2 v = true then 2 else 1)).sum ≤ 8) (hstk : stk = As.reverse ++ st) (hs2 : r.toList ++ st = stk2) (hd : decode cc pc = .ok (.invokestatic idx, 3)) (kk : gx_W D cl nL p l e R s m args below meth c (cells + nc) (slots + ns) Q X2 (pc + 3) lv stk2) : gx_W D cl nL p l e R s m args below meth c cells slots Q X pc lv stk := fun H locs ls hR hS hL => by
  subst hstk
  subst hs2
  refine gx_after (X2 := X2) (r := r) (st := st) hR hS hL (va_runSN (As := As.map gx_t) (rest := st.map gx_t) (n := n) (Ts := []) (nL := nL) (own := own) ⟨C.1, C.2.1, C.2.2.1, C.2.2.2.1, fun w hw => by cases hw⟩ hM ⟨gx_cn C (n := n) (fr := fr) (lo := lo) (nc := nc) (ns := ns) (r := r) (X2 := X2) (stk := []) (stk2 := []) cd hl hR0, C.2.2.2.2.2.2.2.2.1 _ hi args, trivial⟩ ⟨gx_blind, fun U hU hW => ⟨rfl, by rw [hU]; exact hR, C.2.2.2.2.2.2.moved hW⟩⟩ rfl (by rw [List.length_map]; exact hn) hL.1 ?_ (gx_room hst) hd hc) kk
  show List.map gx_t (As.reverse ++ st) = _
  rw [List.map_append, List.map_reverse]
theorem gx_widen {k n : Nat} (h1 : cells ≤ k) (h2 : slots ≤ n) (kk : gx_W D cl nL p l e R s m args below meth c k n Q X pc lv st) : gx_W D cl nL p l e R s m args below meth c cells slots Q X pc lv st := fun H locs ls hR hS hL => W.widen h1 h2 (kk H locs ls hR hS hL)
end GY
theorem gx_enter {D : gx_D} {cl : List vw_C} {aty : List FieldType} {tb nb : List Cond} {l : Launch} {y : MethodName} {bytes : ByteArray} {maxL : Nat} {ret : Option FieldType} {fr lo : Nat} {av : List gx_V} {X : gx_H} {r : Option gx_V} {X2 : gx_H} {nc ns : Nat} (lv0 : List (Option gx_V)) (hlv : gx_pad maxL (gx_en av) = lv0) (hy : plainName y.cls = true) (hle : (gx_en av).length ≤ maxL)
    (body : ∀ (p : Program) (e : Env) (s : State) (m : MethodId) (below : List Frame) (meth : Method) (c : Code), gx_C D cl aty tb nb p s m meth c bytes maxL y.cls ret → meth.name = y.name →
      gx_W D cl maxL p l e (gx_rm fr lo nc ns) s m (av.map gx_t).toArray below meth c 0 0 (MQ below (gx_Q D cl r X2) (av.map gx_t).toArray s nc ns (gx_Z D)) X 0 lv0 []) : gx_M D cl aty tb nb l y bytes maxL ret fr lo av X r X2 nc ns := by
  subst hlv
  refine Met.ofW (cc := bytes) (maxL := maxL) (ret := ret) hy rfl ?_
  intro p e s m args below meth c s₁ B hml hv
  obtain ⟨rfl, hR, hK⟩ := hv
  have hW := body p e s m below meth c ⟨B.exec, B.bytes, hml, findClass_of_methodNamed B.named, B.returns, B.notSynchronized, hK⟩ (name_of_methodNamed B.named B.method).1
  have hl := lv_entry (av.map gx_t) (n := maxL) (by rw [gx_sl_len]; exact hle)
  rw [lg_entry_eq]
  exact hW s.heap [] _ hR va_S.rf ⟨hl.1, hl.2.1, fun i v h => by
    have h1 := gx_en_at av 0 i v (gx_pad_at h)
    rw [Nat.zero_add] at h1
    exact hl.2.2 _ h1⟩