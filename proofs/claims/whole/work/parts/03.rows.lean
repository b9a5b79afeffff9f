/-! ROWS: the judgement gx_W (world, pc, locals, stack) and an instruction a row -/
def gx_C (D : gx_D) (cl : List vw_C) (aty : List FieldType) (tb nb : List Cond) (p : Program) (s : State) (m : MethodId) (meth : Method) (c : Code) (cc : ByteArray) (nL : Nat) (own : String) (ret : Option FieldType) : Prop :=
  p.tables.exec = Jvm.exec ∧ c.code = cc ∧ c.maxLocals = nL ∧ s.vm.findClass own = some m.cls ∧ meth.sig.returnType = ret ∧ meth.locks = false ∧ gx_K D cl aty tb nb s
abbrev gx_Z (D : gx_D) : Nat → Prop := fun q => D.2.2 ≤ q
def gx_W (D : gx_D) (cl : List vw_C) (nL : Nat) (p : Program) (l : Launch) (e : Env) (R : Room) (s : State) (m : MethodId) (args : Array Value) (below : List Frame) (meth : Method) (c : Code) (cells slots : Nat) (Q : State → Prop) (X : gx_H) (pc : Nat) (lv : List (Option gx_V)) (st : List gx_V) : Prop :=
  ∀ (H : Heap) (locs : List Loc) (ls : Array Slot), gx_R D cl X H → va_S (gx_Z D) s.heap H locs → gx_L ls nL lv → W p l e R s m args below meth c H locs cells slots Q (F0 m pc ls (st.map gx_t))
def gx_Q (D : gx_D) (cl : List vw_C) (r : Option gx_V) (X : gx_H) : Array Value → State → Outcome → State → Prop := fun _ st o t => o = .returned (r.map gx_t) ∧ gx_R D cl X t.heap ∧ va_F (gx_Z D) st t
abbrev gx_rm (fr lo c s : Nat) : Room := { frames := fr, cells := c, slots := s, locals := lo }
def gx_Pc (D : gx_D) (cl : List vw_C) (aty : List FieldType) (tb nb : List Cond) (av : List gx_V) (X : gx_H) : Array Value → State → Prop := va_Pc (av.map gx_t) (fun U => gx_R D cl X U.heap ∧ gx_K D cl aty tb nb U)
/-- a method's contract: from the world X, with these arguments, it answers r, the world is X', and it makes nc cells of ns slots -/
def gx_M (D : gx_D) (cl : List vw_C) (aty : List FieldType) (tb nb : List Cond) (l : Launch) (y : MethodName) (bytes : ByteArray) (maxL : Nat) (ret : Option FieldType) (fr lo : Nat) (av : List gx_V) (X : gx_H) (r : Option gx_V) (X' : gx_H) (nc ns : Nat) : Prop :=
  Met l y [.code y bytes maxL ret] (gx_rm fr lo nc ns) (gx_Pc D cl aty tb nb av X) (gx_Q D cl r X') nc ns (gx_Z D)
theorem gx_bd {α β : Type} {o : Option α} {k : α → Option β} {y : β} (h : o.bind k = some y) : ∃ a, o = some a ∧ k a = some y := by
  cases o with
  | none => cases h
  | some a => exact ⟨a, rfl, h⟩
def gx_b2 {α β γ : Type} (o : Option (α × β)) (k : α → β → Option γ) : Option γ := match o with
  | some z => k z.1 z.2
  | none => none
theorem gx_bd2 {α β γ : Type} {o : Option (α × β)} {k : α → β → Option γ} {y : γ} (h : gx_b2 o k = some y) : ∃ a b, o = some (a, b) ∧ k a b = some y := by
  cases o with
  | none => cases h
  | some z => exact ⟨z.1, z.2, rfl, h⟩
def gx_b4 {α β γ : Type} (o : Option (α × β × Nat × Nat)) (k : α → β → Nat → Nat → Option γ) : Option γ := match o with
  | some z => k z.1 z.2.1 z.2.2.1 z.2.2.2
  | none => none
theorem gx_bd4 {α β γ : Type} {o : Option (α × β × Nat × Nat)} {k : α → β → Nat → Nat → Option γ} {y : γ} (h : gx_b4 o k = some y) : ∃ a b c d, o = some (a, b, c, d) ∧ k a b c d = some y := by
  cases o with
  | none => cases h
  | some z => exact ⟨z.1, z.2.1, z.2.2.1, z.2.2.2, rfl, h⟩
/-- the rest's cells and slots on top of these -/
def gx_ad {α β : Type} (c s : Nat) (o : Option (α × β × Nat × Nat)) : Option (α × β × Nat × Nat) := match o with
  | some z => some (z.1, z.2.1, c + z.2.2.1, s + z.2.2.2)
  | none => none
theorem gx_add {α β : Type} {c s : Nat} {o : Option (α × β × Nat × Nat)} {r : α} {x : β} {c' s' : Nat} (h : gx_ad c s o = some (r, x, c', s')) : ∃ c2 s2, o = some (r, x, c2, s2) ∧ c' = c + c2 ∧ s' = s + s2 := by
  cases o with
  | none => cases h
  | some z =>
    simp only [gx_ad, Option.some.injEq, Prod.mk.injEq] at h
    obtain ⟨h1, h2, h3, h4⟩ := h
    exact ⟨z.2.2.1, z.2.2.2, by rw [← h1, ← h2], h3.symm, h4.symm⟩
def gx_nl {α : Type} (o : Option Nat) (k0 : Option α) (k1 : Nat → Option α) : Option α := match o with
  | none => k0
  | some a => k1 a
theorem gx_nl_n {α : Type} {k0 : Option α} {k1 : Nat → Option α} {y : Option α} (h : gx_nl none k0 k1 = y) : k0 = y := h
theorem gx_nl_s {α : Type} {a : Nat} {k0 : Option α} {k1 : Nat → Option α} {y : Option α} (h : gx_nl (some a) k0 k1 = y) : k1 a = y := h
/-- a reference that must be there -/
def gx_nn (o : Option Nat) : Option Nat := o
/-- a boolean -/
def gx_bz (x : Int32) : Option Int32 := if x = 0 ∨ x = 1 then some x else none
theorem gx_bz_s {x y : Int32} (h : gx_bz x = some y) : y = x ∧ (x = 0 ∨ x = 1) := by
  unfold gx_bz at h
  split at h
  · rename_i q
    cases h
    exact ⟨rfl, q⟩
  · cases h
/-! reading and writing the world -/
def gx_gf (X : gx_H) (a ci k : Nat) : Option Value := match X.1 a with
  | some (.inr o) => if o.1 = ci then o.2[k]? else none
  | _ => none
theorem gx_gf_s {X : gx_H} {a ci k : Nat} {v : Value} (h : gx_gf X a ci k = some v) : ∃ fs, X.1 a = some (.inr (ci, fs)) ∧ fs[k]? = some v := by
  unfold gx_gf at h
  split at h
  · rename_i o ho
    split at h
    · rename_i q
      obtain ⟨o1, o2⟩ := o
      cases q
      exact ⟨_, ho, h⟩
    · cases h
  · cases h
def gx_gi (X : gx_H) (a ci k : Nat) : Option Int32 := match gx_gf X a ci k with
  | some (.int x) => some x
  | _ => none
def gx_gl (X : gx_H) (a ci k : Nat) : Option Int64 := match gx_gf X a ci k with
  | some (.long x) => some x
  | _ => none
def gx_gr (X : gx_H) (a ci k : Nat) : Option (Option Nat) := match gx_gf X a ci k with
  | some (.ref b) => some (some b)
  | some .null => some none
  | _ => none
def gx_gd (X : gx_H) (a ci k : Nat) : Option Nat := match gx_gf X a ci k with
  | some (.ref b) => some b
  | _ => none
theorem gx_gi_s {X : gx_H} {a ci k : Nat} {x : Int32} (h : gx_gi X a ci k = some x) : gx_gf X a ci k = some (gx_t (gx_i x)) := by
  unfold gx_gi at h
  split at h
  · rename_i y hy
    cases h
    exact hy
  · cases h
theorem gx_gl_s {X : gx_H} {a ci k : Nat} {x : Int64} (h : gx_gl X a ci k = some x) : gx_gf X a ci k = some (gx_t (gx_l x)) := by
  unfold gx_gl at h
  split at h
  · rename_i y hy
    cases h
    exact hy
  · cases h
theorem gx_gr_s {X : gx_H} {a ci k : Nat} {x : Option Nat} (h : gx_gr X a ci k = some x) : gx_gf X a ci k = some (gx_t (gx_r x)) := by
  unfold gx_gr at h
  split at h
  · rename_i y hy
    cases h
    exact hy
  · rename_i hy
    cases h
    exact hy
  · cases h
theorem gx_gd_s {X : gx_H} {a ci k : Nat} {x : Nat} (h : gx_gd X a ci k = some x) : gx_gf X a ci k = some (gx_t (gx_r (some x))) := by
  unfold gx_gd at h
  split at h
  · rename_i y hy
    cases h
    exact hy
  · cases h
def gx_is (X : gx_H) (a ci : Nat) : Bool := match X.1 a with
  | some (.inr o) => decide (o.1 = ci)
  | _ => false
theorem gx_is_s {X : gx_H} {a ci : Nat} (h : gx_is X a ci = true) : ∃ fs, X.1 a = some (.inr (ci, fs)) := by
  unfold gx_is at h
  split at h
  · rename_i o ho
    obtain ⟨o1, o2⟩ := o
    have q : o1 = ci := by simpa using h
    cases q
    exact ⟨_, ho⟩
  · cases h
def gx_ob {α : Type} (X : gx_H) (a ci : Nat) (k : Option α) : Option α := if gx_is X a ci = true then k else none
theorem gx_obs {α : Type} {X : gx_H} {a ci : Nat} {k : Option α} {y : α} (h : gx_ob X a ci k = some y) : gx_is X a ci = true ∧ k = some y := by
  unfold gx_ob at h
  split at h
  · rename_i q
    exact ⟨q, h⟩
  · cases h
def gx_pf (X : gx_H) (a ci k : Nat) (v : Value) : Option gx_H := match X.1 a with
  | some (.inr o) => if o.1 = ci ∧ k < o.2.length then some (gx_up X.1 a (.inr (ci, o.2.set k v)), X.2) else none
  | _ => none
theorem gx_pf_s {X X' : gx_H} {a ci k : Nat} {v : Value} (h : gx_pf X a ci k v = some X') : ∃ fs, X.1 a = some (.inr (ci, fs)) ∧ k < fs.length ∧ X' = (gx_up X.1 a (.inr (ci, fs.set k v)), X.2) := by
  unfold gx_pf at h
  split at h
  · rename_i o ho
    split at h
    · rename_i q
      obtain ⟨o1, o2⟩ := o
      obtain ⟨q1, q2⟩ := q
      cases q1
      cases h
      exact ⟨_, ho, q2, rfl⟩
    · cases h
  · cases h
def gx_gai (X : gx_H) (a t : Nat) (i : Int32) : Option Int32 := match X.1 a with
  | some (.inl (t', n, .inl f)) => if t' = t then (if i < 0 ∨ n ≤ i.toNatClampNeg then none else some (f i.toNatClampNeg)) else none
  | _ => none
def gx_gal (X : gx_H) (a t : Nat) (i : Int32) : Option Int64 := match X.1 a with
  | some (.inl (t', n, .inr (.inl f))) => if t' = t then (if i < 0 ∨ n ≤ i.toNatClampNeg then none else some (f i.toNatClampNeg)) else none
  | _ => none
def gx_gar (X : gx_H) (a t : Nat) (i : Int32) : Option (Option Nat) := match X.1 a with
  | some (.inl (t', n, .inr (.inr (.inr (.inr f))))) => if t' = t then (if i < 0 ∨ n ≤ i.toNatClampNeg then none else some (f i.toNatClampNeg)) else none
  | _ => none
def gx_pai (X : gx_H) (a t : Nat) (i x : Int32) : Option gx_H := match X.1 a with
  | some (.inl (t', n, .inl f)) => if t' = t then (if i < 0 ∨ n ≤ i.toNatClampNeg then none else some (gx_up X.1 a (.inl (t, n, .inl (upd f i.toNatClampNeg x))), X.2)) else none
  | _ => none
def gx_pal (X : gx_H) (a t : Nat) (i : Int32) (x : Int64) : Option gx_H := match X.1 a with
  | some (.inl (t', n, .inr (.inl f))) => if t' = t then (if i < 0 ∨ n ≤ i.toNatClampNeg then none else some (gx_up X.1 a (.inl (t, n, .inr (.inl (vp_updL f i.toNatClampNeg x)))), X.2)) else none
  | _ => none
def gx_par (X : gx_H) (a t : Nat) (i : Int32) (x : Option Nat) : Option gx_H := match X.1 a with
  | some (.inl (t', n, .inr (.inr (.inr (.inr f))))) => if t' = t then (if i < 0 ∨ n ≤ i.toNatClampNeg then none else some (gx_up X.1 a (.inl (t, n, .inr (.inr (.inr (.inr (va_up f i.toNatClampNeg x)))))), X.2)) else none
  | _ => none

theorem gx_gai_s {X : gx_H} {a t : Nat} {i : Int32} {x : Int32} (h : gx_gai X a t i = some x) : ∃ (n : Nat) (f : Nat → Int32), X.1 a = some (.inl (t, n, .inl f)) ∧ vp_in i n ∧ x = f i.toNatClampNeg := by
  unfold gx_gai at h
  split at h
  · rename_i t' n f hX
    split at h
    · rename_i q
      cases q
      split at h
      · cases h
      · rename_i q2
        cases h
        exact ⟨n, f, hX, q2, rfl⟩
    · cases h
  · cases h
theorem gx_gal_s {X : gx_H} {a t : Nat} {i : Int32} {x : Int64} (h : gx_gal X a t i = some x) : ∃ (n : Nat) (f : Nat → Int64), X.1 a = some (.inl (t, n, .inr (.inl f))) ∧ vp_in i n ∧ x = f i.toNatClampNeg := by
  unfold gx_gal at h
  split at h
  · rename_i t' n f hX
    split at h
    · rename_i q
      cases q
      split at h
      · cases h
      · rename_i q2
        cases h
        exact ⟨n, f, hX, q2, rfl⟩
    · cases h
  · cases h
theorem gx_gar_s {X : gx_H} {a t : Nat} {i : Int32} {x : Option Nat} (h : gx_gar X a t i = some x) : ∃ (n : Nat) (f : Nat → Option Nat), X.1 a = some (.inl (t, n, .inr (.inr (.inr (.inr f))))) ∧ vp_in i n ∧ x = f i.toNatClampNeg := by
  unfold gx_gar at h
  split at h
  · rename_i t' n f hX
    split at h
    · rename_i q
      cases q
      split at h
      · cases h
      · rename_i q2
        cases h
        exact ⟨n, f, hX, q2, rfl⟩
    · cases h
  · cases h
theorem gx_pai_s {X X' : gx_H} {a t : Nat} {i : Int32} {x : Int32} (h : gx_pai X a t i x = some X') : ∃ (n : Nat) (f : Nat → Int32), X.1 a = some (.inl (t, n, .inl f)) ∧ vp_in i n ∧ X' = (gx_up X.1 a (.inl (t, n, .inl (upd f i.toNatClampNeg x))), X.2) := by
  unfold gx_pai at h
  split at h
  · rename_i t' n f hX
    split at h
    · rename_i q
      cases q
      split at h
      · cases h
      · rename_i q2
        cases h
        exact ⟨n, f, hX, q2, rfl⟩
    · cases h
  · cases h
theorem gx_pal_s {X X' : gx_H} {a t : Nat} {i : Int32} {x : Int64} (h : gx_pal X a t i x = some X') : ∃ (n : Nat) (f : Nat → Int64), X.1 a = some (.inl (t, n, .inr (.inl f))) ∧ vp_in i n ∧ X' = (gx_up X.1 a (.inl (t, n, .inr (.inl (vp_updL f i.toNatClampNeg x)))), X.2) := by
  unfold gx_pal at h
  split at h
  · rename_i t' n f hX
    split at h
    · rename_i q
      cases q
      split at h
      · cases h
      · rename_i q2
        cases h
        exact ⟨n, f, hX, q2, rfl⟩
    · cases h
  · cases h
theorem gx_par_s {X X' : gx_H} {a t : Nat} {i : Int32} {x : Option Nat} (h : gx_par X a t i x = some X') : ∃ (n : Nat) (f : Nat → Option Nat), X.1 a = some (.inl (t, n, .inr (.inr (.inr (.inr f))))) ∧ vp_in i n ∧ X' = (gx_up X.1 a (.inl (t, n, .inr (.inr (.inr (.inr (va_up f i.toNatClampNeg x)))))), X.2) := by
  unfold gx_par at h
  split at h
  · rename_i t' n f hX
    split at h
    · rename_i q
      cases q
      split at h
      · cases h
      · rename_i q2
        cases h
        exact ⟨n, f, hX, q2, rfl⟩
    · cases h
  · cases h
def gx_len (X : gx_H) (a t : Nat) : Option Int32 := match X.1 a with
  | some (.inl b) => if b.1 = t then some (Int32.ofNat b.2.1) else none
  | _ => none
theorem gx_len_s {X : gx_H} {a t : Nat} {x : Int32} (h : gx_len X a t = some x) : ∃ b : vp_A, X.1 a = some (.inl (t, b)) ∧ Int32.ofNat b.1 = x := by
  unfold gx_len at h
  split at h
  · rename_i b hb
    obtain ⟨b1, b2⟩ := b
    split at h
    · rename_i q
      cases q
      cases h
      exact ⟨_, hb, rfl⟩
    · cases h
  · cases h
/-- a new cell -/
def gx_nw (X : gx_H) (e : gx_E) : gx_H := (gx_up X.1 X.2 e, X.2 + 1)
section GX
variable {p : Program} {l : Launch} {e : Env} {R : Room} {s : State} {m : MethodId} {args : Array Value} {below : List Frame} {meth : Method} {c : Code} {cells slots : Nat} {Q : State → Prop}
variable {D : gx_D} {cl : List vw_C} {aty : List FieldType} {tb nb : List Cond} {cc : ByteArray} {nL : Nat} {own : String} {ret : Option FieldType} {X : gx_H} {pc : Nat} {lv : List (Option gx_V)} {st : List gx_V}

theorem gx_iconst (C : gx_C D cl aty tb nb p s m meth c cc nL own ret) {n : Int} {v : Int32} (hd : decode cc pc = .ok (.iconst n, 1)) (hv : Int32.ofInt n = v) (kk : gx_W D cl nL p l e R s m args below meth c cells slots Q X (pc + 1) lv (gx_i v :: st)) : gx_W D cl nL p l e R s m args below meth c cells slots Q X pc lv st := fun H locs ls hR hS hL => lv_iconst C.1 C.2.1 hd hv (kk H locs ls hR hS hL)
theorem gx_bipush (C : gx_C D cl aty tb nb p s m meth c cc nL own ret) {n : Int} {v : Int32} (hd : decode cc pc = .ok (.bipush n, 2)) (hv : (Int8.ofInt n).toInt32 = v) (kk : gx_W D cl nL p l e R s m args below meth c cells slots Q X (pc + 2) lv (gx_i v :: st)) : gx_W D cl nL p l e R s m args below meth c cells slots Q X pc lv st := fun H locs ls hR hS hL => lv_bipush C.1 C.2.1 hd hv (kk H locs ls hR hS hL)
theorem gx_sipush (C : gx_C D cl aty tb nb p s m meth c cc nL own ret) {n : Int} {v : Int32} (hd : decode cc pc = .ok (.sipush n, 3)) (hv : (Int16.ofInt n).toInt32 = v) (kk : gx_W D cl nL p l e R s m args below meth c cells slots Q X (pc + 3) lv (gx_i v :: st)) : gx_W D cl nL p l e R s m args below meth c cells slots Q X pc lv st := fun H locs ls hR hS hL => lv_sipush C.1 C.2.1 hd hv (kk H locs ls hR hS hL)
theorem gx_lconst (C : gx_C D cl aty tb nb p s m meth c cc nL own ret) {n : Fin 2} {v : Int64} (hd : decode cc pc = .ok (.lconst n, 1)) (hv : Int64.ofNat (n : Nat) = v) (kk : gx_W D cl nL p l e R s m args below meth c cells slots Q X (pc + 1) lv (gx_l v :: st)) : gx_W D cl nL p l e R s m args below meth c cells slots Q X pc lv st := fun H locs ls hR hS hL => lv_lconst C.1 C.2.1 hd hv (kk H locs ls hR hS hL)
theorem gx_ldc (C : gx_C D cl aty tb nb p s m meth c cc nL own ret) {i : Nat} {v : Int32} (hc : Cond.constant own i v ∈ tb) (hd : decode cc pc = .ok (.ldc i, 2)) (kk : gx_W D cl nL p l e R s m args below meth c cells slots Q X (pc + 2) lv (gx_i v :: st)) : gx_W D cl nL p l e R s m args below meth c cells slots Q X pc lv st := fun H locs ls hR hS hL => lv_ldc C.1 C.2.1 C.2.2.2.1 (C.2.2.2.2.2.2.2.2.1 _ hc args) hd (kk H locs ls hR hS hL)
theorem gx_ldc2 (C : gx_C D cl aty tb nb p s m meth c cc nL own ret) {i : Nat} {v : Int64} (hc : Cond.constantLong own i v ∈ tb) (hd : decode cc pc = .ok (.ldc2_w i, 3)) (kk : gx_W D cl nL p l e R s m args below meth c cells slots Q X (pc + 3) lv (gx_l v :: st)) : gx_W D cl nL p l e R s m args below meth c cells slots Q X pc lv st := fun H locs ls hR hS hL => lv_ldc2 C.1 C.2.1 C.2.2.2.1 (C.2.2.2.2.2.2.2.2.1 _ hc args) hd (kk H locs ls hR hS hL)
theorem gx_iload_n (C : gx_C D cl aty tb nb p s m meth c cc nL own ret) {k : Fin 4} {i : Nat} {x : Int32} (hd : decode cc pc = .ok (.iload_n k, 1)) (hi : (k : Nat) = i) (hl : lv[i]? = some (some (gx_i x))) (kk : gx_W D cl nL p l e R s m args below meth c cells slots Q X (pc + 1) lv (gx_i x :: st)) : gx_W D cl nL p l e R s m args below meth c cells slots Q X pc lv st := fun H locs ls hR hS hL => lv_iload_n C.1 C.2.1 hd hi (hL.2.2 _ _ hl) (kk H locs ls hR hS hL)
theorem gx_iload (C : gx_C D cl aty tb nb p s m meth c cc nL own ret) {i : Nat} {x : Int32} (hd : decode cc pc = .ok (.iload i, 2)) (hl : lv[i]? = some (some (gx_i x))) (kk : gx_W D cl nL p l e R s m args below meth c cells slots Q X (pc + 2) lv (gx_i x :: st)) : gx_W D cl nL p l e R s m args below meth c cells slots Q X pc lv st := fun H locs ls hR hS hL => lv_iload C.1 C.2.1 hd (hL.2.2 _ _ hl) (kk H locs ls hR hS hL)
theorem gx_lload_n (C : gx_C D cl aty tb nb p s m meth c cc nL own ret) {k : Fin 4} {i : Nat} {x : Int64} (hd : decode cc pc = .ok (.lload_n k, 1)) (hi : (k : Nat) = i) (hl : lv[i]? = some (some (gx_l x))) (kk : gx_W D cl nL p l e R s m args below meth c cells slots Q X (pc + 1) lv (gx_l x :: st)) : gx_W D cl nL p l e R s m args below meth c cells slots Q X pc lv st := fun H locs ls hR hS hL => lv_lload_n C.1 C.2.1 hd hi (hL.2.2 _ _ hl) (kk H locs ls hR hS hL)
theorem gx_lload (C : gx_C D cl aty tb nb p s m meth c cc nL own ret) {i : Nat} {x : Int64} (hd : decode cc pc = .ok (.lload i, 2)) (hl : lv[i]? = some (some (gx_l x))) (kk : gx_W D cl nL p l e R s m args below meth c cells slots Q X (pc + 2) lv (gx_l x :: st)) : gx_W D cl nL p l e R s m args below meth c cells slots Q X pc lv st := fun H locs ls hR hS hL => lv_lload C.1 C.2.1 hd (hL.2.2 _ _ hl) (kk H locs ls hR hS hL)
theorem gx_aload_n (C : gx_C D cl aty tb nb p s m meth c cc nL own ret) {k : Fin 4} {i : Nat} {x : Option Nat} (hd : decode cc pc = .ok (.aload_n k, 1)) (hi : (k : Nat) = i) (hl : lv[i]? = some (some (gx_r x))) (kk : gx_W D cl nL p l e R s m args below meth c cells slots Q X (pc + 1) lv (gx_r x :: st)) : gx_W D cl nL p l e R s m args below meth c cells slots Q X pc lv st := fun H locs ls hR hS hL => by
  cases x with
  | none => exact lv_aload_nN C.1 C.2.1 hd hi (hL.2.2 _ _ hl) (kk H locs ls hR hS hL)
  | some a => exact lv_aload_n C.1 C.2.1 hd hi (hL.2.2 _ _ hl) (kk H locs ls hR hS hL)
theorem gx_aload (C : gx_C D cl aty tb nb p s m meth c cc nL own ret) {i : Nat} {x : Option Nat} (hd : decode cc pc = .ok (.aload i, 2)) (hl : lv[i]? = some (some (gx_r x))) (kk : gx_W D cl nL p l e R s m args below meth c cells slots Q X (pc + 2) lv (gx_r x :: st)) : gx_W D cl nL p l e R s m args below meth c cells slots Q X pc lv st := fun H locs ls hR hS hL => by
  cases x with
  | none => exact lv_aloadN C.1 C.2.1 hd (hL.2.2 _ _ hl) (kk H locs ls hR hS hL)
  | some a => exact lv_aload C.1 C.2.1 hd (hL.2.2 _ _ hl) (kk H locs ls hR hS hL)
theorem gx_istore_n (C : gx_C D cl aty tb nb p s m meth c cc nL own ret) {k : Fin 4} {i : Nat} {x : Int32} {lv2 : List (Option gx_V)} (hd : decode cc pc = .ok (.istore_n k, 1)) (hi : (k : Nat) = i) (hn : i < nL) (hl : gx_s1 lv i (gx_i x) = lv2) (kk : gx_W D cl nL p l e R s m args below meth c cells slots Q X (pc + 1) lv2 st) : gx_W D cl nL p l e R s m args below meth c cells slots Q X pc lv (gx_i x :: st) := fun H locs ls hR hS hL => by
  subst hl
  exact lv_istore_n C.1 C.2.1 hd hi (gx_as_has hL) hn rfl (fun ls2 h2 => kk H locs ls2 hR hS (gx_s1_L (ls := ls) (v := gx_i x) h2))
theorem gx_istore (C : gx_C D cl aty tb nb p s m meth c cc nL own ret) {i : Nat} {x : Int32} {lv2 : List (Option gx_V)} (hd : decode cc pc = .ok (.istore i, 2)) (hn : i < nL) (hl : gx_s1 lv i (gx_i x) = lv2) (kk : gx_W D cl nL p l e R s m args below meth c cells slots Q X (pc + 2) lv2 st) : gx_W D cl nL p l e R s m args below meth c cells slots Q X pc lv (gx_i x :: st) := fun H locs ls hR hS hL => by
  subst hl
  exact lv_istore C.1 C.2.1 hd (gx_as_has hL) hn rfl (fun ls2 h2 => kk H locs ls2 hR hS (gx_s1_L (ls := ls) (v := gx_i x) h2))
theorem gx_lstore_n (C : gx_C D cl aty tb nb p s m meth c cc nL own ret) {k : Fin 4} {i : Nat} {x : Int64} {lv2 : List (Option gx_V)} (hd : decode cc pc = .ok (.lstore_n k, 1)) (hi : (k : Nat) = i) (hn : i + 1 < nL) (hl : gx_s2 lv i (gx_l x) = lv2) (kk : gx_W D cl nL p l e R s m args below meth c cells slots Q X (pc + 1) lv2 st) : gx_W D cl nL p l e R s m args below meth c cells slots Q X pc lv (gx_l x :: st) := fun H locs ls hR hS hL => by
  subst hl
  exact lv_lstore_n C.1 C.2.1 hd hi (gx_as_has hL) hn rfl (fun ls2 h2 => kk H locs ls2 hR hS (gx_s2_L (ls := ls) (v := gx_l x) h2))
theorem gx_lstore (C : gx_C D cl aty tb nb p s m meth c cc nL own ret) {i : Nat} {x : Int64} {lv2 : List (Option gx_V)} (hd : decode cc pc = .ok (.lstore i, 2)) (hn : i + 1 < nL) (hl : gx_s2 lv i (gx_l x) = lv2) (kk : gx_W D cl nL p l e R s m args below meth c cells slots Q X (pc + 2) lv2 st) : gx_W D cl nL p l e R s m args below meth c cells slots Q X pc lv (gx_l x :: st) := fun H locs ls hR hS hL => by
  subst hl
  exact lv_lstore C.1 C.2.1 hd (gx_as_has hL) hn rfl (fun ls2 h2 => kk H locs ls2 hR hS (gx_s2_L (ls := ls) (v := gx_l x) h2))
theorem gx_astore_n (C : gx_C D cl aty tb nb p s m meth c cc nL own ret) {k : Fin 4} {i : Nat} {x : Option Nat} {lv2 : List (Option gx_V)} (hd : decode cc pc = .ok (.astore_n k, 1)) (hi : (k : Nat) = i) (hn : i < nL) (hl : gx_s1 lv i (gx_r x) = lv2) (kk : gx_W D cl nL p l e R s m args below meth c cells slots Q X (pc + 1) lv2 st) : gx_W D cl nL p l e R s m args below meth c cells slots Q X pc lv (gx_r x :: st) := fun H locs ls hR hS hL => by
  subst hl
  cases x with
  | none => exact lv_astore_nN C.1 C.2.1 hd hi (gx_as_has hL) hn rfl (fun ls2 h2 => kk H locs ls2 hR hS (gx_s1_L (ls := ls) (v := gx_r none) h2))
  | some a => exact lv_astore_n C.1 C.2.1 hd hi (gx_as_has hL) hn rfl (fun ls2 h2 => kk H locs ls2 hR hS (gx_s1_L (ls := ls) (v := gx_r (some a)) h2))
theorem gx_astore (C : gx_C D cl aty tb nb p s m meth c cc nL own ret) {i : Nat} {x : Option Nat} {lv2 : List (Option gx_V)} (hd : decode cc pc = .ok (.astore i, 2)) (hn : i < nL) (hl : gx_s1 lv i (gx_r x) = lv2) (kk : gx_W D cl nL p l e R s m args below meth c cells slots Q X (pc + 2) lv2 st) : gx_W D cl nL p l e R s m args below meth c cells slots Q X pc lv (gx_r x :: st) := fun H locs ls hR hS hL => by
  subst hl
  cases x with
  | none => exact lv_astoreN C.1 C.2.1 hd (gx_as_has hL) hn rfl (fun ls2 h2 => kk H locs ls2 hR hS (gx_s1_L (ls := ls) (v := gx_r none) h2))
  | some a => exact lv_astore C.1 C.2.1 hd (gx_as_has hL) hn rfl (fun ls2 h2 => kk H locs ls2 hR hS (gx_s1_L (ls := ls) (v := gx_r (some a)) h2))
theorem gx_iinc (C : gx_C D cl aty tb nb p s m meth c cc nL own ret) {i : Nat} {n : Int} {x v : Int32} {lv2 : List (Option gx_V)} (hd : decode cc pc = .ok (.iinc i n, 3)) (hk : lv[i]? = some (some (gx_i x))) (hv : x + Int32.ofInt n = v) (hn : i < nL) (hl : gx_s1 lv i (gx_i v) = lv2) (kk : gx_W D cl nL p l e R s m args below meth c cells slots Q X (pc + 3) lv2 st) : gx_W D cl nL p l e R s m args below meth c cells slots Q X pc lv st := fun H locs ls hR hS hL => by
  subst hl
  obtain ⟨k, hk⟩ := List.getElem?_of_mem (gx_as_mem hk)
  exact lv_iinc C.1 C.2.1 hd (gx_as_has hL) hk hv hn rfl (fun ls2 h2 => kk H locs ls2 hR hS (gx_s1_L (ls := ls) (v := gx_i v) h2))
theorem gx_iadd (C : gx_C D cl aty tb nb p s m meth c cc nL own ret) {x y : Int32} (hd : decode cc pc = .ok (.iadd, 1)) (kk : gx_W D cl nL p l e R s m args below meth c cells slots Q X (pc + 1) lv (gx_i (x + y) :: st)) : gx_W D cl nL p l e R s m args below meth c cells slots Q X pc lv (gx_i y :: gx_i x :: st) := fun H locs ls hR hS hL => lv_iadd C.1 C.2.1 hd (kk H locs ls hR hS hL)
theorem gx_isub (C : gx_C D cl aty tb nb p s m meth c cc nL own ret) {x y : Int32} (hd : decode cc pc = .ok (.isub, 1)) (kk : gx_W D cl nL p l e R s m args below meth c cells slots Q X (pc + 1) lv (gx_i (x - y) :: st)) : gx_W D cl nL p l e R s m args below meth c cells slots Q X pc lv (gx_i y :: gx_i x :: st) := fun H locs ls hR hS hL => lv_isub C.1 C.2.1 hd (kk H locs ls hR hS hL)
theorem gx_imul (C : gx_C D cl aty tb nb p s m meth c cc nL own ret) {x y : Int32} (hd : decode cc pc = .ok (.imul, 1)) (kk : gx_W D cl nL p l e R s m args below meth c cells slots Q X (pc + 1) lv (gx_i (x * y) :: st)) : gx_W D cl nL p l e R s m args below meth c cells slots Q X pc lv (gx_i y :: gx_i x :: st) := fun H locs ls hR hS hL => lv_imul C.1 C.2.1 hd (kk H locs ls hR hS hL)
theorem gx_iand (C : gx_C D cl aty tb nb p s m meth c cc nL own ret) {x y : Int32} (hd : decode cc pc = .ok (.iand, 1)) (kk : gx_W D cl nL p l e R s m args below meth c cells slots Q X (pc + 1) lv (gx_i (x &&& y) :: st)) : gx_W D cl nL p l e R s m args below meth c cells slots Q X pc lv (gx_i y :: gx_i x :: st) := fun H locs ls hR hS hL => lv_iand C.1 C.2.1 hd (kk H locs ls hR hS hL)
theorem gx_ior (C : gx_C D cl aty tb nb p s m meth c cc nL own ret) {x y : Int32} (hd : decode cc pc = .ok (.ior, 1)) (kk : gx_W D cl nL p l e R s m args below meth c cells slots Q X (pc + 1) lv (gx_i (x ||| y) :: st)) : gx_W D cl nL p l e R s m args below meth c cells slots Q X pc lv (gx_i y :: gx_i x :: st) := fun H locs ls hR hS hL => lv_ior C.1 C.2.1 hd (kk H locs ls hR hS hL)
theorem gx_ixor (C : gx_C D cl aty tb nb p s m meth c cc nL own ret) {x y : Int32} (hd : decode cc pc = .ok (.ixor, 1)) (kk : gx_W D cl nL p l e R s m args below meth c cells slots Q X (pc + 1) lv (gx_i (x ^^^ y) :: st)) : gx_W D cl nL p l e R s m args below meth c cells slots Q X pc lv (gx_i y :: gx_i x :: st) := fun H locs ls hR hS hL => lv_ixor C.1 C.2.1 hd (kk H locs ls hR hS hL)
theorem gx_ishl (C : gx_C D cl aty tb nb p s m meth c cc nL own ret) {x y : Int32} (hd : decode cc pc = .ok (.ishl, 1)) (kk : gx_W D cl nL p l e R s m args below meth c cells slots Q X (pc + 1) lv (gx_i (x <<< (y &&& 31)) :: st)) : gx_W D cl nL p l e R s m args below meth c cells slots Q X pc lv (gx_i y :: gx_i x :: st) := fun H locs ls hR hS hL => lv_ishl C.1 C.2.1 hd (kk H locs ls hR hS hL)
theorem gx_ishr (C : gx_C D cl aty tb nb p s m meth c cc nL own ret) {x y : Int32} (hd : decode cc pc = .ok (.ishr, 1)) (kk : gx_W D cl nL p l e R s m args below meth c cells slots Q X (pc + 1) lv (gx_i (x >>> (y &&& 31)) :: st)) : gx_W D cl nL p l e R s m args below meth c cells slots Q X pc lv (gx_i y :: gx_i x :: st) := fun H locs ls hR hS hL => lv_ishr C.1 C.2.1 hd (kk H locs ls hR hS hL)
theorem gx_idiv (C : gx_C D cl aty tb nb p s m meth c cc nL own ret) {x y : Int32} (hd : decode cc pc = .ok (.idiv, 1)) (hne : ¬ y = 0) (kk : gx_W D cl nL p l e R s m args below meth c cells slots Q X (pc + 1) lv (gx_i (x / y) :: st)) : gx_W D cl nL p l e R s m args below meth c cells slots Q X pc lv (gx_i y :: gx_i x :: st) := fun H locs ls hR hS hL => lv_idiv C.1 C.2.1 hd hne (kk H locs ls hR hS hL)
theorem gx_irem (C : gx_C D cl aty tb nb p s m meth c cc nL own ret) {x y : Int32} (hd : decode cc pc = .ok (.irem, 1)) (hne : ¬ y = 0) (kk : gx_W D cl nL p l e R s m args below meth c cells slots Q X (pc + 1) lv (gx_i (x - x / y * y) :: st)) : gx_W D cl nL p l e R s m args below meth c cells slots Q X pc lv (gx_i y :: gx_i x :: st) := fun H locs ls hR hS hL => lv_irem C.1 C.2.1 hd hne (kk H locs ls hR hS hL)
theorem gx_ineg (C : gx_C D cl aty tb nb p s m meth c cc nL own ret) {x : Int32} (hd : decode cc pc = .ok (.ineg, 1)) (kk : gx_W D cl nL p l e R s m args below meth c cells slots Q X (pc + 1) lv (gx_i (-x) :: st)) : gx_W D cl nL p l e R s m args below meth c cells slots Q X pc lv (gx_i x :: st) := fun H locs ls hR hS hL => lv_ineg C.1 C.2.1 hd (kk H locs ls hR hS hL)
theorem gx_ladd (C : gx_C D cl aty tb nb p s m meth c cc nL own ret) {x y : Int64} (hd : decode cc pc = .ok (.ladd, 1)) (kk : gx_W D cl nL p l e R s m args below meth c cells slots Q X (pc + 1) lv (gx_l (x + y) :: st)) : gx_W D cl nL p l e R s m args below meth c cells slots Q X pc lv (gx_l y :: gx_l x :: st) := fun H locs ls hR hS hL => lv_ladd C.1 C.2.1 hd (kk H locs ls hR hS hL)
theorem gx_lsub (C : gx_C D cl aty tb nb p s m meth c cc nL own ret) {x y : Int64} (hd : decode cc pc = .ok (.lsub, 1)) (kk : gx_W D cl nL p l e R s m args below meth c cells slots Q X (pc + 1) lv (gx_l (x - y) :: st)) : gx_W D cl nL p l e R s m args below meth c cells slots Q X pc lv (gx_l y :: gx_l x :: st) := fun H locs ls hR hS hL => lv_lsub C.1 C.2.1 hd (kk H locs ls hR hS hL)
theorem gx_lmul (C : gx_C D cl aty tb nb p s m meth c cc nL own ret) {x y : Int64} (hd : decode cc pc = .ok (.lmul, 1)) (kk : gx_W D cl nL p l e R s m args below meth c cells slots Q X (pc + 1) lv (gx_l (x * y) :: st)) : gx_W D cl nL p l e R s m args below meth c cells slots Q X pc lv (gx_l y :: gx_l x :: st) := fun H locs ls hR hS hL => lv_lmul C.1 C.2.1 hd (kk H locs ls hR hS hL)
theorem gx_land (C : gx_C D cl aty tb nb p s m meth c cc nL own ret) {x y : Int64} (hd : decode cc pc = .ok (.land, 1)) (kk : gx_W D cl nL p l e R s m args below meth c cells slots Q X (pc + 1) lv (gx_l (x &&& y) :: st)) : gx_W D cl nL p l e R s m args below meth c cells slots Q X pc lv (gx_l y :: gx_l x :: st) := fun H locs ls hR hS hL => lv_land C.1 C.2.1 hd (kk H locs ls hR hS hL)
theorem gx_lor (C : gx_C D cl aty tb nb p s m meth c cc nL own ret) {x y : Int64} (hd : decode cc pc = .ok (.lor, 1)) (kk : gx_W D cl nL p l e R s m args below meth c cells slots Q X (pc + 1) lv (gx_l (x ||| y) :: st)) : gx_W D cl nL p l e R s m args below meth c cells slots Q X pc lv (gx_l y :: gx_l x :: st) := fun H locs ls hR hS hL => lv_lor C.1 C.2.1 hd (kk H locs ls hR hS hL)
theorem gx_lxor (C : gx_C D cl aty tb nb p s m meth c cc nL own ret) {x y : Int64} (hd : decode cc pc = .ok (.lxor, 1)) (kk : gx_W D cl nL p l e R s m args below meth c cells slots Q X (pc + 1) lv (gx_l (x ^^^ y) :: st)) : gx_W D cl nL p l e R s m args below meth c cells slots Q X pc lv (gx_l y :: gx_l x :: st) := fun H locs ls hR hS hL => lv_lxor C.1 C.2.1 hd (kk H locs ls hR hS hL)
theorem gx_lshl (C : gx_C D cl aty tb nb p s m meth c cc nL own ret) {x : Int64} {y : Int32} (hd : decode cc pc = .ok (.lshl, 1)) (kk : gx_W D cl nL p l e R s m args below meth c cells slots Q X (pc + 1) lv (gx_l (x <<< (y.toInt64 &&& 63)) :: st)) : gx_W D cl nL p l e R s m args below meth c cells slots Q X pc lv (gx_i y :: gx_l x :: st) := fun H locs ls hR hS hL => lv_lshl C.1 C.2.1 hd rfl (kk H locs ls hR hS hL)
theorem gx_lshr (C : gx_C D cl aty tb nb p s m meth c cc nL own ret) {x : Int64} {y : Int32} (hd : decode cc pc = .ok (.lshr, 1)) (kk : gx_W D cl nL p l e R s m args below meth c cells slots Q X (pc + 1) lv (gx_l (x >>> (y.toInt64 &&& 63)) :: st)) : gx_W D cl nL p l e R s m args below meth c cells slots Q X pc lv (gx_i y :: gx_l x :: st) := fun H locs ls hR hS hL => lv_lshr C.1 C.2.1 hd rfl (kk H locs ls hR hS hL)
theorem gx_lushr (C : gx_C D cl aty tb nb p s m meth c cc nL own ret) {x : Int64} {y : Int32} (hd : decode cc pc = .ok (.lushr, 1)) (kk : gx_W D cl nL p l e R s m args below meth c cells slots Q X (pc + 1) lv (gx_l ((x.toUInt64 >>> (y.toInt64.toUInt64 &&& Int64.toUInt64 63)).toInt64) :: st)) : gx_W D cl nL p l e R s m args below meth c cells slots Q X pc lv (gx_i y :: gx_l x :: st) := fun H locs ls hR hS hL => lv_lushr C.1 C.2.1 hd rfl (kk H locs ls hR hS hL)
theorem gx_iushr (C : gx_C D cl aty tb nb p s m meth c cc nL own ret) {x y : Int32} (hd : decode cc pc = .ok (.iushr, 1)) (kk : gx_W D cl nL p l e R s m args below meth c cells slots Q X (pc + 1) lv (gx_i ((x.toUInt32 >>> (y.toUInt32 &&& Int32.toUInt32 31)).toInt32) :: st)) : gx_W D cl nL p l e R s m args below meth c cells slots Q X pc lv (gx_i y :: gx_i x :: st) := fun H locs ls hR hS hL => lv_iushr C.1 C.2.1 hd rfl (kk H locs ls hR hS hL)
theorem gx_i2l (C : gx_C D cl aty tb nb p s m meth c cc nL own ret) {x : Int32} (hd : decode cc pc = .ok (.i2l, 1)) (kk : gx_W D cl nL p l e R s m args below meth c cells slots Q X (pc + 1) lv (gx_l x.toInt64 :: st)) : gx_W D cl nL p l e R s m args below meth c cells slots Q X pc lv (gx_i x :: st) := fun H locs ls hR hS hL => lv_i2l C.1 C.2.1 hd rfl (kk H locs ls hR hS hL)
theorem gx_l2i (C : gx_C D cl aty tb nb p s m meth c cc nL own ret) {x : Int64} (hd : decode cc pc = .ok (.l2i, 1)) (kk : gx_W D cl nL p l e R s m args below meth c cells slots Q X (pc + 1) lv (gx_i x.toInt32 :: st)) : gx_W D cl nL p l e R s m args below meth c cells slots Q X pc lv (gx_l x :: st) := fun H locs ls hR hS hL => lv_l2i C.1 C.2.1 hd rfl (kk H locs ls hR hS hL)
theorem gx_lcmp (C : gx_C D cl aty tb nb p s m meth c cc nL own ret) {x y : Int64} (hd : decode cc pc = .ok (.lcmp, 1)) (kk : gx_W D cl nL p l e R s m args below meth c cells slots Q X (pc + 1) lv (gx_i (lg_cmp x y) :: st)) : gx_W D cl nL p l e R s m args below meth c cells slots Q X pc lv (gx_l y :: gx_l x :: st) := fun H locs ls hR hS hL => W.lcmp C.1 C.2.1 hd (kk H locs ls hR hS hL)
theorem gx_dup (C : gx_C D cl aty tb nb p s m meth c cc nL own ret) {v : gx_V} (hd : decode cc pc = .ok (.dup, 1)) (h1 : gx_2 v = false) (kk : gx_W D cl nL p l e R s m args below meth c cells slots Q X (pc + 1) lv (v :: v :: st)) : gx_W D cl nL p l e R s m args below meth c cells slots Q X pc lv (v :: st) := fun H locs ls hR hS hL => lv_dup C.1 C.2.1 hd (by rw [gx_cat, h1]; rfl) (kk H locs ls hR hS hL)
theorem gx_pop (C : gx_C D cl aty tb nb p s m meth c cc nL own ret) {v : gx_V} (hd : decode cc pc = .ok (.pop, 1)) (h1 : gx_2 v = false) (kk : gx_W D cl nL p l e R s m args below meth c cells slots Q X (pc + 1) lv st) : gx_W D cl nL p l e R s m args below meth c cells slots Q X pc lv (v :: st) := fun H locs ls hR hS hL => lv_pop C.1 C.2.1 hd (by rw [gx_cat, h1]; rfl) (kk H locs ls hR hS hL)
theorem gx_dup_x1 (C : gx_C D cl aty tb nb p s m meth c cc nL own ret) {v w : gx_V} (hd : decode cc pc = .ok (.dup_x1, 1)) (h1 : gx_2 v = false) (h2 : gx_2 w = false) (kk : gx_W D cl nL p l e R s m args below meth c cells slots Q X (pc + 1) lv (v :: w :: v :: st)) : gx_W D cl nL p l e R s m args below meth c cells slots Q X pc lv (v :: w :: st) := fun H locs ls hR hS hL => lv_dup_x1 C.1 C.2.1 hd (by rw [gx_cat, h1]; rfl) (by rw [gx_cat, h2]; rfl) (kk H locs ls hR hS hL)
theorem gx_dup2 (C : gx_C D cl aty tb nb p s m meth c cc nL own ret) {v w : gx_V} (hd : decode cc pc = .ok (.dup2, 1)) (h1 : gx_2 v = false) (h2 : gx_2 w = false) (kk : gx_W D cl nL p l e R s m args below meth c cells slots Q X (pc + 1) lv (v :: w :: v :: w :: st)) : gx_W D cl nL p l e R s m args below meth c cells slots Q X pc lv (v :: w :: st) := fun H locs ls hR hS hL => lv_dup2_11 C.1 C.2.1 hd (by rw [gx_cat, h1]; rfl) (by rw [gx_cat, h2]; rfl) (kk H locs ls hR hS hL)
theorem gx_null (C : gx_C D cl aty tb nb p s m meth c cc nL own ret)  (hd : decode cc pc = .ok (.aconst_null, 1)) (kk : gx_W D cl nL p l e R s m args below meth c cells slots Q X (pc + 1) lv (gx_r none :: st)) : gx_W D cl nL p l e R s m args below meth c cells slots Q X pc lv st := fun H locs ls hR hS hL => lv_null C.1 C.2.1 hd (kk H locs ls hR hS hL)
theorem gx_goto (C : gx_C D cl aty tb nb p s m meth c cc nL own ret) {off : Int} {tgt : Nat} (hd : decode cc pc = .ok (.goto off, 3)) (ht : (pc : Int) + off = (tgt : Int)) (kk : gx_W D cl nL p l e R s m args below meth c cells slots Q X tgt lv st) : gx_W D cl nL p l e R s m args below meth c cells slots Q X pc lv st := fun H locs ls hR hS hL => lv_goto C.1 C.2.1 hd ht (kk H locs ls hR hS hL)
theorem gx_if_eq (C : gx_C D cl aty tb nb p s m meth c cc nL own ret) {x : Int32} {off : Int} {tgt : Nat} (hd : decode cc pc = .ok (.ifCond .eq off, 3)) (ht : (pc : Int) + off = (tgt : Int)) (kt : x = 0 → gx_W D cl nL p l e R s m args below meth c cells slots Q X tgt lv st) (kf : ¬ x = 0 → gx_W D cl nL p l e R s m args below meth c cells slots Q X (pc + 3) lv st) : gx_W D cl nL p l e R s m args below meth c cells slots Q X pc lv (gx_i x :: st) := fun H locs ls hR hS hL => lv_if_eq C.1 C.2.1 hd ht (fun q => kt q H locs ls hR hS hL) (fun q => kf q H locs ls hR hS hL)
theorem gx_if_ne (C : gx_C D cl aty tb nb p s m meth c cc nL own ret) {x : Int32} {off : Int} {tgt : Nat} (hd : decode cc pc = .ok (.ifCond .ne off, 3)) (ht : (pc : Int) + off = (tgt : Int)) (kt : ¬ x = 0 → gx_W D cl nL p l e R s m args below meth c cells slots Q X tgt lv st) (kf : x = 0 → gx_W D cl nL p l e R s m args below meth c cells slots Q X (pc + 3) lv st) : gx_W D cl nL p l e R s m args below meth c cells slots Q X pc lv (gx_i x :: st) := fun H locs ls hR hS hL => lv_if_ne C.1 C.2.1 hd ht (fun q => kt q H locs ls hR hS hL) (fun q => kf q H locs ls hR hS hL)
theorem gx_if_lt (C : gx_C D cl aty tb nb p s m meth c cc nL own ret) {x : Int32} {off : Int} {tgt : Nat} (hd : decode cc pc = .ok (.ifCond .lt off, 3)) (ht : (pc : Int) + off = (tgt : Int)) (kt : x < 0 → gx_W D cl nL p l e R s m args below meth c cells slots Q X tgt lv st) (kf : ¬ x < 0 → gx_W D cl nL p l e R s m args below meth c cells slots Q X (pc + 3) lv st) : gx_W D cl nL p l e R s m args below meth c cells slots Q X pc lv (gx_i x :: st) := fun H locs ls hR hS hL => lv_if_lt C.1 C.2.1 hd ht (fun q => kt q H locs ls hR hS hL) (fun q => kf q H locs ls hR hS hL)
theorem gx_if_ge (C : gx_C D cl aty tb nb p s m meth c cc nL own ret) {x : Int32} {off : Int} {tgt : Nat} (hd : decode cc pc = .ok (.ifCond .ge off, 3)) (ht : (pc : Int) + off = (tgt : Int)) (kt : 0 ≤ x → gx_W D cl nL p l e R s m args below meth c cells slots Q X tgt lv st) (kf : ¬ 0 ≤ x → gx_W D cl nL p l e R s m args below meth c cells slots Q X (pc + 3) lv st) : gx_W D cl nL p l e R s m args below meth c cells slots Q X pc lv (gx_i x :: st) := fun H locs ls hR hS hL => lv_if_ge C.1 C.2.1 hd ht (fun q => kt q H locs ls hR hS hL) (fun q => kf q H locs ls hR hS hL)
theorem gx_if_gt (C : gx_C D cl aty tb nb p s m meth c cc nL own ret) {x : Int32} {off : Int} {tgt : Nat} (hd : decode cc pc = .ok (.ifCond .gt off, 3)) (ht : (pc : Int) + off = (tgt : Int)) (kt : 0 < x → gx_W D cl nL p l e R s m args below meth c cells slots Q X tgt lv st) (kf : ¬ 0 < x → gx_W D cl nL p l e R s m args below meth c cells slots Q X (pc + 3) lv st) : gx_W D cl nL p l e R s m args below meth c cells slots Q X pc lv (gx_i x :: st) := fun H locs ls hR hS hL => lv_if_gt C.1 C.2.1 hd ht (fun q => kt q H locs ls hR hS hL) (fun q => kf q H locs ls hR hS hL)
theorem gx_if_le (C : gx_C D cl aty tb nb p s m meth c cc nL own ret) {x : Int32} {off : Int} {tgt : Nat} (hd : decode cc pc = .ok (.ifCond .le off, 3)) (ht : (pc : Int) + off = (tgt : Int)) (kt : x ≤ 0 → gx_W D cl nL p l e R s m args below meth c cells slots Q X tgt lv st) (kf : ¬ x ≤ 0 → gx_W D cl nL p l e R s m args below meth c cells slots Q X (pc + 3) lv st) : gx_W D cl nL p l e R s m args below meth c cells slots Q X pc lv (gx_i x :: st) := fun H locs ls hR hS hL => lv_if_le C.1 C.2.1 hd ht (fun q => kt q H locs ls hR hS hL) (fun q => kf q H locs ls hR hS hL)
theorem gx_icmp_eq (C : gx_C D cl aty tb nb p s m meth c cc nL own ret) {x y : Int32} {off : Int} {tgt : Nat} (hd : decode cc pc = .ok (.if_icmp .eq off, 3)) (ht : (pc : Int) + off = (tgt : Int)) (kt : x = y → gx_W D cl nL p l e R s m args below meth c cells slots Q X tgt lv st) (kf : ¬ x = y → gx_W D cl nL p l e R s m args below meth c cells slots Q X (pc + 3) lv st) : gx_W D cl nL p l e R s m args below meth c cells slots Q X pc lv (gx_i y :: gx_i x :: st) := fun H locs ls hR hS hL => lv_icmp_eq C.1 C.2.1 hd ht (fun q => kt q H locs ls hR hS hL) (fun q => kf q H locs ls hR hS hL)
theorem gx_icmp_ne (C : gx_C D cl aty tb nb p s m meth c cc nL own ret) {x y : Int32} {off : Int} {tgt : Nat} (hd : decode cc pc = .ok (.if_icmp .ne off, 3)) (ht : (pc : Int) + off = (tgt : Int)) (kt : ¬ x = y → gx_W D cl nL p l e R s m args below meth c cells slots Q X tgt lv st) (kf : x = y → gx_W D cl nL p l e R s m args below meth c cells slots Q X (pc + 3) lv st) : gx_W D cl nL p l e R s m args below meth c cells slots Q X pc lv (gx_i y :: gx_i x :: st) := fun H locs ls hR hS hL => lv_icmp_ne C.1 C.2.1 hd ht (fun q => kt q H locs ls hR hS hL) (fun q => kf q H locs ls hR hS hL)
theorem gx_icmp_lt (C : gx_C D cl aty tb nb p s m meth c cc nL own ret) {x y : Int32} {off : Int} {tgt : Nat} (hd : decode cc pc = .ok (.if_icmp .lt off, 3)) (ht : (pc : Int) + off = (tgt : Int)) (kt : x < y → gx_W D cl nL p l e R s m args below meth c cells slots Q X tgt lv st) (kf : ¬ x < y → gx_W D cl nL p l e R s m args below meth c cells slots Q X (pc + 3) lv st) : gx_W D cl nL p l e R s m args below meth c cells slots Q X pc lv (gx_i y :: gx_i x :: st) := fun H locs ls hR hS hL => lv_icmp_lt C.1 C.2.1 hd ht (fun q => kt q H locs ls hR hS hL) (fun q => kf q H locs ls hR hS hL)
theorem gx_icmp_ge (C : gx_C D cl aty tb nb p s m meth c cc nL own ret) {x y : Int32} {off : Int} {tgt : Nat} (hd : decode cc pc = .ok (.if_icmp .ge off, 3)) (ht : (pc : Int) + off = (tgt : Int)) (kt : y ≤ x → gx_W D cl nL p l e R s m args below meth c cells slots Q X tgt lv st) (kf : ¬ y ≤ x → gx_W D cl nL p l e R s m args below meth c cells slots Q X (pc + 3) lv st) : gx_W D cl nL p l e R s m args below meth c cells slots Q X pc lv (gx_i y :: gx_i x :: st) := fun H locs ls hR hS hL => lv_icmp_ge C.1 C.2.1 hd ht (fun q => kt q H locs ls hR hS hL) (fun q => kf q H locs ls hR hS hL)
theorem gx_icmp_gt (C : gx_C D cl aty tb nb p s m meth c cc nL own ret) {x y : Int32} {off : Int} {tgt : Nat} (hd : decode cc pc = .ok (.if_icmp .gt off, 3)) (ht : (pc : Int) + off = (tgt : Int)) (kt : y < x → gx_W D cl nL p l e R s m args below meth c cells slots Q X tgt lv st) (kf : ¬ y < x → gx_W D cl nL p l e R s m args below meth c cells slots Q X (pc + 3) lv st) : gx_W D cl nL p l e R s m args below meth c cells slots Q X pc lv (gx_i y :: gx_i x :: st) := fun H locs ls hR hS hL => lv_icmp_gt C.1 C.2.1 hd ht (fun q => kt q H locs ls hR hS hL) (fun q => kf q H locs ls hR hS hL)
theorem gx_icmp_le (C : gx_C D cl aty tb nb p s m meth c cc nL own ret) {x y : Int32} {off : Int} {tgt : Nat} (hd : decode cc pc = .ok (.if_icmp .le off, 3)) (ht : (pc : Int) + off = (tgt : Int)) (kt : x ≤ y → gx_W D cl nL p l e R s m args below meth c cells slots Q X tgt lv st) (kf : ¬ x ≤ y → gx_W D cl nL p l e R s m args below meth c cells slots Q X (pc + 3) lv st) : gx_W D cl nL p l e R s m args below meth c cells slots Q X pc lv (gx_i y :: gx_i x :: st) := fun H locs ls hR hS hL => lv_icmp_le C.1 C.2.1 hd ht (fun q => kt q H locs ls hR hS hL) (fun q => kf q H locs ls hR hS hL)
theorem gx_ifnull (C : gx_C D cl aty tb nb p s m meth c cc nL own ret) {x : Option Nat} {off : Int} {tgt : Nat} (hd : decode cc pc = .ok (.ifnull off, 3)) (ht : (pc : Int) + off = (tgt : Int)) (kt : x = none → gx_W D cl nL p l e R s m args below meth c cells slots Q X tgt lv st) (kf : ∀ a, x = some a → gx_W D cl nL p l e R s m args below meth c cells slots Q X (pc + 3) lv st) : gx_W D cl nL p l e R s m args below meth c cells slots Q X pc lv (gx_r x :: st) := fun H locs ls hR hS hL => by
  cases x with
  | none => exact lv_ifnullN C.1 C.2.1 hd ht (kt rfl H locs ls hR hS hL)
  | some a => exact lv_ifnull C.1 C.2.1 hd (kf a rfl H locs ls hR hS hL)
theorem gx_ifnonnull (C : gx_C D cl aty tb nb p s m meth c cc nL own ret) {x : Option Nat} {off : Int} {tgt : Nat} (hd : decode cc pc = .ok (.ifnonnull off, 3)) (ht : (pc : Int) + off = (tgt : Int)) (kt : ∀ a, x = some a → gx_W D cl nL p l e R s m args below meth c cells slots Q X tgt lv st) (kf : x = none → gx_W D cl nL p l e R s m args below meth c cells slots Q X (pc + 3) lv st) : gx_W D cl nL p l e R s m args below meth c cells slots Q X pc lv (gx_r x :: st) := fun H locs ls hR hS hL => by
  cases x with
  | none => exact lv_ifnonnullN C.1 C.2.1 hd (kf rfl H locs ls hR hS hL)
  | some a => exact lv_ifnonnull C.1 C.2.1 hd ht (kt a rfl H locs ls hR hS hL)
theorem gx_swOut (C : gx_C D cl aty tb nb p s m meth c cc nL own ret) {dflt lo hi : Int} {offs : Array Int} {len : Nat} {x : Int32} {tgt : Nat} (hd : decode cc pc = .ok (.tableswitch dflt lo hi offs, len)) (h : x.toInt < lo ∨ hi < x.toInt) (ht : (pc : Int) + dflt = (tgt : Int)) (kk : gx_W D cl nL p l e R s m args below meth c cells slots Q X tgt lv st) : gx_W D cl nL p l e R s m args below meth c cells slots Q X pc lv (gx_i x :: st) := fun H locs ls hR hS hL => lv_tableOut C.1 C.2.1 hd h ht (kk H locs ls hR hS hL)
theorem gx_swIn (C : gx_C D cl aty tb nb p s m meth c cc nL own ret) {dflt lo hi : Int} {offs : Array Int} {len : Nat} {x : Int32} {off : Int} {tgt : Nat} (hd : decode cc pc = .ok (.tableswitch dflt lo hi offs, len)) (h1 : ¬ x.toInt < lo) (h2 : ¬ hi < x.toInt) (ho : offs[(x.toInt - lo).toNat]? = some off) (ht : (pc : Int) + off = (tgt : Int)) (kk : gx_W D cl nL p l e R s m args below meth c cells slots Q X tgt lv st) : gx_W D cl nL p l e R s m args below meth c cells slots Q X pc lv (gx_i x :: st) := fun H locs ls hR hS hL => lv_tableIn C.1 C.2.1 hd h1 h2 ho ht (kk H locs ls hR hS hL)
theorem gx_sub (bs : List Bool) {lv2 : List (Option gx_V)} (hl : gx_mk bs lv = lv2) (kk : gx_W D cl nL p l e R s m args below meth c cells slots Q X pc lv2 st) : gx_W D cl nL p l e R s m args below meth c cells slots Q X pc lv st := fun H locs ls hR hS hL => kk H locs ls hR hS ⟨hL.1, hL.2.1, fun i v h => hL.2.2 i v (gx_mk_at bs lv i v (by rw [hl]; exact h))⟩
end GX