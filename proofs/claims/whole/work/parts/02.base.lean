/-! BASE: values of three kinds, locals by place, the world as a function of addresses -/
abbrev gx_V : Type := Int32 ⊕ (Int64 ⊕ Option Nat)
abbrev gx_i (x : Int32) : gx_V := Sum.inl x
abbrev gx_l (x : Int64) : gx_V := Sum.inr (Sum.inl x)
abbrev gx_r (o : Option Nat) : gx_V := Sum.inr (Sum.inr o)
def gx_t (v : gx_V) : Value := match v with
  | .inl x => .int x
  | .inr (.inl x) => .long x
  | .inr (.inr o) => va_rf o
def gx_2 (v : gx_V) : Bool := match v with
  | .inr (.inl _) => true
  | _ => false
theorem gx_cat (v : gx_V) : (gx_t v).category = if gx_2 v = true then 2 else 1 := by
  rcases v with x | x | o
  · rfl
  · rfl
  · cases o <;> rfl
/-- locals by place -/
def gx_L (ls : Array Slot) (nL : Nat) (lv : List (Option gx_V)) : Prop := ls.size = nL ∧ lv_wf ls ∧ ∀ (i : Nat) (v : gx_V), lv[i]? = some (some v) → ls[i]? = some (.val (gx_t v))
def gx_as (lv : List (Option gx_V)) : List (Nat × Value) := (List.range lv.length).filterMap (fun i => match lv[i]? with
  | some (some v) => some (i, gx_t v)
  | _ => none)
theorem gx_as_mem {lv : List (Option gx_V)} {i : Nat} {v : gx_V} (h : lv[i]? = some (some v)) : (i, gx_t v) ∈ gx_as lv := by
  refine List.mem_filterMap.mpr ⟨i, List.mem_range.mpr (List.getElem?_eq_some_iff.mp h).1, ?_⟩
  simp [h]
theorem gx_as_has {ls : Array Slot} {nL : Nat} {lv : List (Option gx_V)} (h : gx_L ls nL lv) : lv_has ls nL (gx_as lv) := by
  refine ⟨h.1, h.2.1, fun q hq => ?_⟩
  obtain ⟨i, -, hi⟩ := List.mem_filterMap.mp hq
  cases hv : lv[i]? with
  | none => rw [hv] at hi; cases hi
  | some o =>
    cases o with
    | none => rw [hv] at hi; cases hi
    | some v =>
      rw [hv] at hi
      cases hi
      exact h.2.2 i v hv
def gx_s1 : List (Option gx_V) → Nat → gx_V → List (Option gx_V)
  | [], _, _ => []
  | _ :: t, 0, v => some v :: t
  | a :: t, 1, v => (match a with
      | some (.inr (.inl _)) => none
      | _ => a) :: gx_s1 t 0 v
  | a :: t, n + 2, v => a :: gx_s1 t (n + 1) v
def gx_z : List (Option gx_V) → List (Option gx_V)
  | [] => []
  | _ :: t => none :: t
def gx_s2 : List (Option gx_V) → Nat → gx_V → List (Option gx_V)
  | [], _, _ => []
  | _ :: t, 0, v => some v :: gx_z t
  | a :: t, 1, v => (match a with
      | some (.inr (.inl _)) => none
      | _ => a) :: gx_s2 t 0 v
  | a :: t, n + 2, v => a :: gx_s2 t (n + 1) v
theorem gx_s1_at : ∀ (lv : List (Option gx_V)) (i : Nat) (v : gx_V) (j : Nat) (w : gx_V), (gx_s1 lv i v)[j]? = some (some w) → (j = i ∧ w = v) ∨ (j ≠ i ∧ lv[j]? = some (some w) ∧ ¬ (j + 1 = i ∧ gx_2 w = true))
  | [], _, _, j, w, h => by simp [gx_s1] at h
  | a :: t, 0, v, 0, w, h => by
    simp [gx_s1] at h
    exact Or.inl ⟨rfl, h.symm⟩
  | a :: t, 0, v, j + 1, w, h => by
    simp [gx_s1] at h
    exact Or.inr ⟨by omega, by simpa using h, by omega⟩
  | a :: t, 1, v, 0, w, h => by
    refine Or.inr ⟨by omega, ?_, ?_⟩
    · rcases a with _ | x | x | o <;> simp [gx_s1] at h ⊢ <;> exact h
    · rcases a with _ | x | x | o <;> simp [gx_s1] at h <;> subst h <;> simp [gx_2]
  | a :: t, 1, v, j + 1, w, h => by
    have h' : (gx_s1 t 0 v)[j]? = some (some w) := by simpa [gx_s1] using h
    rcases gx_s1_at t 0 v j w h' with ⟨h1, h2⟩ | ⟨h1, h2, h3⟩
    · exact Or.inl ⟨by omega, h2⟩
    · exact Or.inr ⟨by omega, by simpa using h2, by omega⟩
  | a :: t, n + 2, v, 0, w, h => by
    simp [gx_s1] at h
    exact Or.inr ⟨by omega, by simpa using h, by omega⟩
  | a :: t, n + 2, v, j + 1, w, h => by
    have h' : (gx_s1 t (n + 1) v)[j]? = some (some w) := by simpa [gx_s1] using h
    rcases gx_s1_at t (n + 1) v j w h' with ⟨h1, h2⟩ | ⟨h1, h2, h3⟩
    · exact Or.inl ⟨by omega, h2⟩
    · exact Or.inr ⟨by omega, by simpa using h2, fun q => h3 ⟨by omega, q.2⟩⟩
theorem gx_s2_at : ∀ (lv : List (Option gx_V)) (i : Nat) (v : gx_V) (j : Nat) (w : gx_V), (gx_s2 lv i v)[j]? = some (some w) → (j = i ∧ w = v) ∨ (j ≠ i ∧ j ≠ i + 1 ∧ lv[j]? = some (some w) ∧ ¬ (j + 1 = i ∧ gx_2 w = true))
  | [], _, _, j, w, h => by simp [gx_s2] at h
  | a :: t, 0, v, 0, w, h => by
    simp [gx_s2] at h
    exact Or.inl ⟨rfl, h.symm⟩
  | a :: t, 0, v, j + 1, w, h => by
    have h' : (gx_z t)[j]? = some (some w) := by simpa [gx_s2] using h
    cases t with
    | nil => simp [gx_z] at h'
    | cons b t =>
      cases j with
      | zero => simp [gx_z] at h'
      | succ j =>
        have h2 : t[j]? = some (some w) := by simpa [gx_z] using h'
        exact Or.inr ⟨by omega, by omega, by simpa using h2, by omega⟩
  | a :: t, 1, v, 0, w, h => by
    refine Or.inr ⟨by omega, by omega, ?_, ?_⟩
    · rcases a with _ | x | x | o <;> simp [gx_s2] at h ⊢ <;> exact h
    · rcases a with _ | x | x | o <;> simp [gx_s2] at h <;> subst h <;> simp [gx_2]
  | a :: t, 1, v, j + 1, w, h => by
    have h' : (gx_s2 t 0 v)[j]? = some (some w) := by simpa [gx_s2] using h
    rcases gx_s2_at t 0 v j w h' with ⟨h1, h2⟩ | ⟨h1, h2, h3, h4⟩
    · exact Or.inl ⟨by omega, h2⟩
    · exact Or.inr ⟨by omega, by omega, by simpa using h3, by omega⟩
  | a :: t, n + 2, v, 0, w, h => by
    simp [gx_s2] at h
    exact Or.inr ⟨by omega, by omega, by simpa using h, by omega⟩
  | a :: t, n + 2, v, j + 1, w, h => by
    have h' : (gx_s2 t (n + 1) v)[j]? = some (some w) := by simpa [gx_s2] using h
    rcases gx_s2_at t (n + 1) v j w h' with ⟨h1, h2⟩ | ⟨h1, h2, h3, h4⟩
    · exact Or.inl ⟨by omega, h2⟩
    · exact Or.inr ⟨by omega, by omega, by simpa using h3, fun q => h4 ⟨by omega, q.2⟩⟩
theorem gx_s1_L {ls ls' : Array Slot} {nL i : Nat} {lv : List (Option gx_V)} {v : gx_V} (hl : lv_has ls' nL ((i, gx_t v) :: (gx_as lv).filter (fun q => !(q.1 == i) && !(q.1 + 1 == i && q.2.category == 2)))) : gx_L ls' nL (gx_s1 lv i v) := by
  refine ⟨hl.1, hl.2.1, fun j w h => ?_⟩
  rcases gx_s1_at lv i v j w h with ⟨rfl, rfl⟩ | ⟨h1, h2, h3⟩
  · exact hl.2.2 (_, _) List.mem_cons_self
  · refine hl.2.2 (j, gx_t w) (List.mem_cons_of_mem _ (List.mem_filter.mpr ⟨gx_as_mem h2, ?_⟩))
    have e1 : (j == i) = false := by simpa using h1
    by_cases e2 : j + 1 = i
    · have e3 : gx_2 w = false := by
        cases hw : gx_2 w with
        | false => rfl
        | true => exact absurd ⟨e2, hw⟩ h3
      simp [e1, gx_cat, e3]
    · simp [e1, e2]
theorem gx_s2_L {ls ls' : Array Slot} {nL i : Nat} {lv : List (Option gx_V)} {v : gx_V} (hl : lv_has ls' nL ((i, gx_t v) :: (gx_as lv).filter (fun q => !(q.1 == i) && (!(q.1 == i + 1) && !(q.1 + 1 == i && q.2.category == 2))))) : gx_L ls' nL (gx_s2 lv i v) := by
  refine ⟨hl.1, hl.2.1, fun j w h => ?_⟩
  rcases gx_s2_at lv i v j w h with ⟨rfl, rfl⟩ | ⟨h1, h1b, h2, h3⟩
  · exact hl.2.2 (_, _) List.mem_cons_self
  · refine hl.2.2 (j, gx_t w) (List.mem_cons_of_mem _ (List.mem_filter.mpr ⟨gx_as_mem h2, ?_⟩))
    have e1 : (j == i) = false := by simpa using h1
    have e1b : (j == i + 1) = false := by simpa using h1b
    by_cases e2 : j + 1 = i
    · have e3 : gx_2 w = false := by
        cases hw : gx_2 w with
        | false => rfl
        | true => exact absurd ⟨e2, hw⟩ h3
      simp [e1, e1b, gx_cat, e3]
    · simp [e1, e1b, e2]
/-- fewer locals -/
def gx_mk : List Bool → List (Option gx_V) → List (Option gx_V)
  | b :: bs, a :: t => (match b with
      | true => a
      | false => none) :: gx_mk bs t
  | _, _ => []
theorem gx_mk_at : ∀ (bs : List Bool) (lv : List (Option gx_V)) (j : Nat) (w : gx_V), (gx_mk bs lv)[j]? = some (some w) → lv[j]? = some (some w)
  | [], _, j, w, h => by simp [gx_mk] at h
  | b :: bs, [], j, w, h => by simp [gx_mk] at h
  | b :: bs, a :: t, 0, w, h => by
    cases b <;> simp [gx_mk] at h ⊢
    exact h
  | b :: bs, a :: t, j + 1, w, h => by
    have h' : (gx_mk bs t)[j]? = some (some w) := by simpa [gx_mk] using h
    simpa using gx_mk_at bs t j w h'
/-- the locals at a method's entry -/
def gx_en : List gx_V → List (Option gx_V)
  | [] => []
  | .inl x :: t => some (.inl x) :: gx_en t
  | .inr (.inl x) :: t => some (.inr (.inl x)) :: none :: gx_en t
  | .inr (.inr o) :: t => some (.inr (.inr o)) :: gx_en t
theorem gx_en_at : ∀ (vs : List gx_V) (k i : Nat) (v : gx_V), (gx_en vs)[i]? = some (some v) → (k + i, gx_t v) ∈ lv_args k (vs.map gx_t)
  | [], k, i, v, h => by simp [gx_en] at h
  | .inl x :: t, k, 0, v, h => by
    simp [gx_en] at h
    subst h
    exact List.mem_cons_self
  | .inl x :: t, k, i + 1, v, h => by
    have h' : (gx_en t)[i]? = some (some v) := by simpa [gx_en] using h
    have := gx_en_at t (k + 1) i v h'
    rw [show k + (i + 1) = k + 1 + i by omega]
    exact List.mem_cons_of_mem _ this
  | .inr (.inl x) :: t, k, 0, v, h => by
    simp [gx_en] at h
    subst h
    exact List.mem_cons_self
  | .inr (.inl x) :: t, k, 1, v, h => by simp [gx_en] at h
  | .inr (.inl x) :: t, k, i + 2, v, h => by
    have h' : (gx_en t)[i]? = some (some v) := by simpa [gx_en] using h
    have := gx_en_at t (k + 2) i v h'
    rw [show k + (i + 2) = k + 2 + i by omega]
    exact List.mem_cons_of_mem _ this
  | .inr (.inr o) :: t, k, 0, v, h => by
    simp [gx_en] at h
    subst h
    exact List.mem_cons_self
  | .inr (.inr o) :: t, k, i + 1, v, h => by
    have h' : (gx_en t)[i]? = some (some v) := by simpa [gx_en] using h
    have := gx_en_at t (k + 1) i v h'
    rw [show k + (i + 1) = k + 1 + i by omega]
    refine List.mem_cons_of_mem _ ?_
    have e : (if (gx_t (.inr (.inr o))).category = 2 then k + 2 else k + 1) = k + 1 := by rw [gx_cat]; rfl
    rw [e]
    exact this
/-- unset places behind -/
def gx_pad (n : Nat) (lv : List (Option gx_V)) : List (Option gx_V) := lv ++ List.replicate (n - lv.length) none
theorem gx_pad_at {n : Nat} {lv : List (Option gx_V)} {i : Nat} {v : gx_V} (h : (gx_pad n lv)[i]? = some (some v)) : lv[i]? = some (some v) := by
  unfold gx_pad at h
  by_cases hl : i < lv.length
  · rw [List.getElem?_append_left hl] at h
    exact h
  · rw [List.getElem?_append_right (by omega)] at h
    rw [List.getElem?_replicate] at h
    split at h <;> cases h
/-- the world: cells by address, and the next address -/
abbrev gx_E : Type := (Nat × vp_A) ⊕ (Nat × List Value)
abbrev gx_H : Type := (Nat → Option gx_E) × Nat
/-- the tables' numbers: classes and slots, array classes, the first address that is ours -/
abbrev gx_D : Type := va_G × (Nat → ClassId) × Nat
def gx_e (D : gx_D) (e : gx_E) : va_E := match e with
  | .inl a => .inl (D.2.1 a.1, a.2)
  | .inr o => .inr o
def gx_R (D : gx_D) (cl : List vw_C) (X : gx_H) (H : Heap) : Prop := H.size = X.2 ∧ D.2.2 ≤ X.2 ∧ ∀ (a : Nat) (e : gx_E), X.1 a = some e → D.2.2 ≤ a ∧ va_at D.1 cl (a, gx_e D e) H
def gx_up (f : Nat → Option gx_E) (a : Nat) (e : gx_E) : Nat → Option gx_E := fun q => if q = a then some e else f q
def gx_nest (w : Cond) : Bool := match w with
  | .fieldLinkNest .. => true
  | .methodLinkNest .. => true
  | .arrayOver (.object _) => true
  | _ => false
def gx_K (D : gx_D) (cl : List vw_C) (aty : List FieldType) (tb nb : List Cond) (U : State) : Prop :=
  (∀ (c : Nat) (q : vw_C), cl[c]? = some q → u_Kn U q.1 q.2.1 q.2.2 (D.1.1 c) (D.1.2 c)) ∧ (∀ (t : Nat) (ty : FieldType), aty[t]? = some ty → ArrOfT U (D.2.1 t) ty ∧ va_RA U (D.2.1 t) ty) ∧ (∀ w ∈ tb, ∀ a : Array Value, w.before a U = true) ∧ (∀ w ∈ nb, va_Nw w U) ∧ (∀ w ∈ tb, goodWord w = true) ∧ ∀ w ∈ nb, gx_nest w = true
theorem gx_K.moved {D : gx_D} {cl : List vw_C} {aty : List FieldType} {tb nb : List Cond} {s U : State} (h : gx_K D cl aty tb nb s) (hW : s.WarmedH U.vm) : gx_K D cl aty tb nb U := by
  obtain ⟨h1, h2, h3, h4, h5, h6⟩ := h
  refine ⟨fun c q hq => u_Kn_moved hW.alike (h1 c q hq), fun t ty ht => ⟨arrOfT_moved hW.alike (h2 t ty ht).1, (h2 t ty ht).2.moved hW.alike⟩, fun w hw a => word_at hW (good_of_word (h5 w hw)) (h3 w hw #[]), fun w hw => ?_, h5, h6⟩
  have g := h6 w hw
  have z := h4 w hw
  cases w with
  | fieldLinkNest => exact va_Nw.warmF hW z
  | methodLinkNest => exact va_Nw.warmM hW z
  | arrayOver ty =>
    cases ty with
    | object C => exact va_AO.moved (C := C) hW.alike z
    | _ => simp [gx_nest] at g
  | _ => simp [gx_nest] at g
theorem gx_K.same {D : gx_D} {cl : List vw_C} {aty : List FieldType} {tb nb : List Cond} {s U : State} (h : gx_K D cl aty tb nb s) (hv : s.vm = U.vm) : gx_K D cl aty tb nb U := h.moved (by rw [← hv]; exact State.WarmedH.refl s)
/-- va_K out of it, for the kit's rows: one array class -/
theorem gx_K.va {D : gx_D} {cl : List vw_C} {aty : List FieldType} {tb nb : List Cond} {s : State} (h : gx_K D cl aty tb nb s) : va_K D.1 cl [] s := ⟨h.1, fun k q hk => by simp at hk⟩
theorem gx_K.va1 {D : gx_D} {cl : List vw_C} {aty : List FieldType} {tb nb : List Cond} {s : State} (h : gx_K D cl aty tb nb s) {t : Nat} {ty : FieldType} (ht : aty[t]? = some ty) : va_K D.1 cl [(D.2.1 t, ty)] s := ⟨h.1, fun k q hk => by
  have hz : k < 1 := (List.getElem?_eq_some_iff.mp hk).1
  rw [show k = 0 by omega] at hk
  cases hk
  exact h.2.1 t ty ht⟩
theorem gx_R.one {D : gx_D} {cl : List vw_C} {X : gx_H} {H : Heap} (h : gx_R D cl X H) {a : Nat} {e : gx_E} (ha : X.1 a = some e) : va_P D.1 cl [(a, gx_e D e)] H := fun k q hk => by
  have hz : k < 1 := (List.getElem?_eq_some_iff.mp hk).1
  rw [show k = 0 by omega] at hk
  cases hk
  exact (h.2.2 a e ha).2
/-- a cell is overwritten -/
theorem gx_R.put {D : gx_D} {cl : List vw_C} {X : gx_H} {H H1 : Heap} (h : gx_R D cl X H) {a : Nat} {e0 e : gx_E} (ha : X.1 a = some e0) (z : H1.size = H.size) (oq : ∀ q : Nat, q ≠ a → H1[q]? = H[q]?) (he : va_at D.1 cl (a, gx_e D e) H1) : gx_R D cl (gx_up X.1 a e, X.2) H1 := by
  refine ⟨z.trans h.1, h.2.1, fun q x hx => ?_⟩
  unfold gx_up at hx
  by_cases hq : q = a
  · subst hq
    simp at hx
    subst hx
    exact ⟨(h.2.2 _ _ ha).1, he⟩
  · simp [hq] at hx
    exact ⟨(h.2.2 q x hx).1, (h.2.2 q x hx).2.kept (oq q hq)⟩
/-- a cell comes -/
theorem gx_R.push {D : gx_D} {cl : List vw_C} {X : gx_H} {H H1 : Heap} (h : gx_R D cl X H) {e : gx_E} (z : H1.size = H.size + 1) (oq : ∀ q : Nat, q < H.size → H1[q]? = H[q]?) (he : va_at D.1 cl (X.2, gx_e D e) H1) : gx_R D cl (gx_up X.1 X.2 e, X.2 + 1) H1 := by
  refine ⟨by rw [z, h.1], Nat.le_succ_of_le h.2.1, fun q x hx => ?_⟩
  unfold gx_up at hx
  by_cases hq : q = X.2
  · subst hq
    simp at hx
    subst hx
    exact ⟨h.2.1, he⟩
  · simp [hq] at hx
    exact ⟨(h.2.2 q x hx).1, (h.2.2 q x hx).2.kept (oq q (h.2.2 q x hx).2.lt)⟩
