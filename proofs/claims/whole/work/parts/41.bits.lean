/-! BITS of longs, sums, counts -/
def gb (x : Int64) (s : Nat) : Bool := x.toBitVec.getLsbD s
theorem gb_ext {x y : Int64} (h : ∀ s, s < 64 → gb x s = gb y s) : x = y := Int64.toBitVec_inj.mp (BitVec.eq_of_getLsbD_eq (fun i hi => h i hi))
theorem gb_or (x y : Int64) (s : Nat) : gb (x ||| y) s = (gb x s || gb y s) := by
  unfold gb
  rw [Int64.toBitVec_or, BitVec.getLsbD_or]
theorem gb_and (x y : Int64) (s : Nat) : gb (x &&& y) s = (gb x s && gb y s) := by
  unfold gb
  rw [Int64.toBitVec_and, BitVec.getLsbD_and]
theorem gb_0 (s : Nat) : gb 0 s = false := by simp [gb]
theorem gb_big {x : Int64} {s : Nat} (h : 64 ≤ s) : gb x s = false := BitVec.getLsbD_of_ge _ _ h
theorem gb_lt {x : Int64} {s : Nat} (h : gb x s = true) : s < 64 := Nat.not_le.mp fun q => by rw [gb_big q] at h; cases h
theorem gb_1 (s : Nat) : gb 1 s = decide (s = 0) := by
  show BitVec.getLsbD (1#64) s = _
  simp
theorem gb_cmp {x y : Int64} : lg_cmp x y = 0 ↔ x = y := by
  unfold lg_cmp
  constructor
  · intro h
    split at h
    · exact absurd h (by decide)
    · split at h
      · assumption
      · exact absurd h (by decide)
  · intro h
    subst h
    have : ¬ x > x := Int64.lt_irrefl
    simp [this]
theorem gb_sub {x y : Int64} : (x ||| y) = x ↔ ∀ s, gb y s = true → gb x s = true := by
  constructor
  · intro h s hs
    rw [← h, gb_or, hs, Bool.or_true]
  · intro h
    refine gb_ext fun s _ => ?_
    rw [gb_or]
    cases hy : gb y s with
    | false => simp
    | true => simp [h s hy]
theorem gb_z {x : Int64} : x = 0 ↔ ∀ s, gb x s = false := by
  constructor
  · intro h s
    rw [h, gb_0]
  · intro h
    exact gb_ext fun s _ => by rw [h s, gb_0]
theorem gb_nz {x : Int64} : ¬ x = 0 ↔ ∃ s, gb x s = true := by
  rw [gb_z]
  constructor
  · intro h
    apply Classical.byContradiction
    intro q
    exact h fun s => by
      cases hs : gb x s with
      | false => rfl
      | true => exact absurd ⟨s, hs⟩ q
  · intro ⟨s, hs⟩ h
    rw [h s] at hs
    cases hs
theorem gb_amt : ∀ s, s < 64 → ((((nI s).toInt64 &&& 63).toBitVec).smod 64).toNat = s := by decide +kernel
theorem gb_shr0 (x : Int64) {s : Nat} (hs : s < 64) : gb (x >>> ((nI s).toInt64 &&& 63)) 0 = gb x s := by
  unfold gb
  rw [Int64.toBitVec_shiftRight, BitVec.getLsbD_sshiftRight', gb_amt s hs]
  simp [hs]
theorem gb_bit (x : Int64) {s : Nat} (hs : s < 64) : ((x >>> ((nI s).toInt64 &&& 63)) &&& 1) = if gb x s = true then 1 else 0 := by
  refine gb_ext fun i _ => ?_
  rw [gb_and, gb_1]
  by_cases hi : i = 0
  · subst hi
    rw [gb_shr0 x hs]
    cases gb x s <;> simp [gb_0, gb_1]
  · cases gb x s <;> simp [gb_0, gb_1, hi]
theorem gb_t0 (x : Int64) {s : Nat} (hs : s < 64) : lg_cmp ((x >>> ((nI s).toInt64 &&& 63)) &&& 1) 0 = 0 ↔ gb x s = false := by
  rw [gb_cmp, gb_bit x hs]
  cases gb x s <;> simp
theorem gb_t1 (x : Int64) {s : Nat} (hs : s < 64) : lg_cmp ((x >>> ((nI s).toInt64 &&& 63)) &&& 1) 1 = 0 ↔ gb x s = true := by
  rw [gb_cmp, gb_bit x hs]
  cases gb x s <;> simp
theorem gb_i32 (x : Int64) {s : Nat} (hs : s < 64) : ((x >>> ((nI s).toInt64 &&& 63)) &&& 1).toInt32 = nI (if gb x s = true then 1 else 0) := by
  rw [gb_bit x hs]
  cases gb x s <;> rfl
theorem gb_tw : ∀ t, t < 64 → ((1 : Int64) <<< ((nI t).toInt64 &&& 63)).toBitVec = BitVec.twoPow 64 t := by decide +kernel
theorem gb_shl {t : Nat} (ht : t < 64) (s : Nat) : gb ((1 : Int64) <<< ((nI t).toInt64 &&& 63)) s = decide (t = s) := by
  unfold gb
  rw [gb_tw t ht, BitVec.getLsbD_twoPow]
  simp [ht]
theorem gb_m60 (s : Nat) : gb (1152921504606846975 : Int64) s = decide (s < 60) := by
  by_cases h : s < 64
  · exact (show ∀ s, s < 64 → gb (1152921504606846975 : Int64) s = decide (s < 60) by decide +kernel) s h
  · rw [gb_big (by omega)]
    simp
    omega
/-! sums over the first numbers -/
def gn_s (f : Nat → Nat) : Nat → Nat
  | 0 => 0
  | n + 1 => gn_s f n + f n
theorem gn_le {f g : Nat → Nat} : ∀ (n : Nat), (∀ i, i < n → f i ≤ g i) → gn_s f n ≤ gn_s g n
  | 0, _ => Nat.le_refl _
  | n + 1, h => Nat.add_le_add (gn_le n fun i hi => h i (by omega)) (h n (by omega))
theorem gn_eq {f g : Nat → Nat} : ∀ (n : Nat), (∀ i, i < n → f i = g i) → gn_s f n = gn_s g n
  | 0, _ => rfl
  | n + 1, h => by
    show gn_s f n + f n = gn_s g n + g n
    rw [gn_eq n fun i hi => h i (by omega), h n (by omega)]
theorem gn_lt {f g : Nat → Nat} : ∀ (n k : Nat), k < n → (∀ i, i < n → f i ≤ g i) → f k < g k → gn_s f n < gn_s g n
  | 0, k, hk, _, _ => absurd hk (Nat.not_lt_zero _)
  | n + 1, k, hk, h, hl => by
    show gn_s f n + f n < gn_s g n + g n
    by_cases e : k = n
    · subst e
      have := gn_le (f := f) (g := g) k fun i hi => h i (by omega)
      omega
    · have := gn_lt n k (by omega) (fun i hi => h i (by omega)) hl
      have := h n (by omega)
      omega
theorem gn_bd {f : Nat → Nat} {c : Nat} : ∀ (n : Nat), (∀ i, i < n → f i ≤ c) → gn_s f n ≤ n * c
  | 0, _ => by simp [gn_s]
  | n + 1, h => by
    have h1 := gn_bd n fun i hi => h i (by omega)
    have h2 := h n (by omega)
    show gn_s f n + f n ≤ (n + 1) * c
    rw [Nat.succ_mul]
    omega
theorem gn_up {f g : Nat → Nat} {k : Nat} : ∀ (n : Nat), k < n → (∀ i, i < n → i ≠ k → f i = g i) → gn_s f n + g k = gn_s g n + f k
  | 0, hk, _ => absurd hk (Nat.not_lt_zero _)
  | n + 1, hk, h => by
    show gn_s f n + f n + g k = gn_s g n + g n + f k
    by_cases e : k = n
    · subst e
      have := gn_eq (f := f) (g := g) k fun i hi => h i (by omega) (by omega)
      omega
    · have h1 := gn_up n (by omega) (fun i hi hne => h i (by omega) hne)
      have h2 := h n (by omega) (Ne.symm e)
      omega
theorem gn_add {f g : Nat → Nat} : ∀ (n : Nat), gn_s (fun i => f i + g i) n = gn_s f n + gn_s g n
  | 0 => rfl
  | n + 1 => by
    show gn_s (fun i => f i + g i) n + (f n + g n) = gn_s f n + f n + (gn_s g n + g n)
    rw [gn_add n]
    omega
/-- how many bits are not set -/
def gb_u (x : Int64) : Nat := gn_s (fun s => if gb x s = true then 0 else 1) 64
theorem gb_u64 (x : Int64) : gb_u x ≤ 64 := by
  have := gn_bd (f := fun s => if gb x s = true then 0 else 1) (c := 1) 64 (fun i _ => by split <;> omega)
  unfold gb_u
  omega
theorem gb_u_le (x y : Int64) : gb_u (x ||| y) ≤ gb_u x := by
  refine gn_le 64 fun s _ => ?_
  rw [gb_or]
  cases gb x s <;> cases gb y s <;> simp
theorem gb_u_lt {x y : Int64} (h : ¬ (x ||| y) = x) : gb_u (x ||| y) < gb_u x := by
  have h2 : ∃ s, gb y s = true ∧ gb x s = false := by
    apply Classical.byContradiction
    intro q
    refine h (gb_sub.mpr fun s hs => ?_)
    cases hx : gb x s with
    | true => rfl
    | false => exact absurd ⟨s, hs, hx⟩ q
  obtain ⟨s, hy, hx⟩ := h2
  refine gn_lt 64 s (gb_lt hy) (fun i _ => ?_) ?_
  · rw [gb_or]
    cases gb x i <;> cases gb y i <;> simp
  · rw [gb_or, hx, hy]
    decide
