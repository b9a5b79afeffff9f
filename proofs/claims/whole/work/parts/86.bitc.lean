/-! Long.bitCount counts the bits -/
def sS (B : Nat) : (Nat → Nat) → Nat → Nat
  | _, 0 => 0
  | d, n + 1 => d 0 + B * sS B (fun j => d (j + 1)) n
theorem sS_add (B : Nat) : ∀ (n : Nat) (d e : Nat → Nat), sS B d n + sS B e n = sS B (fun j => d j + e j) n
  | 0, _, _ => rfl
  | n + 1, d, e => by
    rw [sS, sS, sS, ← sS_add B n, Nat.mul_add]
    omega
theorem sS_ext (B : Nat) : ∀ (n : Nat) (d e : Nat → Nat), (∀ j, j < n → d j = e j) → sS B d n = sS B e n
  | 0, _, _, _ => rfl
  | n + 1, d, e, h => by
    rw [sS, sS, h 0 (by omega), sS_ext B n _ _ fun j hj => h (j + 1) (by omega)]
theorem sS_lt {B : Nat} (hB : 0 < B) : ∀ (n : Nat) (d : Nat → Nat), (∀ j, d j < B) → sS B d n < B ^ n
  | 0, _, _ => Nat.one_pos
  | n + 1, d, h => by
    have h1 := sS_lt hB n (fun j => d (j + 1)) fun j => h (j + 1)
    have h2 := h 0
    rw [sS, Nat.pow_succ, Nat.mul_comm (B ^ n) B]
    have h3 : B * (sS B (fun j => d (j + 1)) n + 1) ≤ B * B ^ n := Nat.mul_le_mul_left B h1
    rw [Nat.mul_add] at h3
    omega
theorem sS_z (B : Nat) : ∀ (n : Nat) (d : Nat → Nat), d n = 0 → sS B d (n + 1) = sS B d n
  | 0, d, h => by
    rw [sS, sS, sS, h]
    rfl
  | n + 1, d, h => by
    rw [sS, sS_z B n (fun j => d (j + 1)) h, sS]
theorem sS_sh {B : Nat} (hB : 0 < B) {n : Nat} {d : Nat → Nat} (h : d 0 < B) : sS B d (n + 1) / B = sS B (fun j => d (j + 1)) n := by
  rw [sS, Nat.add_mul_div_left _ _ hB, Nat.div_eq_of_lt h, Nat.zero_add]
theorem sS_pair (B : Nat) : ∀ (n : Nat) (d : Nat → Nat), sS B d (2 * n) = sS (B * B) (fun j => d (2 * j) + B * d (2 * j + 1)) n
  | 0, _ => rfl
  | n + 1, d => by
    rw [show 2 * (n + 1) = 2 * n + 1 + 1 by omega, sS, sS, sS_pair B n, sS, Nat.mul_add, Nat.mul_assoc, Nat.add_assoc]
    rfl
theorem and_split {k a b c e : Nat} (ha : a < 2 ^ k) (hc : c < 2 ^ k) : (a + 2 ^ k * b) &&& (c + 2 ^ k * e) = (a &&& c) + 2 ^ k * (b &&& e) := by
  apply Nat.eq_of_testBit_eq
  intro i
  rw [Nat.testBit_and, Nat.add_comm a, Nat.add_comm c, Nat.add_comm (a &&& c), Nat.testBit_two_pow_mul_add _ ha, Nat.testBit_two_pow_mul_add _ hc, Nat.testBit_two_pow_mul_add _ (Nat.lt_of_le_of_lt Nat.and_le_left ha)]
  split
  · rw [Nat.testBit_and]
  · rw [Nat.testBit_and]
theorem sS_mask {k : Nat} : ∀ (n : Nat) (d : Nat → Nat), (∀ j, d j < 2 ^ k) → sS (2 ^ k) d (2 * n) &&& sS (2 ^ k * 2 ^ k) (fun _ => 2 ^ k - 1) n = sS (2 ^ k * 2 ^ k) (fun j => d (2 * j)) n
  | 0, _, _ => by simp [sS]
  | n + 1, d, h => by
    have hp : 0 < 2 ^ k := Nat.two_pow_pos k
    rw [sS_pair, sS, sS, sS]
    have e : 2 ^ k * 2 ^ k = 2 ^ (k + k) := (Nat.pow_add 2 k k).symm
    have h0 := h 0
    have h1 := h 1
    have b1 : d 0 + 2 ^ k * d 1 < 2 ^ (k + k) := by
      rw [← e]
      have : 2 ^ k * (d 1 + 1) ≤ 2 ^ k * 2 ^ k := Nat.mul_le_mul_left _ h1
      rw [Nat.mul_add] at this
      omega
    have b2 : 2 ^ k - 1 < 2 ^ (k + k) := by
      rw [← e]
      have : 2 ^ k * 1 ≤ 2 ^ k * 2 ^ k := Nat.mul_le_mul_left _ hp
      omega
    rw [e, and_split (show d (2 * 0) + 2 ^ k * d (2 * 0 + 1) < 2 ^ (k + k) from b1) b2, Nat.and_two_pow_sub_one_eq_mod, Nat.add_mul_mod_self_left, Nat.mod_eq_of_lt (show d (2 * 0) < 2 ^ k from h0)]
    have ih := sS_mask n (fun j => d (j + 1 + 1)) (fun j => h _)
    rw [sS_pair, e] at ih
    congr 2
theorem sS_bits : ∀ (n N : Nat), N < 2 ^ n → sS 2 (fun j => N / 2 ^ j % 2) n = N
  | 0, N, h => by
    rw [sS]
    have : N < 1 := h
    omega
  | n + 1, N, h => by
    have ih := sS_bits n (N / 2) (by rw [Nat.pow_succ] at h; omega)
    rw [sS]
    have e : (fun j => N / 2 ^ (j + 1) % 2) = (fun j => N / 2 / 2 ^ j % 2) := by
      funext j
      rw [Nat.pow_succ, Nat.mul_comm, Nat.div_div_eq_div_mul]
    rw [e, ih, Nat.pow_zero, Nat.div_one]
    omega
def nv (y : Int64) : Nat := y.toUInt64.toNat
theorem nv_lt (y : Int64) : nv y < 2 ^ 64 := y.toUInt64.toNat_lt
theorem nv_and (a b : Int64) : nv (a &&& b) = nv a &&& nv b := rfl
theorem nv_add {a b : Int64} (h : nv a + nv b < 2 ^ 64) : nv (a + b) = nv a + nv b := by
  have : nv (a + b) = (nv a + nv b) % 2 ^ 64 := rfl
  rw [this, Nat.mod_eq_of_lt h]
theorem nv_sub {a b : Int64} (h : nv b ≤ nv a) : nv (a - b) = nv a - nv b := by
  have e : nv (a - b) = (2 ^ 64 - nv b + nv a) % 2 ^ 64 := rfl
  have h1 := nv_lt a
  have h2 := nv_lt b
  rw [e]
  omega
theorem nv_shr (a : Int64) (u : UInt64) {k : Nat} (hk : u.toNat % 64 = k) : nv ((a.toUInt64 >>> u).toInt64) = nv a / 2 ^ k := by
  have : nv ((a.toUInt64 >>> u).toInt64) = (a.toUInt64 >>> u).toNat := rfl
  rw [this, UInt64.toNat_shiftRight, hk, Nat.shiftRight_eq_div_pow]
  rfl
theorem gb_nv (x : Int64) (s : Nat) : (nv x / 2 ^ s % 2) = if gb x s = true then 1 else 0 := by
  have : gb x s = (nv x).testBit s := rfl
  rw [this, Nat.testBit_eq_decide_div_mod_eq]
  by_cases c : nv x / 2 ^ s % 2 = 1
  · rw [c, if_pos (by simp)]
  · rw [if_neg (by simpa using c)]
    omega
set_option maxHeartbeats 2000000 in
theorem c_bitCount (fu : Nat) (x : Int64) (X : gx_H) : gm_J13_bitCount_95d88 fu x X = some (nI (gn_s (fun s => if gb x s = true then 1 else 0) 64), X) := by
  unfold gm_J13_bitCount_95d88
  simp only [Option.bind_some]
  generalize hz1 : x - ((x.toUInt64 >>> ((1 : Int32).toInt64.toUInt64 &&& Int64.toUInt64 63)).toInt64 &&& 6148914691236517205) = z1
  generalize hz2 : (z1 &&& 3689348814741910323) + ((z1.toUInt64 >>> ((2 : Int32).toInt64.toUInt64 &&& Int64.toUInt64 63)).toInt64 &&& 3689348814741910323) = z2
  generalize hz3 : (z2 + (z2.toUInt64 >>> ((4 : Int32).toInt64.toUInt64 &&& Int64.toUInt64 63)).toInt64) &&& 1085102592571150095 = z3
  generalize hz4 : z3 + (z3.toUInt64 >>> ((8 : Int32).toInt64.toUInt64 &&& Int64.toUInt64 63)).toInt64 = z4
  generalize hz5 : z4 + (z4.toUInt64 >>> ((16 : Int32).toInt64.toUInt64 &&& Int64.toUInt64 63)).toInt64 = z5
  generalize hz6 : z5 + (z5.toUInt64 >>> ((32 : Int32).toInt64.toUInt64 &&& Int64.toUInt64 63)).toInt64 = z6
  generalize hb : (fun j => nv x / 2 ^ j % 2) = b
  have b2 : ∀ j, b j < 2 := fun j => by rw [← hb]; exact Nat.mod_lt _ (by omega)
  have bz : ∀ j, 64 ≤ j → b j = 0 := fun j hj => by
    rw [← hb]
    have : nv x < 2 ^ j := Nat.lt_of_lt_of_le (nv_lt x) (Nat.pow_le_pow_right (by omega) hj)
    show nv x / 2 ^ j % 2 = 0
    rw [Nat.div_eq_of_lt this]
  have N : nv x = sS 2 b 64 := by rw [← hb]; exact (sS_bits 64 _ (nv_lt x)).symm
  -- pairs
  generalize hc : (fun j => b (2 * j) + b (2 * j + 1)) = c
  have cd : ∀ j, c j = b (2 * j) + b (2 * j + 1) := fun j => by rw [← hc]
  have c4 : ∀ j, c j ≤ 2 := fun j => by have := b2 (2 * j); have := b2 (2 * j + 1); rw [cd]; omega
  have cz : ∀ j, 32 ≤ j → c j = 0 := fun j hj => by rw [cd, bz _ (by omega), bz _ (by omega)]
  have Z1 : nv z1 = sS 4 c 32 := by
    have e1 : nv x / 2 = sS 2 (fun j => b (j + 1)) 64 := by
      rw [N, ← sS_z 2 64 b (bz 64 (by omega)), sS_sh (by omega) (b2 0)]
    have e2 : nv ((x.toUInt64 >>> ((1 : Int32).toInt64.toUInt64 &&& Int64.toUInt64 63)).toInt64 &&& 6148914691236517205) = sS 4 (fun j => b (2 * j + 1)) 32 := by
      rw [nv_and, nv_shr _ _ (k := 1) (by decide), Nat.pow_one, e1]
      exact sS_mask (k := 1) 32 (fun j => b (j + 1)) (fun j => b2 _)
    have e3 : nv x = sS 4 c 32 + sS 4 (fun j => b (2 * j + 1)) 32 := by
      rw [N, show 64 = 2 * 32 from rfl, sS_pair, sS_add]
      exact sS_ext _ _ _ _ fun j _ => by rw [cd]; omega
    rw [← hz1, nv_sub (by omega)]
    omega
  generalize he : (fun j => c (2 * j) + c (2 * j + 1)) = e
  have ed : ∀ j, e j = c (2 * j) + c (2 * j + 1) := fun j => by rw [← he]
  have e4 : ∀ j, e j ≤ 4 := fun j => by have := c4 (2 * j); have := c4 (2 * j + 1); rw [ed]; omega
  have ez : ∀ j, 16 ≤ j → e j = 0 := fun j hj => by rw [ed, cz _ (by omega), cz _ (by omega)]
  have Z2 : nv z2 = sS 16 e 16 := by
    have e1 : nv z1 / 4 = sS 4 (fun j => c (j + 1)) 32 := by
      rw [Z1, ← sS_z 4 32 c (cz 32 (by omega)), sS_sh (by omega) (by have := c4 0; omega)]
    have e2 : nv (z1 &&& 3689348814741910323) = sS 16 (fun j => c (2 * j)) 16 := by
      rw [nv_and, Z1]
      exact sS_mask (k := 2) 16 c (fun j => by have := c4 j; omega)
    have e3 : nv ((z1.toUInt64 >>> ((2 : Int32).toInt64.toUInt64 &&& Int64.toUInt64 63)).toInt64 &&& 3689348814741910323) = sS 16 (fun j => c (2 * j + 1)) 16 := by
      rw [nv_and, nv_shr _ _ (k := 2) (by decide), show 2 ^ 2 = 4 from rfl, e1]
      exact sS_mask (k := 2) 16 (fun j => c (j + 1)) (fun j => by have := c4 (j + 1); omega)
    have e5 : sS 16 (fun j => c (2 * j)) 16 + sS 16 (fun j => c (2 * j + 1)) 16 = sS 16 e 16 := by
      rw [sS_add]
      exact sS_ext _ _ _ _ fun j _ => (ed j).symm
    have lt : sS 16 e 16 < 2 ^ 64 := sS_lt (B := 16) (by omega) 16 e (fun j => by have := e4 j; omega)
    rw [← hz2, nv_add (by rw [e2, e3, e5]; exact lt), e2, e3, e5]
  generalize hg : (fun j => e (2 * j) + e (2 * j + 1)) = g
  have gd' : ∀ j, g j = e (2 * j) + e (2 * j + 1) := fun j => by rw [← hg]
  have g8 : ∀ j, g j ≤ 8 := fun j => by have := e4 (2 * j); have := e4 (2 * j + 1); rw [gd']; omega
  have gz' : ∀ j, 8 ≤ j → g j = 0 := fun j hj => by rw [gd', ez _ (by omega), ez _ (by omega)]
  have Z3 : nv z3 = sS 256 g 8 := by
    have e1 : nv z2 / 16 = sS 16 (fun j => e (j + 1)) 16 := by
      rw [Z2, ← sS_z 16 16 e (ez 16 (by omega)), sS_sh (by omega) (by have := e4 0; omega)]
    have e2 : nv ((z2.toUInt64 >>> ((4 : Int32).toInt64.toUInt64 &&& Int64.toUInt64 63)).toInt64) = sS 16 (fun j => e (j + 1)) 16 := by
      rw [nv_shr _ _ (k := 4) (by decide), show 2 ^ 4 = 16 from rfl, e1]
    have e3 : sS 16 e 16 + sS 16 (fun j => e (j + 1)) 16 = sS 16 (fun j => e j + e (j + 1)) 16 := sS_add _ _ _ _
    have lt : sS 16 (fun j => e j + e (j + 1)) 16 < 2 ^ 64 := sS_lt (B := 16) (by omega) 16 _ (fun j => by have := e4 j; have := e4 (j + 1); omega)
    rw [← hz3, nv_and, nv_add (by rw [Z2, e2, e3]; exact lt), Z2, e2, e3]
    refine (sS_mask (k := 4) 8 (fun j => e j + e (j + 1)) (fun j => by have := e4 j; have := e4 (j + 1); omega)).trans ?_
    exact sS_ext _ _ _ _ fun j _ => (gd' j).symm
  generalize hh : (fun j => g j + g (j + 1)) = h
  have hd' : ∀ j, h j = g j + g (j + 1) := fun j => by rw [← hh]
  have h16 : ∀ j, h j ≤ 16 := fun j => by have := g8 j; have := g8 (j + 1); rw [hd']; omega
  have hz' : ∀ j, 8 ≤ j → h j = 0 := fun j hj => by rw [hd', gz' _ (by omega), gz' _ (by omega)]
  have sh : ∀ (d : Nat → Nat), (∀ j, d j < 256) → (∀ j, 8 ≤ j → d j = 0) → sS 256 d 8 / 256 = sS 256 (fun j => d (j + 1)) 8 := fun d d1 d2 => by
    rw [← sS_z 256 8 d (d2 8 (by omega)), sS_sh (by omega) (d1 0)]
  have Z4 : nv z4 = sS 256 h 8 := by
    have e2 : nv ((z3.toUInt64 >>> ((8 : Int32).toInt64.toUInt64 &&& Int64.toUInt64 63)).toInt64) = sS 256 (fun j => g (j + 1)) 8 := by
      rw [nv_shr _ _ (k := 8) (by decide), show 2 ^ 8 = 256 from rfl, Z3, sh g (fun j => by have := g8 j; omega) gz']
    have e3 : sS 256 g 8 + sS 256 (fun j => g (j + 1)) 8 = sS 256 h 8 := by rw [sS_add, hh]
    have lt : sS 256 h 8 < 2 ^ 64 := sS_lt (B := 256) (by omega) 8 _ (fun j => by have := h16 j; omega)
    rw [← hz4, nv_add (by rw [Z3, e2, e3]; exact lt), Z3, e2, e3]
  generalize hp : (fun j => h j + h (j + 2)) = p
  have pd : ∀ j, p j = h j + h (j + 2) := fun j => by rw [← hp]
  have p32 : ∀ j, p j ≤ 32 := fun j => by have := h16 j; have := h16 (j + 2); rw [pd]; omega
  have pz : ∀ j, 8 ≤ j → p j = 0 := fun j hj => by rw [pd, hz' _ (by omega), hz' _ (by omega)]
  have Z5 : nv z5 = sS 256 p 8 := by
    have e2 : nv ((z4.toUInt64 >>> ((16 : Int32).toInt64.toUInt64 &&& Int64.toUInt64 63)).toInt64) = sS 256 (fun j => h (j + 2)) 8 := by
      rw [nv_shr _ _ (k := 16) (by decide), show 2 ^ 16 = 256 * 256 from rfl, ← Nat.div_div_eq_div_mul, Z4, sh h (fun j => by have := h16 j; omega) hz', sh _ (fun j => by have := h16 (j + 1); omega) (fun j hj => hz' _ (by omega))]
    have e3 : sS 256 h 8 + sS 256 (fun j => h (j + 2)) 8 = sS 256 p 8 := by rw [sS_add, hp]
    have lt : sS 256 p 8 < 2 ^ 64 := sS_lt (B := 256) (by omega) 8 _ (fun j => by have := p32 j; omega)
    rw [← hz5, nv_add (by rw [Z4, e2, e3]; exact lt), Z4, e2, e3]
  have Z6 : nv z6 = sS 256 (fun j => p j + p (j + 4)) 8 := by
    have e2 : nv ((z5.toUInt64 >>> ((32 : Int32).toInt64.toUInt64 &&& Int64.toUInt64 63)).toInt64) = sS 256 (fun j => p (j + 4)) 8 := by
      rw [nv_shr _ _ (k := 32) (by decide), show 2 ^ 32 = 256 * 256 * 256 * 256 from rfl, ← Nat.div_div_eq_div_mul, ← Nat.div_div_eq_div_mul, ← Nat.div_div_eq_div_mul, Z5, sh p (fun j => by have := p32 j; omega) pz, sh _ (fun j => by have := p32 (j + 1); omega) (fun j hj => pz _ (by omega)), sh _ (fun j => by have := p32 (j + 1 + 1); omega) (fun j hj => pz _ (by omega)), sh _ (fun j => by have := p32 (j + 1 + 1 + 1); omega) (fun j hj => pz _ (by omega))]
    have e3 : sS 256 p 8 + sS 256 (fun j => p (j + 4)) 8 = sS 256 (fun j => p j + p (j + 4)) 8 := sS_add _ _ _ _
    have lt : sS 256 (fun j => p j + p (j + 4)) 8 < 2 ^ 64 := sS_lt (B := 256) (by omega) 8 _ (fun j => by have := p32 j; have := p32 (j + 4); omega)
    rw [← hz6, nv_add (by rw [Z5, e2, e3]; exact lt), Z5, e2, e3]
  have tot : p 0 + p 4 = gn_s b 64 := by
    simp only [pd, hd', gd', ed, cd, gn_s, Nat.reduceMul, Nat.reduceAdd, Nat.mul_zero, Nat.zero_add]
    omega
  have m : nv z6 % 128 = gn_s b 64 := by
    rw [Z6, sS]
    have := p32 0
    have := p32 4
    rw [show p 0 + p (0 + 4) = p 0 + p 4 from rfl] at *
    omega
  have fin : z6.toInt32 &&& 127 = nI (gn_s b 64) := by
    rw [← m]
    apply Int32.toBitVec_inj.mp
    apply BitVec.eq_of_toNat_eq
    have l : (z6.toInt32 &&& 127).toBitVec.toNat = (nv z6 % 2 ^ 32) &&& 127 := by
      rw [Int32.toBitVec_and, BitVec.toNat_and, Int64.toBitVec_toInt32, BitVec.signExtend_eq_setWidth_of_le _ (by omega), BitVec.toNat_setWidth]
      rfl
    have r : (nI (nv z6 % 128)).toBitVec.toNat = (nv z6 % 128) % 2 ^ 32 := rfl
    rw [l, r, show 127 = 2 ^ 7 - 1 from rfl, Nat.and_two_pow_sub_one_eq_mod]
    omega
  have eb : b = (fun s => if gb x s = true then 1 else 0) := by rw [← hb]; exact funext (gb_nv x)
  rw [fin, eb]
