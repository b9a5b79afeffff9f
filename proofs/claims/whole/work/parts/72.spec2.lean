/-! the document's words, second part: changes of a program, the forged one, counts -/
theorem gn_s0 (f : Nat → Nat) : gn_s f 0 = 0 := rfl
theorem gn_ss (f : Nat → Nat) (n : Nat) : gn_s f (n + 1) = gn_s f n + f n := rfl
section SP
variable {T : sT} {P P1 : sP} {f : Nat}
noncomputable def lk (T : sT) (P : sP) (f i : Nat) : Nat := @ite Nat (gp_lack T P f i) (Classical.propDecidable _) 1 0
theorem lk_t {i : Nat} (h : gp_lack T P f i) : lk T P f i = 1 := by simp [lk, h]
theorem lk_f {i : Nat} (h : ¬ gp_lack T P f i) : lk T P f i = 0 := by simp [lk, h]
theorem lk_le (i : Nat) : lk T P f i ≤ 1 := by
  by_cases h : gp_lack T P f i
  · rw [lk_t h]
    exact Nat.le_refl _
  · rw [lk_f h]
    exact Nat.zero_le _
noncomputable def pl (T : sT) (P : sP) (f i : Nat) : Nat := gn_s (fun j => 1 + lk T P f j) i
theorem pl_0 : pl T P f 0 = 0 := rfl
theorem pl_s (i : Nat) : pl T P f (i + 1) = pl T P f i + (1 + lk T P f i) := rfl
theorem pl_lt {i : Nat} : ∀ j, i < j → pl T P f i + lk T P f i < pl T P f j
  | 0, h => absurd h (Nat.not_lt_zero _)
  | j + 1, h => by
    rw [pl_s]
    by_cases e : i = j
    · subst e
      omega
    · have := pl_lt j (i := i) (by omega)
      omega
theorem pl_le {i j : Nat} (h : i ≤ j) : pl T P f i ≤ pl T P f j := by
  by_cases e : i = j
  · rw [e]
    exact Nat.le_refl _
  · have := pl_lt (T := T) (P := P) (f := f) j (i := i) (by omega)
    omega
theorem pl_lt' {i j : Nat} (h : i < j) : pl T P f i < pl T P f j := by
  have := pl_lt (T := T) (P := P) (f := f) j h
  omega
noncomputable def lkn (T : sT) (P : sP) (f : Nat) : Nat := gn_s (lk T P f) (gp_l P f)
theorem pl_eq : ∀ i, pl T P f i = i + gn_s (lk T P f) i
  | 0 => rfl
  | i + 1 => by
    rw [pl_s, pl_eq i, gn_ss]
    omega
theorem pl_l : pl T P f (gp_l P f) = gp_l P f + lkn T P f := pl_eq _
def fit (T : sT) (P : sP) : Prop := ∀ f, f < gp_c P → gp_l P f + lkn T P f ≤ 200
theorem cover {p : Nat} : ∀ j, p < pl T P f j → ∃ i, i < j ∧ (p = pl T P f i + lk T P f i ∨ (gp_lack T P f i ∧ p = pl T P f i))
  | 0, h => absurd h (Nat.not_lt_zero _)
  | j + 1, h => by
    rw [pl_s] at h
    by_cases c : p < pl T P f j
    · obtain ⟨i, h1, h2⟩ := cover j c
      exact ⟨i, by omega, h2⟩
    · by_cases l : gp_lack T P f j
      · have := lk_t l
        by_cases e : p = pl T P f j
        · exact ⟨j, by omega, Or.inr ⟨l, e⟩⟩
        · exact ⟨j, by omega, Or.inl (by omega)⟩
      · have := lk_f l
        exact ⟨j, by omega, Or.inl (by omega)⟩
theorem pl_inj {i j : Nat} (h : pl T P f i + lk T P f i = pl T P f j + lk T P f j) : i = j := by
  apply Classical.byContradiction
  intro q
  by_cases c : i < j
  · have := pl_lt (T := T) (P := P) (f := f) j c
    omega
  · have := pl_lt (T := T) (P := P) (f := f) i (i := j) (by omega)
    omega
theorem pl_inj0 {i j : Nat} (h : pl T P f i = pl T P f j) : i = j := by
  apply Classical.byContradiction
  intro q
  by_cases c : i < j
  · have := pl_lt' (T := T) (P := P) (f := f) c
    omega
  · have := pl_lt' (T := T) (P := P) (f := f) (i := j) (j := i) (by omega)
    omega
theorem pl_ne {i j : Nat} (h : gp_lack T P f i) : pl T P f j + lk T P f j ≠ pl T P f i := by
  intro q
  have l := lk_t h
  by_cases c : j < i
  · have := pl_lt (T := T) (P := P) (f := f) i c
    omega
  · by_cases e : i = j
    · subst e
      omega
    · have := pl_lt (T := T) (P := P) (f := f) j (i := i) (by omega)
      omega
/-- an INSTRUCTION's number, moved along -/
noncomputable def tn (T : sT) (P : sP) (f i : Nat) : Nat := if gp_k P f i = 1 ∨ gp_k P f i = 2 then pl T P f (gp_n P f i) else gp_n P f i
/-- the forged program -/
def isF (T : sT) (P P1 : sP) : Prop := gp_c P1 = gp_c P ∧ ∀ f, f < gp_c P → gp_l P1 f = pl T P f (gp_l P f) ∧ gp_h P1 f = gp_h P f ∧
  (∀ i, i < gp_l P f → gp_k P1 f (pl T P f i + lk T P f i) = gp_k P f i ∧ gp_n P1 f (pl T P f i + lk T P f i) = tn T P f i ∧ (gp_lack T P f i → gp_k P1 f (pl T P f i) = 5 ∧ gp_n P1 f (pl T P f i) = gp_n P f i)) ∧
  ∀ h, h < gp_h P f → gp_a P1 f h = pl T P f (gp_a P f h) ∧ gp_b P1 f h = pl T P f (gp_b P f h) ∧ gp_g P1 f h = pl T P f (gp_g P f h)
theorem isF_ex (T : sT) (P : sP) : ∃ P1, isF T P P1 := by
  refine ⟨(gp_c P, fun f => pl T P f (gp_l P f), fun f p => @dite Nat (∃ i, p = pl T P f i + lk T P f i) (Classical.propDecidable _) (fun h => gp_k P f (Classical.choose h)) (fun _ => 5), fun f p => @dite Nat (∃ i, p = pl T P f i + lk T P f i) (Classical.propDecidable _) (fun h => tn T P f (Classical.choose h)) (fun _ => @dite Nat (∃ i, p = pl T P f i) (Classical.propDecidable _) (fun h => gp_n P f (Classical.choose h)) (fun _ => 0)), gp_h P, fun f h => pl T P f (gp_a P f h), fun f h => pl T P f (gp_b P f h), fun f h => pl T P f (gp_g P f h)), rfl, fun f hf => ⟨rfl, rfl, fun i hi => ⟨?_, ?_, fun hl => ⟨?_, ?_⟩⟩, fun h hh => ⟨rfl, rfl, rfl⟩⟩⟩
  · have hx : ∃ j, pl T P f i + lk T P f i = pl T P f j + lk T P f j := ⟨i, rfl⟩
    have := Classical.choose_spec hx
    refine (dif_pos hx).trans ?_
    rw [← pl_inj this]
  · have hx : ∃ j, pl T P f i + lk T P f i = pl T P f j + lk T P f j := ⟨i, rfl⟩
    have := Classical.choose_spec hx
    refine (dif_pos hx).trans ?_
    rw [← pl_inj this]
  · exact dif_neg (fun ⟨j, q⟩ => pl_ne hl q.symm)
  · have hx : ∃ j, pl T P f i = pl T P f j := ⟨i, rfl⟩
    have := Classical.choose_spec hx
    refine (dif_neg (fun ⟨j, q⟩ => pl_ne hl q.symm)).trans ((dif_pos hx).trans ?_)
    rw [← pl_inj0 this]
theorem isF_wf (hw : gp_wf P) (hfit : fit T P) (h : isF T P P1) : gp_wf P1 := by
  refine ⟨by rw [h.1]; exact hw.1, fun f hf => ?_⟩
  rw [h.1] at hf
  obtain ⟨f1, f2, f3, f4⟩ := h.2 f hf
  obtain ⟨⟨l1, l2⟩, h6, hI, hH⟩ := hw.2 f hf
  have hfit := hfit f hf
  refine ⟨⟨?_, ?_⟩, by rw [f2]; exact h6, fun p hp => ?_, fun k hk => ?_⟩
  · have := pl_lt' (T := T) (P := P) (f := f) (i := 0) (j := gp_l P f) (by omega)
    omega
  · rw [f1, pl_l]
    exact hfit
  · rw [f1] at hp
    obtain ⟨i, hi, e | ⟨hl, e⟩⟩ := cover _ hp
    · subst e
      obtain ⟨a1, a2, -⟩ := f3 i hi
      rw [a1, a2]
      obtain ⟨b1, b2, b3, b4, b5⟩ := hI i hi
      unfold tn
      refine ⟨b1, fun k12 => ?_, fun k3 => ?_, fun k45 => ?_, fun k0 => ?_⟩
      · rw [if_pos k12, f1]
        exact pl_lt' (b2 k12)
      · rw [if_neg (by omega)]
        exact b3 k3
      · rw [if_neg (by omega)]
        exact b4 k45
      · rw [if_neg (by omega)]
        exact b5 k0
    · subst e
      obtain ⟨-, -, a3⟩ := f3 i hi
      obtain ⟨a1, a2⟩ := a3 hl
      rw [a1, a2]
      obtain ⟨b1, b2, b3, b4, b5⟩ := hI i hi
      exact ⟨by omega, fun q => by omega, fun q => by omega, fun _ => b4 (Or.inl hl.1.1), fun q => by omega⟩
  · rw [f2] at hk
    obtain ⟨a1, a2, a3⟩ := f4 k hk
    obtain ⟨b1, b2, b3⟩ := hH k hk
    rw [a1, a2, a3, f1]
    exact ⟨pl_lt' b1, pl_le b2, pl_lt' b3⟩
/-- a program with one INSTRUCTION put -/
def pC (P : sP) (f i k n : Nat) : sP := (gp_c P, gp_l P, go_w (gp_k P) f i k, go_w (gp_n P) f i n, gp_h P, gp_a P, gp_b P, gp_g P)
/-- a program with one HANDLER more -/
def pH (P : sP) (f x y g : Nat) : sP := (gp_c P, gp_l P, gp_k P, gp_n P, go_u (gp_h P) f (gp_h P f + 1), go_w (gp_a P) f (gp_h P f) x, go_w (gp_b P) f (gp_h P f) y, go_w (gp_g P) f (gp_h P f) g)
/-- a program with one FUNCTION more -/
def pF (P : sP) (n : Nat) : sP := (gp_c P + 1, go_u (gp_l P) (gp_c P) n, go_u (gp_k P) (gp_c P) (fun _ => 0), go_u (gp_n P) (gp_c P) (fun _ => 0), go_u (gp_h P) (gp_c P) 0, gp_a P, gp_b P, gp_g P)
/-- no FUNCTION -/
def pZ (P : sP) : sP := (0, P.2)
theorem go_w_e {α : Type} (g : Nat → Nat → α) (k i : Nat) (v : α) (k' i' : Nat) : go_w g k i v k' i' = if k' = k ∧ i' = i then v else g k' i' := by
  unfold go_w go_u
  by_cases e : k' = k
  · rw [if_pos e]
    by_cases e2 : i' = i
    · rw [if_pos e2, if_pos ⟨e, e2⟩]
    · rw [if_neg e2, if_neg fun q => e2 q.2]
  · rw [if_neg e, if_neg fun q => e q.1]
theorem pZ_wf : gp_wf (pZ P) := ⟨Nat.zero_le _, fun f hf => absurd hf (Nat.not_lt_zero _)⟩
theorem pC_wf (hw : gp_wf P) {i k n : Nat} (hf : f < gp_c P) (hi : i < gp_l P f) (hok : gp_ok P f k n) : gp_wf (pC P f i k n) := by
  refine ⟨hw.1, fun g hg => ?_⟩
  obtain ⟨h1, h2, h3, h4⟩ := hw.2 g hg
  refine ⟨h1, h2, fun j hj => ?_, h4⟩
  show gp_ok P g (go_w (gp_k P) f i k g j) (go_w (gp_n P) f i n g j)
  rw [go_w_e, go_w_e]
  by_cases e : g = f ∧ j = i
  · rw [if_pos e, if_pos e, e.1]
    exact hok
  · rw [if_neg e, if_neg e]
    exact h3 j hj
theorem pH_wf (hw : gp_wf P) {x y g : Nat} (hf : f < gp_c P) (h6 : gp_h P f < 6) (h1 : x < y) (h2 : y ≤ gp_l P f) (h3 : g < gp_l P f) : gp_wf (pH P f x y g) := by
  refine ⟨hw.1, fun k hk => ?_⟩
  obtain ⟨a1, a2, a3, a4⟩ := hw.2 k hk
  refine ⟨a1, ?_, a3, fun h hh => ?_⟩
  · show go_u (gp_h P) f (gp_h P f + 1) k ≤ 6
    unfold go_u
    split
    · omega
    · exact a2
  · have hh : h < go_u (gp_h P) f (gp_h P f + 1) k := hh
    show go_w (gp_a P) f (gp_h P f) x k h < go_w (gp_b P) f (gp_h P f) y k h ∧ go_w (gp_b P) f (gp_h P f) y k h ≤ gp_l P k ∧ go_w (gp_g P) f (gp_h P f) g k h < gp_l P k
    rw [go_w_e, go_w_e, go_w_e]
    by_cases e : k = f ∧ h = gp_h P f
    · rw [if_pos e, if_pos e, if_pos e, e.1]
      exact ⟨h1, h2, h3⟩
    · rw [if_neg e, if_neg e, if_neg e]
      refine a4 h ?_
      unfold go_u at hh
      split at hh
      · rename_i e2
        subst e2
        omega
      · exact hh
theorem pF_wf (hw : gp_wf P) {n : Nat} (h8 : gp_c P < 8) (h1 : 1 ≤ n) (h2 : n ≤ 200) : gp_wf (pF P n) := by
  refine ⟨by show gp_c P + 1 ≤ 8; omega, fun g hg => ?_⟩
  have hg : g < gp_c P + 1 := hg
  by_cases e : g = gp_c P
  · subst e
    refine ⟨?_, ?_, fun i hi => ?_, fun h hh => ?_⟩
    · show 1 ≤ go_u (gp_l P) (gp_c P) n (gp_c P) ∧ go_u (gp_l P) (gp_c P) n (gp_c P) ≤ 200
      rw [go_u_s]
      exact ⟨h1, h2⟩
    · show go_u (gp_h P) (gp_c P) 0 (gp_c P) ≤ 6
      rw [go_u_s]
      omega
    · unfold gp_ok
      show go_u (gp_k P) (gp_c P) (fun _ => 0) (gp_c P) i ≤ 8 ∧ ((go_u (gp_k P) (gp_c P) (fun _ => 0) (gp_c P) i = 1 ∨ go_u (gp_k P) (gp_c P) (fun _ => 0) (gp_c P) i = 2) → go_u (gp_n P) (gp_c P) (fun _ => 0) (gp_c P) i < _) ∧ (go_u (gp_k P) (gp_c P) (fun _ => 0) (gp_c P) i = 3 → go_u (gp_n P) (gp_c P) (fun _ => 0) (gp_c P) i < _) ∧ ((go_u (gp_k P) (gp_c P) (fun _ => 0) (gp_c P) i = 4 ∨ go_u (gp_k P) (gp_c P) (fun _ => 0) (gp_c P) i = 5) → go_u (gp_n P) (gp_c P) (fun _ => 0) (gp_c P) i < _) ∧ (_ → go_u (gp_n P) (gp_c P) (fun _ => 0) (gp_c P) i = 0)
      rw [go_u_s, go_u_s]
      exact ⟨by omega, fun q => by omega, fun q => by omega, fun q => by omega, fun _ => rfl⟩
    · have hh : h < go_u (gp_h P) (gp_c P) 0 (gp_c P) := hh
      rw [go_u_s] at hh
      omega
  · obtain ⟨a1, a2, a3, a4⟩ := hw.2 g (by omega)
    have e1 : gp_l (pF P n) g = gp_l P g := go_u_n e
    have e2 : gp_h (pF P n) g = gp_h P g := go_u_n e
    have e3 : gp_k (pF P n) g = gp_k P g := go_u_n e
    have e4 : gp_n (pF P n) g = gp_n P g := go_u_n e
    unfold gp_ok
    rw [e1, e2, e3, e4]
    exact ⟨a1, a2, a3, a4⟩
def wc (T : sT) : Nat := gn_s (fun k => if gs_w T (k / 3660) (k / 61 % 60) (k % 61) = true then 1 else 0) 58560
theorem wc_t0 (n : Nat) : wc (t0 n) = 0 := by
  have := gn_bd (f := fun k => if gs_w (t0 n) (k / 3660) (k / 61 % 60) (k % 61) = true then 1 else 0) (c := 0) 58560 (fun i _ => Nat.le_of_eq (if_neg (by intro q; cases q)))
  unfold wc
  omega
theorem wc_tw {c s t : Nat} (hc : c < 16) (hs : s < 60) (ht : t < 61) (hn : ¬ gs_w T c s t = true) : wc (tw T c s t) = wc T + 1 := by
  have i1 : (61 * (60 * c + s) + t) / 3660 = c := by omega
  have i2 : (61 * (60 * c + s) + t) / 61 % 60 = s := by omega
  have i3 : (61 * (60 * c + s) + t) % 61 = t := by omega
  have := gn_up (f := fun k => if gs_w (tw T c s t) (k / 3660) (k / 61 % 60) (k % 61) = true then 1 else 0) (g := fun k => if gs_w T (k / 3660) (k / 61 % 60) (k % 61) = true then 1 else 0) (k := 61 * (60 * c + s) + t) 58560 (by omega) (fun i hi hne => by
    show (if (if i / 3660 = c ∧ i / 61 % 60 = s ∧ i % 61 = t then true else T.2.1 (i / 3660) (i / 61 % 60) (i % 61)) = true then 1 else 0) = _
    rw [if_neg (show ¬ (i / 3660 = c ∧ i / 61 % 60 = s ∧ i % 61 = t) from fun ⟨a, b, d⟩ => hne (by omega))])
  rw [i1, i2, i3, if_neg hn, if_pos (show gs_w (tw T c s t) c s t = true from if_pos ⟨rfl, rfl, rfl⟩)] at this
  unfold wc
  omega
theorem wc_bd : wc T ≤ 58560 := by
  have := gn_bd (f := fun k => if gs_w T (k / 3660) (k / 61 % 60) (k % 61) = true then 1 else 0) (c := 1) 58560 (fun i _ => by split <;> omega)
  unfold wc
  omega
end SP
