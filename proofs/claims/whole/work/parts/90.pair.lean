/-! class and model, call by call -/
def IV (aG aM : Nat) (W : gw_T) (X : gx_H) : Prop := gw_D W X ∧ wA W 0 = aG ∧ ∃ T P fg P1 cur M, SI T P fg P1 ∧ CI T P fg P1 cur W ∧ W 6 = some (6, aM, M) ∧ MI T P fg P1 M
/-- a call of the class and one of the model answer the same -/
def PR {α : Type} (aG aM : Nat) (c : Option (α × gx_H)) (m : gx_H → Option (α × gx_H)) : Prop := ∃ a X' X'' W'', c = some (a, X') ∧ (∀ k : Option (Int32 × gx_H × Nat × Nat), gx_ob X' aM 6 k = k) ∧ m X' = some (a, X'') ∧ IV aG aM W'' X''
def PR4 {α : Type} (aG aM : Nat) (c : Option (α × gx_H × Nat × Nat)) (m : gx_H → Option (α × gx_H)) : Prop := ∃ a X' X'' W'' nc ns, c = some (a, X', nc, ns) ∧ nc ≤ 72 ∧ ns ≤ 8264 ∧ (∀ k : Option (Int32 × gx_H × Nat × Nat), gx_ob X' aM 6 k = k) ∧ m X' = some (a, X'') ∧ IV aG aM W'' X''
section PP
variable {fu aG aM : Nat} {T : sT} {P P1 : sP} {fg : Prop} {cur : Nat} {W W' : gw_T} {X X' : gx_H} {M M' : go_O} {v : Bool}
theorem IV_fin (hD : gw_D W X) (h0 : wA W 0 = aG) (h6 : W 6 = some (6, aM, M)) (hS : SI T P fg P1) (hI : CI T P fg P1 cur W) (hM : MI T P fg P1 M') : IV aG aM (go_u W 6 (some (6, aM, M'))) (go_k 6 aM M' X) :=
  ⟨hD.up h6 M', (wA_un (by omega)).trans h0, T, P, fg, P1, cur, M', hS, CI_ag hS.2.1 (fun q => (hS.2.2 q).1) (fun j hj => go_u_n hj) hI, go_u_s, hM⟩
theorem IV_ob (hD : gw_D W X) (h6 : W 6 = some (6, aM, M)) (k : Option (Int32 × gx_H × Nat × Nat)) : gx_ob X aM 6 k = k := gx_obT (hD.k h6) k
theorem p_begin (hfu : 1000000 ≤ fu) (h : IV aG aM W X) (x : Int32) : PR aG aM (gm_X5_begin fu aG x X) (gm_X6_begin fu aM x) := by
  obtain ⟨hD, rfl, T, P, fg, P1, cur, M, hS, hI, h6, hM⟩ := h
  obtain ⟨X', W', c1, c2, c3, c4, c5, c6⟩ := c_begin (fu := fu) hI hD (by omega) x
  have h6' := c3.trans h6
  obtain ⟨M', m1, m2, m3⟩ := m_begin (fu := fu) (z := aM) (X := X') hM (by omega) x
  rw [c2.k h6'] at m1
  by_cases y : ∃ n, rg x 1 60 n
  · obtain ⟨n, hn, hc⟩ := c6 y
    exact ⟨_, X', _, _, c1, IV_ob c2 h6', m1, IV_fin c2 c4 h6' ⟨t0_wf hn.2.1 hn.2.2, pZ_wf, False.elim⟩ hc (m3 n hn)⟩
  · exact ⟨_, X', _, _, c1, IV_ob c2 h6', m1, IV_fin c2 c4 h6' hS (c5 y) (m2 y)⟩
theorem p_way (h : IV aG aM W X) (x y v : Int32) : PR aG aM (gm_X5_way fu aG x y v X) (gm_X6_way fu aM x y v) := by
  obtain ⟨hD, rfl, T, P, fg, P1, cur, M, hS, hI, h6, hM⟩ := h
  obtain ⟨X', W', c1, c2, c3, c4, c5, c6⟩ := c_way (fu := fu) hS hI hD x y v
  have h6' := c3.trans h6
  obtain ⟨M', m1, m2, m3⟩ := m_way (fu := fu) (z := aM) (X := X') hM hS.1 hS.2.1 x y v
  rw [c2.k h6'] at m1
  by_cases yes : ∃ c s t, cb T x y v c s t ∧ ¬ gs_w T c s t = true
  · obtain ⟨c, s, t, hn, hnw, hc⟩ := c6 yes
    exact ⟨_, X', _, _, c1, IV_ob c2 h6', m1, IV_fin c2 c4 h6' ⟨tw_wf hS.1 hn, hS.2.1, False.elim⟩ hc (m3 c s t hn hnw)⟩
  · exact ⟨_, X', _, _, c1, IV_ob c2 h6', m1, IV_fin c2 c4 h6' hS (c5 yes) (m2 yes)⟩
theorem p_always (h : IV aG aM W X) (x : Int32) : PR aG aM (gm_X5_always fu aG x (b32 v) X) (gm_X6_always fu aM x (b32 v)) := by
  obtain ⟨hD, rfl, T, P, fg, P1, cur, M, hS, hI, h6, hM⟩ := h
  obtain ⟨X', W', c1, c2, c3, c4, c5, c6⟩ := c_always (fu := fu) hS hI hD x v
  have h6' := c3.trans h6
  obtain ⟨M', m1, m2, m3⟩ := m_always (fu := fu) (z := aM) (X := X') hM hS.2.1 x v
  rw [c2.k h6'] at m1
  by_cases yes : ∃ c, x = nI c ∧ c < 16 ∧ gs_n T c ≠ v
  · obtain ⟨c, e1, e2, e3, hc⟩ := c6 yes
    exact ⟨_, X', _, _, c1, IV_ob c2 h6', m1, IV_fin c2 c4 h6' ⟨ta_wf hS.1 c v, hS.2.1, False.elim⟩ hc (m3 c e1 e2 e3)⟩
  · exact ⟨_, X', _, _, c1, IV_ob c2 h6', m1, IV_fin c2 c4 h6' hS (c5 yes) (m2 yes)⟩
theorem p_function (hfu : 1000000 ≤ fu) (h : IV aG aM W X) (x : Int32) : PR4 aG aM (gm_X5_function fu aG x X) (gm_X6_function fu aM x) := by
  obtain ⟨hD, rfl, T, P, fg, P1, cur, M, hS, hI, h6, hM⟩ := h
  obtain ⟨X', W', a, nc, ns, c1, c2, c3, c4, c5, c6, c7⟩ := c_function (fu := fu) hS hI hD (by omega) x
  have h6' := c5.trans h6
  obtain ⟨M', ⟨b, m1, m4⟩, m2, m3⟩ := m_function (fu := fu) (z := aM) (X := X') hM hS.2.1 (by omega) x
  rw [c4.k h6'] at m1
  rcases c7 with ⟨no, rfl, hc⟩ | ⟨rfl, n, hn, h8, hc⟩
  · rcases m4 with ⟨-, rfl⟩ | ⟨y, -⟩
    · exact ⟨_, X', _, _, nc, ns, c1, by omega, by omega, IV_ob c4 h6', m1, IV_fin c4 c6 h6' hS hc (m2 no)⟩
    · exact absurd y no
  · rcases m4 with ⟨no, -⟩ | ⟨-, rfl⟩
    · exact absurd ⟨n, hn, h8⟩ no
    · exact ⟨_, X', _, _, nc, ns, c1, by omega, by omega, IV_ob c4 h6', m1, IV_fin c4 c6 h6' ⟨hS.1, pF_wf hS.2.1 h8 hn.2.1 hn.2.2, False.elim⟩ hc (m3 n hn h8)⟩
theorem p_code (h : IV aG aM W X) (x y v w : Int32) : PR aG aM (gm_X5_code fu aG x y v w X) (gm_X6_code fu aM x y v w) := by
  obtain ⟨hD, rfl, T, P, fg, P1, cur, M, hS, hI, h6, hM⟩ := h
  obtain ⟨X', W', c1, c2, c3, c4, c5, c6⟩ := c_code (fu := fu) hS hI hD x y v w
  have h6' := c3.trans h6
  obtain ⟨M', m1, m2, m3⟩ := m_code (fu := fu) (z := aM) (X := X') hM hS.2.1 x y v w
  rw [c2.k h6'] at m1
  by_cases yes : ∃ f i k n, cd P x y v w f i k n
  · obtain ⟨f, i, k, n, hn, hc⟩ := c6 yes
    exact ⟨_, X', _, _, c1, IV_ob c2 h6', m1, IV_fin c2 c4 h6' ⟨hS.1, pC_wf hS.2.1 hn.2.1 hn.2.2.2.1 hn.2.2.2.2.2.2, False.elim⟩ hc (m3 f i k n hn)⟩
  · exact ⟨_, X', _, _, c1, IV_ob c2 h6', m1, IV_fin c2 c4 h6' hS (c5 yes) (m2 yes)⟩
theorem p_handler (h : IV aG aM W X) (x y v w : Int32) : PR aG aM (gm_X5_handler fu aG x y v w X) (gm_X6_handler fu aM x y v w) := by
  obtain ⟨hD, rfl, T, P, fg, P1, cur, M, hS, hI, h6, hM⟩ := h
  obtain ⟨X', W', c1, c2, c3, c4, c5, c6⟩ := c_handler (fu := fu) hS hI hD x y v w
  have h6' := c3.trans h6
  obtain ⟨M', m1, m2, m3⟩ := m_handler (fu := fu) (z := aM) (X := X') hM hS.2.1 x y v w
  rw [c2.k h6'] at m1
  by_cases yes : ∃ f a b g, hd P x y v w f a b g
  · obtain ⟨f, a, b, g, hn, hc⟩ := c6 yes
    obtain ⟨-, k2, k3, -, -, k6, k7, -, k9⟩ := id hn
    exact ⟨_, X', _, _, c1, IV_ob c2 h6', m1, IV_fin c2 c4 h6' ⟨hS.1, pH_wf hS.2.1 k2 k3 k6 k7 k9, False.elim⟩ hc (m3 f a b g hn)⟩
  · exact ⟨_, X', _, _, c1, IV_ob c2 h6', m1, IV_fin c2 c4 h6' hS (c5 yes) (m2 yes)⟩
theorem p_forge (hfu : 1000000 ≤ fu) (h : IV aG aM W X) : PR4 aG aM (gm_X5_forge fu aG X) (gm_X6_forge fu aM) := by
  obtain ⟨hD, rfl, T, P, fg, P1, cur, M, hS, hI, h6, hM⟩ := h
  obtain ⟨P2, hF⟩ := isF_ex T P
  obtain ⟨X', W', a, nc, ns, c1, c2, c3, c4, c5, c6, c7⟩ := c_forge (fu := fu) hS hI hD hfu hF
  have h6' := c5.trans h6
  obtain ⟨M', b, m1, m2⟩ := m_forge (fu := fu) (z := aM) (X := X') hM hS (by omega)
  rw [c4.k h6'] at m1
  rcases c7 with ⟨ft, rfl, hc⟩ | ⟨no, rfl, hc⟩
  · rcases m2 with ⟨-, rfl, m3⟩ | ⟨no, -⟩
    · exact ⟨_, X', _, _, nc, ns, c1, c2, c3, IV_ob c4 h6', m1, IV_fin c4 c6 h6' ⟨hS.1, hS.2.1, fun _ => ⟨isF_wf hS.2.1 ft hF, ft⟩⟩ hc (m3 P2 hF)⟩
    · exact absurd ft no
  · rcases m2 with ⟨ft, -⟩ | ⟨-, rfl, m3⟩
    · exact absurd ft no
    · have ef : fg = False := propext ⟨fun q => no (hS.2.2 q).2, False.elim⟩
      subst ef
      exact ⟨_, X', _, _, nc, ns, c1, c2, c3, IV_ob c4 h6', m1, IV_fin c4 c6 h6' hS hc m3⟩
theorem p_take (hfu : 1000000 ≤ fu) (h : IV aG aM W X) : PR aG aM (gm_X5_take fu aG X) (gm_X6_take fu aM) := by
  obtain ⟨hD, rfl, T, P, fg, P1, cur, M, hS, hI, h6, hM⟩ := h
  obtain ⟨X', W', c1, c2, c3, c4, c5, c6⟩ := c_take (fu := fu) hS hI hD
  have h6' := c3.trans h6
  obtain ⟨M', m1, m2, m3⟩ := m_take (fu := fu) (z := aM) (X := X') hM hS (by omega)
  rw [c2.k h6'] at m1
  by_cases g : fg
  · exact ⟨_, X', _, _, c1, IV_ob c2 h6', m1, IV_fin c2 c4 h6' ⟨hS.1, (hS.2.2 g).1, False.elim⟩ (c6 g) (m3 g)⟩
  · exact ⟨_, X', _, _, c1, IV_ob c2 h6', m1, IV_fin c2 c4 h6' hS (c5 g) (m2 g)⟩
theorem p_certify (hfu : 1000000 ≤ fu) (h : IV aG aM W X) : PR aG aM (gm_X5_certify fu aG (b32 v) X) (gm_X6_certify fu aM (b32 v)) := by
  obtain ⟨hD, rfl, T, P, fg, P1, cur, M, hS, hI, h6, hM⟩ := h
  obtain ⟨X', W', a, c1, c2, c3, c4, c5, c6⟩ := c_certify (fu := fu) (v := v) hS hI hD hfu
  have h6' := c4.trans h6
  obtain ⟨M', b, m1, m2, m3⟩ := m_certify (fu := fu) (z := aM) (X := X') (v := v) hM hS (by omega)
  rw [c2.k h6'] at m1
  have ab : a = b := by
    rcases c6 with ⟨q, R, s, k⟩ | ⟨no, rfl⟩ <;> rcases m3 with ⟨q', R', s', k'⟩ | ⟨no', rfl⟩
    · obtain ⟨-, rfl⟩ := sl_un s s'
      exact cv_un k k'
    · exact absurd s (no' q R)
    · exact absurd s' (no q' R')
    · rfl
  subst ab
  exact ⟨_, X', _, _, c1, IV_ob c2 h6', m1, IV_fin c2 c5 h6' hS c3 m2⟩
theorem p_of (hfu : 1000000 ≤ fu) (h : IV aG aM W X) (x y w : Int32) : PR aG aM (gm_X5_of fu aG (b32 v) x y w X) (gm_X6_of fu aM (b32 v) x y w) := by
  obtain ⟨hD, rfl, T, P, fg, P1, cur, M, hS, hI, h6, hM⟩ := h
  obtain ⟨X', W', a, c1, c2, c3, c4, c5, c6⟩ := c_of (fu := fu) (v := v) hS hI hD hfu x y w
  have h6' := c4.trans h6
  obtain ⟨M', b, m1, m2, m3⟩ := m_of (fu := fu) (z := aM) (X := X') (v := v) hM hS (by omega) x y w
  rw [c2.k h6'] at m1
  have ab : a = b := by
    rcases c6 with ⟨q, R, f, i, s, k, e⟩ | ⟨no, rfl⟩ <;> rcases m3 with ⟨q', R', f', i', s', k', e'⟩ | ⟨no', rfl⟩
    · obtain ⟨-, rfl⟩ := sl_un s s'
      obtain ⟨rfl, rfl⟩ := wh_un (hI.sl hS s).2.2 k k'
      rw [e, e']
    · exact absurd k (no' q R f i s)
    · exact absurd k' (no q' R' f' i' s')
    · rfl
  subst ab
  exact ⟨_, X', _, _, c1, IV_ob c2 h6', m1, IV_fin c2 c5 h6' hS c3 m2⟩
theorem p_may (hfu : 1000000 ≤ fu) (h : IV aG aM W X) (x y : Int32) : PR aG aM (gm_X5_may fu aG (b32 v) x y X) (gm_X6_may fu aM (b32 v) x y) := by
  obtain ⟨hD, rfl, T, P, fg, P1, cur, M, hS, hI, h6, hM⟩ := h
  obtain ⟨X', W', a, c1, c2, c3, c4, c5, c6⟩ := c_may (fu := fu) (v := v) hS hI hD hfu x y
  have h6' := c4.trans h6
  obtain ⟨M', b, m1, m2, m3⟩ := m_may (fu := fu) (z := aM) (X := X') (v := v) hM hS (by omega) x y
  rw [c2.k h6'] at m1
  have ab : a = b := by
    rcases c6 with ⟨q, R, f, i, s, k, e⟩ | ⟨no, rfl⟩ <;> rcases m3 with ⟨q', R', f', i', s', k', e'⟩ | ⟨no', rfl⟩
    · obtain ⟨-, rfl⟩ := sl_un s s'
      obtain ⟨rfl, rfl⟩ := wh_un (hI.sl hS s).2.2 k k'
      exact e.eq e'
    · exact absurd k (no' q R f i s)
    · exact absurd k' (no q' R' f' i' s')
    · rfl
  subst ab
  exact ⟨_, X', _, _, c1, IV_ob c2 h6', m1, IV_fin c2 c5 h6' hS c3 m2⟩
theorem stv_un {R : sP} {f : Nat} {w : Int32} {a b : Int64} (h : stv T R f w a) (h' : stv T R f w b) : a = b := by
  unfold stv at h h'
  by_cases w0 : w = 0
  · rw [if_pos w0] at h h'
    exact h.eq h'
  · rw [if_neg w0] at h h'
    by_cases w1 : w = 1
    · rw [if_pos w1] at h h'
      exact h.eq h'
    · rw [if_neg w1] at h h'
      by_cases w2 : w = 2
      · rw [if_pos w2] at h h'
        exact h.eq h'
      · rw [if_neg w2] at h h'
        rw [h, h']
theorem p_set (hfu : 1000000 ≤ fu) (h : IV aG aM W X) (x w : Int32) : PR aG aM (gm_X5_set fu aG (b32 v) x w X) (gm_X6_set fu aM (b32 v) x w) := by
  obtain ⟨hD, rfl, T, P, fg, P1, cur, M, hS, hI, h6, hM⟩ := h
  obtain ⟨X', W', a, c1, c2, c3, c4, c5, c6⟩ := c_set (fu := fu) (v := v) hS hI hD hfu x w
  have h6' := c4.trans h6
  obtain ⟨M', b, m1, m2, m3⟩ := m_set (fu := fu) (z := aM) (X := X') (v := v) hM hS (by omega) x w
  rw [c2.k h6'] at m1
  have ab : a = b := by
    rcases c6 with ⟨q, R, f, s, k, e⟩ | ⟨no, rfl⟩ <;> rcases m3 with ⟨q', R', f', s', k', e'⟩ | ⟨no', rfl⟩
    · obtain ⟨-, rfl⟩ := sl_un s s'
      have := wf1_un (hI.sl hS s).2.2 k k'
      subst this
      exact stv_un e e'
    · exact absurd k (no' q R f s)
    · exact absurd k' (no q' R' f' s')
    · rfl
  subst ab
  exact ⟨_, X', _, _, c1, IV_ob c2 h6', m1, IV_fin c2 c5 h6' hS c3 m2⟩
theorem p_size (hfu : 1000000 ≤ fu) (h : IV aG aM W X) (x w : Int32) : PR aG aM (gm_X5_size fu aG (b32 v) x w X) (gm_X6_size fu aM (b32 v) x w) := by
  obtain ⟨hD, rfl, T, P, fg, P1, cur, M, hS, hI, h6, hM⟩ := h
  obtain ⟨X', W', a, c1, c2, c3, c4, c5, c6⟩ := c_size (fu := fu) (v := v) hS hI hD hfu x w
  have h6' := c4.trans h6
  obtain ⟨M', b, m1, m2, m3⟩ := m_size (fu := fu) (z := aM) (X := X') (v := v) hM hS (by omega) x w
  rw [c2.k h6'] at m1
  have ab : a = b := by
    rcases c6 with ⟨q, R, f, s, k, e⟩ | ⟨no, rfl⟩ <;> rcases m3 with ⟨q', R', f', s', k', e'⟩ | ⟨no', rfl⟩
    · obtain ⟨-, rfl⟩ := sl_un s s'
      have := wf1_un (hI.sl hS s).2.2 k k'
      subst this
      rw [e, e']
    · exact absurd k (no' q R f s)
    · exact absurd k' (no q' R' f' s')
    · rfl
  subst ab
  exact ⟨_, X', _, _, c1, IV_ob c2 h6', m1, IV_fin c2 c5 h6' hS c3 m2⟩
theorem p_range (h : IV aG aM W X) (x y w : Int32) : PR aG aM (gm_X5_range fu aG (b32 v) x y w X) (gm_X6_range fu aM (b32 v) x y w) := by
  obtain ⟨hD, rfl, T, P, fg, P1, cur, M, hS, hI, h6, hM⟩ := h
  obtain ⟨a, c1, c6⟩ := c_range (fu := fu) (v := v) hS hI hD x y w
  obtain ⟨b, m1, m3⟩ := m_range (fu := fu) (z := aM) (X := X) (v := v) hM hS x y w
  rw [hD.k h6] at m1
  have ab : a = b := by
    rcases c6 with ⟨q, R, f, i, s, k, e⟩ | ⟨no, rfl⟩ <;> rcases m3 with ⟨q', R', f', i', s', k', e'⟩ | ⟨no', rfl⟩
    · obtain ⟨-, rfl⟩ := sl_un s s'
      have hw := (hI.sl hS s).2.2
      have hc := hw.1
      obtain ⟨k1, k2, k3, k4⟩ := k
      obtain ⟨k1', k2', k3', k4'⟩ := k'
      have ef := wf1_un hw ⟨k1, k2⟩ ⟨k1', k2'⟩
      subst ef
      have h6 := (hw.2 f k2).2.1
      have ei := nI_inj (by omega) (by omega) (k3.symm.trans k3')
      subst ei
      rw [e, e']
    · exact absurd k (no' q R f i s)
    · exact absurd k' (no q' R' f' i' s')
    · rfl
  subst ab
  exact ⟨_, X, _, _, c1, IV_ob hD h6, m1, IV_fin hD rfl h6 hS hI (hM.s0 0)⟩
theorem p_goes (h : IV aG aM W X) (x y v : Int32) : PR aG aM (gm_X5_goes fu aG x y v X) (gm_X6_goes fu aM x y v) := by
  obtain ⟨hD, rfl, T, P, fg, P1, cur, M, hS, hI, h6, hM⟩ := h
  have c1 := c_goes (fu := fu) hS hI hD x y v
  have m1 := m_goes (fu := fu) (z := aM) (X := X) hM hS.1 x y v
  rw [hD.k h6] at m1
  exact ⟨_, X, _, _, c1, IV_ob hD h6, m1, IV_fin hD rfl h6 hS hI (hM.s0 0)⟩
theorem p_look (hfu : 1000000 ≤ fu) (h : IV aG aM W X) (w : Int32) : PR aG aM (gm_X5_look fu aG w X) (gm_X6_look fu aM w) := by
  obtain ⟨hD, rfl, T, P, fg, P1, cur, M, hS, hI, h6, hM⟩ := h
  have c1 := c_look (fu := fu) hS hI hD (by omega) w
  have m1 := m_look (fu := fu) (z := aM) (X := X) hM hS (by omega) w
  rw [hD.k h6] at m1
  exact ⟨_, X, _, _, c1, IV_ob hD h6, m1, IV_fin hD rfl h6 hS hI (hM.s0 0)⟩
end PP
