/-! the class: function, and what it answers of a program -/
section CR
variable {fu : Nat} {T T' : sT} {P P' P1 P1' R : sP} {fg fg' : Prop} {cur ip : Nat} {W W' : gw_T} {X : gx_H} {v : Bool}
theorem c_appN {c : Nat} (hc : c ≤ 8) (hD : gw_D W X) (hp : wi W ip 3) (h1 : (wO W ip).1 1 = nI c) {x : Int32} (no : ¬ ∃ n, rg x 1 200 n ∧ c < 8) : gm_X3_append fu (wA W ip) x X = some (none, X, 0, 0) := by
  have qp := gq_3 (wA W ip) (wO W ip) X
  rw [hD.k hp] at qp
  have r := rg_no (x := x) (b := 200) (by omega)
  unfold gm_X3_append
  rw [li200]
  by_cases h2 : x < 1
  · rw [if_pos h2]
  · rw [if_neg h2]
    by_cases h3 : nI 200 < x
    · rw [if_pos h3]
    · rw [if_neg h3]
      simp only [qp, Option.bind_some, h1]
      obtain ⟨n, hn⟩ := r.2.2 h2 (by
        rw [Int32.le_iff_toInt_le]
        rw [Int32.lt_iff_toInt_lt] at h3
        omega)
      rw [if_neg (by rw [li8]; exact fun q => no ⟨n, hn, (nI_ltI (by omega) (by omega)).mp q⟩)]
theorem bs_F {n : Nat} {b : go_O} (h : bfr (gp_c P) n b) : bs (pF P n) (gp_c P) b := by
  obtain ⟨h1, h2, h3, h4⟩ := h
  refine ⟨h1, ?_, ?_, fun i hi => ?_, fun k hk => ?_⟩
  · show b.1 6 = nI (go_u (gp_l P) (gp_c P) n (gp_c P))
    rw [go_u_s]
    exact h2
  · show b.1 7 = nI (go_u (gp_h P) (gp_c P) 0 (gp_c P))
    rw [go_u_s]
    exact h3
  · have hi : i < go_u (gp_l P) (gp_c P) n (gp_c P) := hi
    rw [go_u_s] at hi
    show mi b 1 i = nI (go_u (gp_k P) (gp_c P) (fun _ => 0) (gp_c P) i) ∧ mi b 2 i = nI (go_u (gp_n P) (gp_c P) (fun _ => 0) (gp_c P) i)
    rw [go_u_s, go_u_s]
    exact h4 i hi
  · have hk : k < go_u (gp_h P) (gp_c P) 0 (gp_c P) := hk
    rw [go_u_s] at hk
    omega
theorem bs_Fo {n g : Nat} {b : go_O} (hg : g ≠ gp_c P) (h : bs P g b) : bs (pF P n) g b := by
  have e1 : gp_l (pF P n) g = gp_l P g := go_u_n hg
  have e2 : gp_h (pF P n) g = gp_h P g := go_u_n hg
  have e3 : gp_k (pF P n) g = gp_k P g := go_u_n hg
  have e4 : gp_n (pF P n) g = gp_n P g := go_u_n hg
  unfold bs
  rw [e1, e2, e3, e4]
  exact h
set_option maxHeartbeats 1000000 in
theorem c_function (hS : SI T P fg P1) (hI : CI T P fg P1 cur W) (hD : gw_D W X) (hfu : 300 ≤ fu) (x : Int32) : ∃ X' W' a nc ns, gm_X5_function fu (wA W 0) x X = some (a, X', nc, ns) ∧ nc ≤ 9 ∧ ns ≤ 1033 ∧ gw_D W' X' ∧ W' 6 = W 6 ∧ wA W' 0 = wA W 0 ∧
    (((¬ ∃ n, rg x 1 200 n ∧ gp_c P < 8) ∧ a = -1 ∧ CI T P fg P1 cur W') ∨ (a = nI (gp_c P) ∧ ∃ n, rg x 1 200 n ∧ gp_c P < 8 ∧ CI T (pF P n) False P1 cur W')) := by
  have hc := hI.2.1
  have hc8 := hS.2.1.1
  have q0 := gq_5 (wA W 0) (wO W 0) X
  rw [hD.k hI.1.1] at q0
  have pc := hI.pv hc
  have hh := hI.2.2.2.2.2.1
  unfold gm_X5_function
  simp only [q0, Option.bind_some, hI.2.2.1.2.2.2.1]
  rw [gx_obT (hD.k pc.1)]
  by_cases yes : ∃ n, rg x 1 200 n ∧ gp_c P < 8
  · obtain ⟨n, hn, c8⟩ := yes
    obtain ⟨rfl, n1, n2⟩ := id hn
    obtain ⟨X', W', nc, ns, g1, g2, g3, g4, g5, g6, g7, g8, g9, g10, g11⟩ := c_append (fu := fu) hc hD c8 n1 n2 hfu pc hh.1
    have e0 := g5 0 (by omega) (by omega)
    have e2 := g5 2 (by omega) (by omega)
    have e3 := g5 3 (by omega) (by omega)
    obtain ⟨X2, k1, k2⟩ := c_note (fu := fu) (cur := cur) g4 (wi_eq e0 hI.1.1) g6.1 (by rw [wO_eq e0, g7]; exact hI.2.2.1.2.2.2.1) (by omega)
    rw [wA_eq e0] at k1
    rw [g1, gx_b4s, gx_nls, gx_obT (g4.k (wi_eq e0 hI.1.1 : wi W' 0 5) |> fun h => by rw [wA_eq e0] at h; exact h), k1, Option.bind_some]
    have xb : wn W' cur (8 * cur + gp_c P) = some (0, wA W' (8 * cur + gp_c P), wO W' (8 * cur + gp_c P)) := (wn_o (by omega) (by omega)).trans g10
    have qb := gq_0 (wA W' (8 * cur + gp_c P)) (wO W' (8 * cur + gp_c P)) X2
    rw [k2.k xb] at qb
    simp only [qb, Option.bind_some, g11.1, gx_ads]
    obtain ⟨y0, y0', y0''⟩ := wi_mk (wn_0 (W := W') (cur := cur))
    obtain ⟨yc, yc', yc''⟩ := wi_mk (wn_c (W := W') (cur := cur) (by omega))
    have xo : ∀ j, j ≠ 0 → j ≠ cur → wn W' cur j = W' j := fun j h1 h2 => wn_o h1 h2
    refine ⟨X2, wn W' cur, _, _, _, rfl, by omega, by omega, k2, (xo 6 (by omega) (by omega)).trans (g5 6 (by omega) (by omega)), y0'.trans (wA_eq e0), Or.inr ⟨rfl, n, hn, c8, CI_gen hI hc ⟨y0, y0'.trans (wA_eq e0), by rw [y0'', wO_eq e0]; rfl, by rw [y0'', gz_f (fun h => h)]; rfl⟩ ⟨wi_eq ((xo 2 (by omega) (by omega)).trans e2) hI.1.2.2.1, wA_eq ((xo 2 (by omega) (by omega)).trans e2), by rw [wO_eq ((xo 2 (by omega) (by omega)).trans e2)]; exact hI.2.2.2.1.1⟩ ⟨wi_eq ((xo 3 (by omega) (by omega)).trans e3) hI.1.2.2.2.1, wA_eq ((xo 3 (by omega) (by omega)).trans e3), by rw [wO_eq ((xo 3 (by omega) (by omega)).trans e3)]; exact hI.2.2.2.1.2⟩ (fun j h1 h2 h3 h4 h5 h6 => (xo j h1 h5).trans (g5 j h5 (by omega))) ⟨yc, fun f hf => ?_⟩ (yc'.trans g7) ⟨by rw [yc'']; exact g8, fun f hf => ?_, Or.inl (by rw [yc'']; rfl)⟩ False.elim⟩⟩
    · have eo := xo (8 * cur + f) (by omega) (by omega)
      rw [yc'', wA_eq eo, wO_eq eo]
      rcases g6.2 f hf with ⟨k1, k2⟩ | ⟨k1, k2, k3⟩
      · exact Or.inl ⟨k1, eo.trans k2⟩
      · exact Or.inr ⟨k1, wi_eq eo k2, k3⟩
    · have hf : f < gp_c P + 1 := hf
      have eo := xo (8 * cur + f) (by omega) (by omega)
      unfold wB
      rw [wO_eq eo]
      by_cases e : f = gp_c P
      · rw [e]
        rw [e] at eo
        exact ⟨wi_eq eo g10, bs_F g11⟩
      · have eo' := g5 (8 * cur + f) (by omega) (by omega)
        rw [wO_eq eo']
        exact ⟨wi_eq (eo.trans eo') (hh.2.1 f (by omega)).1, bs_Fo e (hh.2.1 f (by omega)).2⟩
  · rw [c_appN hc8 hD pc.1 hh.1 yes, gx_b4s, gx_nln]
    exact ⟨X, W, -1, 0, 0, rfl, by omega, by omega, hD, rfl, rfl, Or.inl ⟨yes, rfl, hI⟩⟩
/-- the program that is asked -/
theorem c_progOf (hI : CI T P fg P1 cur W) (hD : gw_D W X) : (∃ q R, sl P fg P1 v q R ∧ gm_X5_programOf fu (wA W 0) (b32 v) X = some (some (wA W (sip cur v)), X)) ∨ ((∀ q R, ¬ sl P fg P1 v q R) ∧ gm_X5_programOf fu (wA W 0) (b32 v) X = some (none, X)) := by
  have q0 := gq_5 (wA W 0) (wO W 0) X
  rw [hD.k hI.1.1] at q0
  unfold gm_X5_programOf
  cases v
  · rw [show b32 false = 0 from rfl, if_pos rfl]
    simp only [q0, Option.bind_some, hI.2.2.1.2.2.2.1]
    exact Or.inl ⟨0, P, Or.inl ⟨rfl, rfl, rfl⟩, rfl⟩
  · rw [show b32 true = 1 from rfl, if_neg (by decide)]
    simp only [q0, Option.bind_some, hI.2.2.1.2.2.2.2.2]
    by_cases g : fg
    · rw [gz_t g, if_neg (by decide)]
      simp only [q0, Option.bind_some, hI.2.2.1.2.2.2.2.1]
      exact Or.inl ⟨1, P1, Or.inr ⟨rfl, g, rfl, rfl⟩, rfl⟩
    · rw [gz_f g, if_pos rfl]
      refine Or.inr ⟨fun q R h => ?_, rfl⟩
      rcases h with ⟨h, -⟩ | ⟨-, h, -⟩
      · cases h
      · exact g h
theorem c_bodyAt {q : Nat} (hS : SI T P fg P1) (hI : CI T P fg P1 cur W) (hD : gw_D W X) (s : sl P fg P1 v q R) (x : Int32) : (gm_X3_body fu (wA W (sip cur v)) x X = some (none, X) ∧ ¬ ∃ f, wf1 R x f) ∨ ∃ f, wf1 R x f ∧ gm_X3_body fu (wA W (sip cur v)) x X = some (some (wA W (8 * sip cur v + f)), X) := by
  obtain ⟨hip, hph, hw⟩ := hI.sl hS s
  have hp := hI.pv hip
  rcases c_body (fu := fu) (hD.k hp.1) hph.1 (fun f hf => (ph_bd hp hph hw hf).1) hw x with ⟨h1, h2⟩ | ⟨f, h1, h2, h3⟩
  · exact Or.inl ⟨h1, h2⟩
  · exact Or.inr ⟨f, ⟨h1, h2⟩, h3⟩
/-- the world after a body has been settled: same places -/
theorem c_settledBody (hS : SI T P fg P1) (hI : CI T P fg P1 cur W) (hD : gw_D W X) (hfu : 1000000 ≤ fu) (x : Int32) : (∃ q R f X' W', sl P fg P1 v q R ∧ wf1 R x f ∧ gm_X5_settledBody fu (wA W 0) (b32 v) x X = some (some (wA W' (8 * sip cur v + f)), X') ∧ gw_D W' X' ∧ CI T P fg P1 cur W' ∧ W' 6 = W 6 ∧ wA W' 0 = wA W 0 ∧ wi W' (8 * sip cur v + f) 0 ∧ bs R f (wO W' (8 * sip cur v + f)) ∧ ba R f (wO W' (8 * sip cur v + f)) ∧ pst T R W' (sip cur v)) ∨
    ((∀ q R f, sl P fg P1 v q R → ¬ wf1 R x f) ∧ gm_X5_settledBody fu (wA W 0) (b32 v) x X = some (none, X)) := by
  have q0 := gq_5 (wA W 0) (wO W 0) X
  rw [hD.k hI.1.1] at q0
  unfold gm_X5_settledBody gm_X5_settledBody_19
  rw [gx_obT (hD.k hI.1.1)]
  rcases c_progOf (fu := fu) (v := v) hI hD with ⟨q, R, s, e⟩ | ⟨no, e⟩
  · rw [e, gx_b2s, gx_nls]
    obtain ⟨hip, hph, hw⟩ := hI.sl hS s
    have hp := hI.pv hip
    rw [gx_obT (hD.k hp.1)]
    rcases c_bodyAt (fu := fu) hS hI hD s x with ⟨e1, no⟩ | ⟨f, hf, e1⟩
    · rw [e1, gx_b2s, gx_nln]
      exact Or.inr ⟨fun q' R' f s' h => no ⟨f, by rw [(sl_un s s').2]; exact h⟩, rfl⟩
    · rw [e1, gx_b2s, gx_nls]
      simp only [q0, Option.bind_some, hI.2.2.1.2.1]
      obtain ⟨X', W', g1, g2, g3, g4, g5, g6, -, -, g7, g8, -⟩ := c_settle (fu := fu) hS hI hD s hfu
      rw [gx_obT (hD.k hI.1.2.2.1), g1, Option.bind_some]
      exact Or.inl ⟨q, R, f, X', W', s, hf, by rw [g5], g2, g3, g4, g5 0, (g7.2.1 f hf.2).1, (g7.2.1 f hf.2).2, g8.1 f hf.2, g8⟩
  · rw [e, gx_b2s, gx_nln, gx_nln]
    exact Or.inr ⟨fun q R f s _ => no q R s, rfl⟩
theorem c_may (hS : SI T P fg P1) (hI : CI T P fg P1 cur W) (hD : gw_D W X) (hfu : 1000000 ≤ fu) (x y : Int32) : ∃ X' W' a, gm_X5_may fu (wA W 0) (b32 v) x y X = some (a, X') ∧ gw_D W' X' ∧ CI T P fg P1 cur W' ∧ W' 6 = W 6 ∧ wA W' 0 = wA W 0 ∧ ((∃ q R f i, sl P fg P1 v q R ∧ wh R x y f i ∧ gl_is a (gl_m T R f i)) ∨ ((∀ q R f i, sl P fg P1 v q R → ¬ wh R x y f i) ∧ a = 0)) := by
  unfold gm_X5_may gm_X5_may_22
  rw [gx_obT (hD.k hI.1.1)]
  rcases c_settledBody (fu := fu) (v := v) hS hI hD hfu x with ⟨q, R, f, X', W', s, hf, e, hD', hI', h6, h0, hb, hs, ha, hst⟩ | ⟨no, e⟩
  · rw [e, gx_b2s, gx_nls]
    have hw := (hI.sl hS s).2.2
    have l2 := (hw.2 f hf.2).1.2
    have eb := hD'.k hb
    rw [gx_obT eb, c_hasI hs.2.1 l2 eb, gx_b2s]
    by_cases h : ∃ i, y = nI i ∧ i < gp_l R f
    · rw [gz_t h, if_neg (by decide)]
      obtain ⟨i, rfl, hi⟩ := h
      have qb := gq_0 (wA W' (8 * sip cur v + f)) (wO W' (8 * sip cur v + f)) X'
      rw [eb] at qb
      have r : i < 200 := by omega
      simp only [qb, r, Option.bind_some]
      exact ⟨X', W', _, rfl, hD', hI', h6, h0, Or.inl ⟨q, R, f, i, s, ⟨hf.1, hf.2, rfl, hi⟩, hst.2.1 f hf.2 i hi⟩⟩
    · rw [gz_f h, if_pos rfl]
      refine ⟨X', W', _, rfl, hD', hI', h6, h0, Or.inr ⟨fun q' R' f' i s' hh => ?_, rfl⟩⟩
      obtain ⟨-, rfl⟩ := sl_un s s'
      have := wf1_un hw hf ⟨hh.1, hh.2.1⟩
      subst this
      exact h ⟨i, hh.2.2.1, hh.2.2.2⟩
  · rw [e, gx_b2s, gx_nln]
    exact ⟨X, W, _, rfl, hD, hI, rfl, rfl, Or.inr ⟨fun q R f i s h => no q R f s ⟨h.1, h.2.1⟩, rfl⟩⟩
theorem c_set (hS : SI T P fg P1) (hI : CI T P fg P1 cur W) (hD : gw_D W X) (hfu : 1000000 ≤ fu) (x w : Int32) : ∃ X' W' a, gm_X5_set fu (wA W 0) (b32 v) x w X = some (a, X') ∧ gw_D W' X' ∧ CI T P fg P1 cur W' ∧ W' 6 = W 6 ∧ wA W' 0 = wA W 0 ∧ ((∃ q R f, sl P fg P1 v q R ∧ wf1 R x f ∧ stv T R f w a) ∨ ((∀ q R f, sl P fg P1 v q R → ¬ wf1 R x f) ∧ a = 0)) := by
  unfold gm_X5_set
  rw [gx_obT (hD.k hI.1.1)]
  rcases c_settledBody (fu := fu) (v := v) hS hI hD hfu x with ⟨q, R, f, X', W', s, hf, e, hD', hI', h6, h0, hb, hs, ha, hst⟩ | ⟨no, e⟩
  · rw [e, gx_b2s, gx_nls]
    have eb := hD'.k hb
    have qb := gq_0 (wA W' (8 * sip cur v + f)) (wO W' (8 * sip cur v + f)) X'
    rw [eb] at qb
    simp only [qb, Option.bind_some]
    obtain ⟨l1, l2, l3⟩ := hst.2.2 f hf.2
    have fin : ∀ {a}, stv T R f w a → ∃ X'' W'' a', some (a, X') = some (a', X'') ∧ gw_D W'' X'' ∧ CI T P fg P1 cur W'' ∧ W'' 6 = W 6 ∧ wA W'' 0 = wA W 0 ∧ ((∃ q R f, sl P fg P1 v q R ∧ wf1 R x f ∧ stv T R f w a') ∨ ((∀ q R f, sl P fg P1 v q R → ¬ wf1 R x f) ∧ a' = 0)) := fun {a} h => ⟨X', W', a, rfl, hD', hI', h6, h0, Or.inl ⟨q, R, f, s, hf, h⟩⟩
    unfold stv at fin
    by_cases w0 : w = 0
    · rw [if_pos w0]
      exact fin (by rw [if_pos w0]; exact l1)
    · rw [if_neg w0]
      by_cases w1 : w = 1
      · rw [if_pos w1]
        exact fin (by rw [if_neg w0, if_pos w1]; exact l2)
      · rw [if_neg w1]
        by_cases w2 : w = 2
        · rw [if_pos w2]
          exact fin (by rw [if_neg w0, if_neg w1, if_pos w2]; exact l3)
        · rw [if_neg w2]
          exact fin (by rw [if_neg w0, if_neg w1, if_neg w2])
  · rw [e, gx_b2s, gx_nln]
    exact ⟨X, W, _, rfl, hD, hI, rfl, rfl, Or.inr ⟨no, rfl⟩⟩
theorem c_size (hS : SI T P fg P1) (hI : CI T P fg P1 cur W) (hD : gw_D W X) (hfu : 1000000 ≤ fu) (x w : Int32) : ∃ X' W' a, gm_X5_size fu (wA W 0) (b32 v) x w X = some (a, X') ∧ gw_D W' X' ∧ CI T P fg P1 cur W' ∧ W' 6 = W 6 ∧ wA W' 0 = wA W 0 ∧ ((∃ q R f, sl P fg P1 v q R ∧ wf1 R x f ∧ a = szv T R f w) ∨ ((∀ q R f, sl P fg P1 v q R → ¬ wf1 R x f) ∧ a = -1)) := by
  unfold gm_X5_size
  rw [gx_obT (hD.k hI.1.1)]
  rcases c_settledBody (fu := fu) (v := v) hS hI hD hfu x with ⟨q, R, f, X', W', s, hf, e, hD', hI', h6, h0, hb, hs, ha, hst⟩ | ⟨no, e⟩
  · rw [e, gx_b2s, gx_nls]
    have hw := (hI.sl hS s).2.2
    have l2 := (hw.2 f hf.2).1.2
    have eb := hD'.k hb
    have qb := gq_0 (wA W' (8 * sip cur v + f)) (wO W' (8 * sip cur v + f)) X'
    rw [eb] at qb
    simp only [qb, Option.bind_some, hs.2.1, hs.2.2.1]
    have fin : ∀ {a}, a = szv T R f w → ∃ X'' W'' a', some (a, X') = some (a', X'') ∧ gw_D W'' X'' ∧ CI T P fg P1 cur W'' ∧ W'' 6 = W 6 ∧ wA W'' 0 = wA W 0 ∧ ((∃ q R f, sl P fg P1 v q R ∧ wf1 R x f ∧ a' = szv T R f w) ∨ ((∀ q R f, sl P fg P1 v q R → ¬ wf1 R x f) ∧ a' = -1)) := fun {a} h => ⟨X', W', a, rfl, hD', hI', h6, h0, Or.inl ⟨q, R, f, s, hf, h⟩⟩
    unfold szv at fin
    have cnt : ∀ k, k ≤ 8 → gm_X0_countOfKind fu (wA W' (8 * sip cur v + f)) (nI k) X' = some (nI (ck R f k), X') := fun k hk => c_cOK hw hf.2 hs eb hk (gp_l R f) fu 0 (by omega) (by omega)
    by_cases w0 : w = 0
    · rw [if_pos w0]
      exact fin (by rw [if_pos w0])
    · rw [if_neg w0]
      by_cases w1 : w = 1
      · rw [if_pos w1]
        exact fin (by rw [if_neg w0, if_pos w1])
      · rw [if_neg w1]
        by_cases w2 : w = 2
        · rw [if_pos w2, gx_obT eb, show (4 : Int32) = nI 4 from rfl, cnt 4 (by omega), gx_b2s]
          exact fin (by rw [if_neg w0, if_neg w1, if_pos w2])
        · rw [if_neg w2]
          by_cases w3 : w = 3
          · rw [if_pos w3, gx_obT eb, show (5 : Int32) = nI 5 from rfl, cnt 5 (by omega), gx_b2s]
            exact fin (by rw [if_neg w0, if_neg w1, if_neg w2, if_pos w3])
          · rw [if_neg w3]
            by_cases w4 : w = 4
            · rw [if_pos w4, gx_obT eb]
              unfold gm_X0_countReached
              rw [show gm_X0_countReached_4 fu fu (wA W' (8 * sip cur v + f)) 0 0 X' = _ from c_cR hw hf.2 hs eb (fun i hi => hst.2.1 f hf.2 i hi) (gp_l R f) fu 0 (by omega) (by omega), gx_b2s]
              exact fin (by rw [if_neg w0, if_neg w1, if_neg w2, if_neg w3, if_pos w4])
            · rw [if_neg w4]
              exact fin (by rw [if_neg w0, if_neg w1, if_neg w2, if_neg w3, if_neg w4])
  · rw [e, gx_b2s, gx_nln]
    exact ⟨X, W, _, rfl, hD, hI, rfl, rfl, Or.inr ⟨no, rfl⟩⟩
theorem c_range (hS : SI T P fg P1) (hI : CI T P fg P1 cur W) (hD : gw_D W X) (x y w : Int32) : ∃ a, gm_X5_range fu (wA W 0) (b32 v) x y w X = some (a, X) ∧ ((∃ q R f h, sl P fg P1 v q R ∧ wh1 R x y f h ∧ a = rgv R f h w) ∨ ((∀ q R f h, sl P fg P1 v q R → ¬ wh1 R x y f h) ∧ a = -1)) := by
  unfold gm_X5_range gm_X5_range_22
  rw [gx_obT (hD.k hI.1.1)]
  rcases c_progOf (fu := fu) (v := v) hI hD with ⟨q, R, s, e⟩ | ⟨no, e⟩
  · rw [e, gx_b2s, gx_nls]
    obtain ⟨hip, hph, hw⟩ := hI.sl hS s
    have hp := hI.pv hip
    rw [gx_obT (hD.k hp.1)]
    rcases c_bodyAt (fu := fu) hS hI hD s x with ⟨e1, no⟩ | ⟨f, hf, e1⟩
    · rw [e1, gx_b2s, gx_nln]
      exact ⟨_, rfl, Or.inr ⟨fun q' R' f h s' hh => no ⟨f, by rw [(sl_un s s').2]; exact ⟨hh.1, hh.2.1⟩⟩, rfl⟩⟩
    · rw [e1, gx_b2s, gx_nls]
      obtain ⟨b1, b2, b3⟩ := ph_bd hp hph hw hf.2
      have eb := hD.k b2
      have qb := gq_0 (wA W (8 * sip cur v + f)) (wO W (8 * sip cur v + f)) X
      rw [eb] at qb
      have h6 := (hw.2 f hf.2).2.1
      have hc := hw.1
      have bad : (∀ k, y = nI k → ¬ k < gp_h R f) → ∃ a, some ((-1 : Int32), X) = some (a, X) ∧ ((∃ q R f' h, sl P fg P1 v q R ∧ wh1 R x y f' h ∧ a = rgv R f' h w) ∨ ((∀ q R f' h, sl P fg P1 v q R → ¬ wh1 R x y f' h) ∧ a = -1)) := fun hb => ⟨_, rfl, Or.inr ⟨fun q' R' f' k s' hk => by
        obtain ⟨-, rfl⟩ := sl_un s s'
        have := wf1_un hw hf ⟨hk.1, hk.2.1⟩
        subst this
        exact hb k hk.2.2.1 hk.2.2.2, rfl⟩⟩
      by_cases y0 : y < 0
      · rw [if_pos y0]
        exact bad fun k e hk => absurd (e ▸ y0) (nI_pos (by omega))
      · rw [if_neg y0]
        obtain ⟨k, hk, rfl⟩ := nI_of y0
        simp only [qb, Option.bind_some, b3.2.2.1]
        by_cases kh : k < gp_h R f
        · rw [if_pos ((nI_ltI hk (by omega)).mpr kh)]
          have r : k < 6 := by omega
          obtain ⟨c1, c2, c3⟩ := b3.2.2.2.2 k kh
          simp only [qb, r, Option.bind_some, c1, c2, c3]
          have fin : ∀ {a}, a = rgv R f k w → ∃ a', some (a, X) = some (a', X) ∧ ((∃ q R f' h, sl P fg P1 v q R ∧ wh1 R x (nI k) f' h ∧ a' = rgv R f' h w) ∨ ((∀ q R f' h, sl P fg P1 v q R → ¬ wh1 R x (nI k) f' h) ∧ a' = -1)) := fun {a} ha => ⟨a, rfl, Or.inl ⟨q, R, f, k, s, ⟨hf.1, hf.2, rfl, kh⟩, ha⟩⟩
          unfold rgv at fin
          by_cases w0 : w = 0
          · rw [if_pos w0]
            exact fin (by rw [if_pos w0])
          · rw [if_neg w0]
            by_cases w1 : w = 1
            · rw [if_pos w1]
              exact fin (by rw [if_neg w0, if_pos w1])
            · rw [if_neg w1]
              by_cases w2 : w = 2
              · rw [if_pos w2]
                exact fin (by rw [if_neg w0, if_neg w1, if_pos w2])
              · rw [if_neg w2]
                exact fin (by rw [if_neg w0, if_neg w1, if_neg w2])
        · rw [if_neg (fun q => kh ((nI_ltI hk (by omega)).mp q))]
          refine bad fun k' e hk' => ?_
          have := nI_inj hk (by omega) e
          omega
  · rw [e, gx_b2s, gx_nln, gx_nln]
    exact ⟨_, rfl, Or.inr ⟨fun q R f h s _ => no q R s, rfl⟩⟩
theorem c_ins (hw : gp_wf R) (hp : pv W ip) (hh : ph T R W ip) (hD : gw_D W X) : ∀ (d n f : Nat), f + d = gp_c R → d < n → gm_X3_countInstructions_4 fu n (wA W ip) (nI (gn_s (gp_l R) f)) (nI f) X = some (nI (gn_s (gp_l R) (gp_c R)), X)
  | d, 0, f, _, hn => absurd hn (Nat.not_lt_zero _)
  | d, n + 1, f, hd, hn => by
    have hc := hw.1
    have qp := gq_3 (wA W ip) (wO W ip) X
    rw [hD.k hp.1] at qp
    rw [gm_X3_countInstructions_4]
    simp only [qp, Option.bind_some, hh.1]
    by_cases e0 : d = 0
    · rw [if_pos ((nI_leI (by omega) (by omega)).mpr (by omega)), show f = gp_c R by omega]
    · rw [if_neg (fun q => absurd ((nI_leI (by omega) (by omega)).mp q) (by omega)), gx_obT (hD.k hp.1)]
      have hf : f < gp_c R := by omega
      rcases c_body (fu := fu) (hD.k hp.1) hh.1 (fun f hf => (ph_bd hp hh hw hf).1) hw (nI f) with ⟨h1, h2⟩ | ⟨g, h1, h2, h3⟩
      · exact absurd ⟨f, rfl, hf⟩ h2
      · have := nI_inj (by omega) (by omega) h1
        subst this
        rw [h3, gx_b2s, gx_nls]
        obtain ⟨b1, b2, b3⟩ := ph_bd hp hh hw hf
        have qb := gq_0 (wA W (8 * ip + f)) (wO W (8 * ip + f)) X
        rw [hD.k b2] at qb
        simp only [qb, Option.bind_some, b3.2.1]
        unfold gm_X3_countInstructions_31
        rw [show nI f + 1 = nI (f + 1) from (nI_succ f).symm, nI_add]
        have ih := c_ins hw hp hh hD (d - 1) n (f + 1) (by omega) (by omega)
        rw [gn_ss] at ih
        exact ih
set_option maxHeartbeats 1000000 in
theorem c_look (hS : SI T P fg P1) (hI : CI T P fg P1 cur W) (hD : gw_D W X) (hfu : 100 ≤ fu) (w : Int32) : gm_X5_look fu (wA W 0) w X = some (lkv T P fg P1 w, X) := by
  have hc := hI.2.1
  have q0 := gq_5 (wA W 0) (wO W 0) X
  rw [hD.k hI.1.1] at q0
  have eT := hD.k hI.1.2.1
  have qT := gq_4 (wA W 1) (wO W 1) X
  rw [eT] at qT
  have pc := hI.pv hc
  have hh := hI.2.2.2.2.2.1
  have qc := gq_3 (wA W cur) (wO W cur) X
  rw [hD.k pc.1] at qc
  obtain ⟨r0, r1, r2, r3, r4, r5⟩ := hI.2.2.1
  unfold gm_X5_look lkv
  simp only [q0, qT, qc, Option.bind_some, r0, r3, r4, r5, hI.2.2.2.2.1.1.1, hI.2.2.2.2.1.2, hh.1]
  by_cases w0 : w = 0
  · rw [if_pos w0, if_pos w0]
  · rw [if_neg w0, if_neg w0]
    by_cases w1 : w = 1
    · rw [if_pos w1, if_pos w1]
    · rw [if_neg w1, if_neg w1]
      by_cases w2 : w = 2
      · rw [if_pos w2, if_pos w2]
      · rw [if_neg w2, if_neg w2]
        by_cases w3 : w = 3
        · rw [if_pos w3, if_pos w3]
          by_cases g : fg
          · rw [gz_t g, if_neg (by decide)]
          · rw [gz_f g, if_pos rfl]
        · rw [if_neg w3, if_neg w3]
          by_cases w4 : w = 4
          · rw [if_pos w4, if_pos w4, gx_obT (hD.k pc.1)]
            unfold gm_X3_countInstructions
            rw [show gm_X3_countInstructions_4 fu fu (wA W cur) 0 0 X = _ from c_ins hS.2.1 pc hh hD (gp_c P) fu 0 (by omega) (by have := hS.2.1.1; omega), gx_b2s]
          · rw [if_neg w4, if_neg w4]
            by_cases w5 : w = 5
            · rw [if_pos w5, if_pos w5]
              by_cases g : fg
              · have pb := hI.pv (show 9 - cur = 4 ∨ 9 - cur = 5 by omega)
                rw [gz_t g, if_neg (by decide), if_pos g, gx_obT (hD.k pb.1)]
                unfold gm_X3_countInstructions
                rw [show gm_X3_countInstructions_4 fu fu (wA W (9 - cur)) 0 0 X = _ from c_ins (hS.2.2 g).1 pb (hI.2.2.2.2.2.2 g) hD (gp_c P1) fu 0 (by omega) (by have := (hS.2.2 g).1.1; omega), gx_b2s]
              · rw [gz_f g, if_pos rfl, if_neg g]
            · rw [if_neg w5, if_neg w5]
              by_cases w6 : w = 6
              · rw [if_pos w6, if_pos w6, gx_obT eT, c_countAlways eT hI.2.2.2.2.1.1 (by omega), gx_b2s]
              · rw [if_neg w6, if_neg w6]
end CR
