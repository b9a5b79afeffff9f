/-! the class: code, handler, function -/
section CQ
variable {fu : Nat} {T T' : sT} {P P' P1 P1' R : sP} {fg fg' : Prop} {cur ip : Nat} {W W' : gw_T} {X : gx_H}
theorem CI_gen (hI : CI T P fg P1 cur W) (hip : ip = 4 ∨ ip = 5) (h0 : wi W' 0 5 ∧ wA W' 0 = wA W 0 ∧ (wO W' 0).2.2.1 = (wO W 0).2.2.1 ∧ (wO W' 0).1 5 = gz fg') (h2 : wi W' 2 1 ∧ wA W' 2 = wA W 2 ∧ (wO W' 2).2.2.1 0 = some (wA W 1)) (h3 : wi W' 3 2 ∧ wA W' 3 = wA W 3 ∧ (wO W' 3).2.2.1 0 = some (wA W 1))
    (hj : ∀ j, j ≠ 0 → j ≠ 2 → j ≠ 3 → j ≠ 6 → j ≠ ip → (j < 8 * ip ∨ 8 * ip + 8 ≤ j) → W' j = W j) (hp : pv W' ip) (ha : wA W' ip = wA W ip) (e' : ph T P' W' cur) (f' : fg' → ph T P1' W' (9 - cur)) : CI T P' fg' P1' cur W' := by
  obtain ⟨⟨a0, a1, a2, a3, a4, a5⟩, hc, ⟨b0, b1, b2, b3, b4, b5⟩, ⟨c1, c2⟩, ⟨d1, d2⟩, e, f⟩ := hI
  have aA : wA W' cur = wA W cur ∧ wA W' (9 - cur) = wA W (9 - cur) := by
    by_cases q : ip = cur
    · exact ⟨by rw [← q]; exact ha, wA_eq (hj _ (by omega) (by omega) (by omega) (by omega) (by omega) (by omega))⟩
    · exact ⟨wA_eq (hj _ (by omega) (by omega) (by omega) (by omega) (by omega) (by omega)), by rw [show 9 - cur = ip by omega]; exact ha⟩
  have pvo : ∀ k, k = 4 ∨ k = 5 → pv W k → pv W' k := fun k hk h => by
    by_cases q : k = ip
    · rw [q]
      exact hp
    · exact pv_eq hk (hj _ (by omega) (by omega) (by omega) (by omega) (by omega) (by omega)) (fun g hg => hj _ (by omega) (by omega) (by omega) (by omega) (by omega) (by omega)) h
  have e1 := hj 1 (by omega) (by omega) (by omega) (by omega) (by omega) (by omega)
  refine ⟨⟨h0.1, wi_eq e1 a1, h2.1, h3.1, pvo 4 (by omega) a4, pvo 5 (by omega) a5⟩, hc, ?_, ?_, ?_, e', f'⟩
  · rw [h0.2.2.1, wA_eq e1, h2.2.1, h3.2.1, aA.1, aA.2]
    exact ⟨b0, b1, b2, b3, b4, h0.2.2.2⟩
  · rw [wA_eq e1]
    exact ⟨h2.2.2, h3.2.2⟩
  · rw [wO_eq e1]
    exact ⟨d1, d2⟩
/-- one body changed, and the note of it -/
theorem CI_bod (hS : SI T P fg P1) (hI : CI T P fg P1 cur W) (hD : gw_D W X) {f : Nat} {b' : go_O} (hf : f < gp_c P) (hc' : gp_c P' = gp_c P) (hb : bs P' f b') (hne : ∀ g b, g ≠ f → bs P g b → bs P' g b) : ∃ X', gm_X5_noteChange fu (wA W 0) (go_k 0 (wA W (8 * cur + f)) b' X) = some X' ∧ gw_D (wn (go_u W (8 * cur + f) (some (0, wA W (8 * cur + f), b'))) cur) X' ∧ CI T P' False P1 cur (wn (go_u W (8 * cur + f) (some (0, wA W (8 * cur + f), b'))) cur) := by
  have hc := hI.2.1
  have hc8 := hS.2.1.1
  have pc := hI.pv hc
  have hh := hI.2.2.2.2.2.1
  have bd := ph_bd pc hh hS.2.1 hf
  have hD1 := hD.up bd.2.1 b'
  obtain ⟨X', n1, n2⟩ := c_note (fu := fu) (cur := cur) hD1 (wi_un (by omega) hI.1.1) (wi_un (by omega) pc.1) (by rw [wO_un (by omega), wA_un (by omega)]; exact hI.2.2.1.2.2.2.1) (by omega)
  rw [wA_un (by omega)] at n1
  generalize hW : wn (go_u W (8 * cur + f) (some (0, wA W (8 * cur + f), b'))) cur = W2 at n2 ⊢
  have x0 : W2 0 = some (5, wA W 0, go_si (wO W 0) 5 0) := by rw [← hW, wn_0, wA_un (by omega), wO_un (by omega)]
  have xc : W2 cur = some (3, wA W cur, go_si (wO W cur) 2 0) := by rw [← hW, wn_c (by omega), wA_un (by omega), wO_un (by omega)]
  have xf : W2 (8 * cur + f) = some (0, wA W (8 * cur + f), b') := by rw [← hW, wn_o (by omega) (by omega), go_u_s]
  have xo : ∀ j, j ≠ 0 → j ≠ cur → j ≠ 8 * cur + f → W2 j = W j := fun j h1 h2 h3 => by rw [← hW, wn_o h1 h2, go_u_n h3]
  obtain ⟨y0, y0', y0''⟩ := wi_mk x0
  obtain ⟨yc, yc', yc''⟩ := wi_mk xc
  obtain ⟨yf, yf', yf''⟩ := wi_mk xf
  refine ⟨X', n1, n2, CI_gen hI hc ⟨y0, y0', by rw [y0'']; rfl, by rw [y0'', gz_f (fun h => h)]; rfl⟩ ⟨wi_eq (xo 2 (by omega) (by omega) (by omega)) hI.1.2.2.1, wA_eq (xo 2 (by omega) (by omega) (by omega)), by rw [wO_eq (xo 2 (by omega) (by omega) (by omega))]; exact hI.2.2.2.1.1⟩ ⟨wi_eq (xo 3 (by omega) (by omega) (by omega)) hI.1.2.2.2.1, wA_eq (xo 3 (by omega) (by omega) (by omega)), by rw [wO_eq (xo 3 (by omega) (by omega) (by omega))]; exact hI.2.2.2.1.2⟩ (fun j h1 h2 h3 h4 h5 h6 => xo j h1 h5 (by omega)) ⟨yc, fun g hg => ?_⟩ yc' ⟨by rw [yc'', hc']; exact hh.1, fun g hg => ?_, Or.inl (by rw [yc'']; rfl)⟩ False.elim⟩
  · rw [yc'']
    by_cases e : g = f
    · rw [e, yf', yf'']
      exact Or.inr ⟨bd.1, yf, hb.1⟩
    · have eo := xo (8 * cur + g) (by omega) (by omega) (by omega)
      rw [wA_eq eo, wO_eq eo]
      rcases pc.2 g hg with ⟨k1, k2⟩ | ⟨k1, k2, k3⟩
      · exact Or.inl ⟨k1, eo.trans k2⟩
      · exact Or.inr ⟨k1, wi_eq eo k2, k3⟩
  · rw [hc'] at hg
    by_cases e : g = f
    · rw [e]
      refine ⟨yf, ?_⟩
      unfold wB
      rw [yf'']
      exact hb
    · have eo := xo (8 * cur + g) (by omega) (by omega) (by omega)
      refine ⟨wi_eq eo (hh.2.1 g hg).1, ?_⟩
      unfold wB
      rw [wO_eq eo]
      exact hne g _ e (hh.2.1 g hg).2
theorem c_cur (hS : SI T P fg P1) (hI : CI T P fg P1 cur W) (hD : gw_D W X) (x : Int32) : (gm_X3_body fu (wA W cur) x X = some (none, X) ∧ ¬ ∃ f, x = nI f ∧ f < gp_c P) ∨ ∃ f, x = nI f ∧ f < gp_c P ∧ gm_X3_body fu (wA W cur) x X = some (some (wA W (8 * cur + f)), X) := by
  have pc := hI.pv hI.2.1
  have hh := hI.2.2.2.2.2.1
  exact c_body (hD.k pc.1) hh.1 (fun f hf => (ph_bd pc hh hS.2.1 hf).1) hS.2.1 x
set_option maxHeartbeats 1000000 in
theorem c_code (hS : SI T P fg P1) (hI : CI T P fg P1 cur W) (hD : gw_D W X) (x y v w : Int32) : ∃ X' W', gm_X5_code fu (wA W 0) x y v w X = some (gz (∃ f i k n, cd P x y v w f i k n), X') ∧ gw_D W' X' ∧ W' 6 = W 6 ∧ wA W' 0 = wA W 0 ∧
    ((¬ ∃ f i k n, cd P x y v w f i k n) → CI T P fg P1 cur W') ∧ ((∃ f i k n, cd P x y v w f i k n) → ∃ f i k n, cd P x y v w f i k n ∧ CI T (pC P f i k n) False P1 cur W') := by
  have hc := hI.2.1
  have hw := hS.2.1
  have hc8 := hw.1
  have q0 := gq_5 (wA W 0) (wO W 0) X
  rw [hD.k hI.1.1] at q0
  have pc := hI.pv hc
  have hh := hI.2.2.2.2.2.1
  have no : (¬ ∃ f i k n, cd P x y v w f i k n) → ∃ X' W', some ((0 : Int32), X) = some (gz (∃ f i k n, cd P x y v w f i k n), X') ∧ gw_D W' X' ∧ W' 6 = W 6 ∧ wA W' 0 = wA W 0 ∧ ((¬ ∃ f i k n, cd P x y v w f i k n) → CI T P fg P1 cur W') ∧ ((∃ f i k n, cd P x y v w f i k n) → ∃ f i k n, cd P x y v w f i k n ∧ CI T (pC P f i k n) False P1 cur W') := fun h => ⟨X, W, by rw [gz_f h], hD, rfl, rfl, fun _ => hI, fun q => absurd q h⟩
  unfold gm_X5_code
  simp only [q0, Option.bind_some, hI.2.2.1.2.2.2.1]
  rw [gx_obT (hD.k pc.1)]
  rcases c_cur (fu := fu) hS hI hD x with ⟨e, h⟩ | ⟨f, rfl, hf, e⟩
  · rw [e, gx_b2s, gx_nln]
    exact no fun ⟨f, i, k, n, h1, h2, _⟩ => h ⟨f, h1, h2⟩
  · rw [e, gx_b2s, gx_nls]
    obtain ⟨b1, b2, b3⟩ := ph_bd pc hh hw hf
    have eb := hD.k b2
    have l2 := (hw.2 f hf).1.2
    rw [gx_obT eb, c_hasI b3.2.1 l2 eb, gx_b2s]
    have un : ∀ {f' i k n}, cd P (nI f) y v w f' i k n → f = f' := fun h => nI_inj (by omega) (by have := h.2.1; omega) h.1
    by_cases h1 : ∃ i, y = nI i ∧ i < gp_l P f
    · rw [gz_t h1, if_neg (by decide), gx_obT eb, c_canHold hw hf b3 eb, gx_b2s]
      obtain ⟨i, rfl, hi⟩ := h1
      by_cases h2 : ∃ k n, v = nI k ∧ w = nI n ∧ gp_ok P f k n
      · rw [gz_t h2, if_neg (by decide), gx_obT eb]
        obtain ⟨k, n, rfl, rfl, hok⟩ := h2
        have cp := c_put (fu := fu) (a := wA W (8 * cur + f)) (b := wO W (8 * cur + f)) (X := X) (i := i) (by omega) (nI k) (nI n)
        rw [eb] at cp
        rw [cp, Option.bind_some]
        have yes : cd P (nI f) (nI i) (nI k) (nI n) f i k n := ⟨rfl, hf, rfl, hi, rfl, rfl, hok⟩
        have hb : bs (pC P f i k n) f (go_ai (go_ai (wO W (8 * cur + f)) 1 i (nI k)) 2 i (nI n)) := by
          obtain ⟨s1, s2, s3, s4, s5⟩ := b3
          refine ⟨s1, s2, s3, fun j hj => ?_, s5⟩
          show mi _ 1 j = nI (go_w (gp_k P) f i k f j) ∧ mi _ 2 j = nI (go_w (gp_n P) f i n f j)
          rw [go_w_e, go_w_e]
          by_cases ej : j = i
          · rw [if_pos ⟨rfl, ej⟩, if_pos ⟨rfl, ej⟩, mi_ai, if_neg (by omega), mi_ai, if_pos ⟨rfl, ej⟩, mi_ai, if_pos ⟨rfl, ej⟩]
            exact ⟨rfl, rfl⟩
          · rw [if_neg fun q => ej q.2, if_neg fun q => ej q.2, mi_ai, if_neg (by omega), mi_ai, if_neg (by omega), mi_ai, if_neg (by omega), mi_ai, if_neg (by omega)]
            exact s4 j hj
        have hne : ∀ g b, g ≠ f → bs P g b → bs (pC P f i k n) g b := fun g b hg hb => by
          obtain ⟨s1, s2, s3, s4, s5⟩ := hb
          refine ⟨s1, s2, s3, fun j hj => ?_, s5⟩
          show mi _ 1 j = nI (go_w (gp_k P) f i k g j) ∧ mi _ 2 j = nI (go_w (gp_n P) f i n g j)
          rw [go_w_e, go_w_e, if_neg fun q => hg q.1, if_neg fun q => hg q.1]
          exact s4 j hj
        obtain ⟨X', n1, n2, n3⟩ := CI_bod (fu := fu) (P' := pC P f i k n) hS hI hD hf rfl hb hne
        rw [gx_obT ((hD.up b2 _).k ((go_u_n (by omega)).trans hI.1.1)), n1, Option.bind_some]
        refine ⟨X', _, by rw [gz_t ⟨f, i, k, n, yes⟩], n2, ?_, ?_, fun q => absurd ⟨f, i, k, n, yes⟩ q, fun _ => ⟨f, i, k, n, yes, n3⟩⟩
        · rw [wn_o (by omega) (by omega), go_u_n (by omega)]
        · rw [(wi_mk wn_0).2.1, wA_un (by omega)]
      · rw [gz_f h2, if_pos rfl]
        refine no ?_
        rintro ⟨f', i', k, n, h⟩
        have := un h
        subst this
        exact h2 ⟨k, n, h.2.2.2.2.1, h.2.2.2.2.2.1, h.2.2.2.2.2.2⟩
    · rw [gz_f h1, if_pos rfl]
      refine no ?_
      rintro ⟨f', i', k, n, h⟩
      have := un h
      subst this
      exact h1 ⟨i', h.2.2.1, h.2.2.2.1⟩
set_option maxHeartbeats 1000000 in
theorem c_handler (hS : SI T P fg P1) (hI : CI T P fg P1 cur W) (hD : gw_D W X) (x y v w : Int32) : ∃ X' W', gm_X5_handler fu (wA W 0) x y v w X = some (gz (∃ f a b g, hd P x y v w f a b g), X') ∧ gw_D W' X' ∧ W' 6 = W 6 ∧ wA W' 0 = wA W 0 ∧
    ((¬ ∃ f a b g, hd P x y v w f a b g) → CI T P fg P1 cur W') ∧ ((∃ f a b g, hd P x y v w f a b g) → ∃ f a b g, hd P x y v w f a b g ∧ CI T (pH P f a b g) False P1 cur W') := by
  have hc := hI.2.1
  have hw := hS.2.1
  have hc8 := hw.1
  have q0 := gq_5 (wA W 0) (wO W 0) X
  rw [hD.k hI.1.1] at q0
  have pc := hI.pv hc
  have hh := hI.2.2.2.2.2.1
  have no : (¬ ∃ f a b g, hd P x y v w f a b g) → ∃ X' W', some ((0 : Int32), X) = some (gz (∃ f a b g, hd P x y v w f a b g), X') ∧ gw_D W' X' ∧ W' 6 = W 6 ∧ wA W' 0 = wA W 0 ∧ ((¬ ∃ f a b g, hd P x y v w f a b g) → CI T P fg P1 cur W') ∧ ((∃ f a b g, hd P x y v w f a b g) → ∃ f a b g, hd P x y v w f a b g ∧ CI T (pH P f a b g) False P1 cur W') := fun h => ⟨X, W, by rw [gz_f h], hD, rfl, rfl, fun _ => hI, fun q => absurd q h⟩
  unfold gm_X5_handler
  simp only [q0, Option.bind_some, hI.2.2.1.2.2.2.1]
  rw [gx_obT (hD.k pc.1)]
  rcases c_cur (fu := fu) hS hI hD x with ⟨e, h⟩ | ⟨f, rfl, hf, e⟩
  · rw [e, gx_b2s, gx_nln]
    exact no fun ⟨f, i, k, n, h1, h2, _⟩ => h ⟨f, h1, h2⟩
  · rw [e, gx_b2s, gx_nls]
    obtain ⟨b1, b2, b3⟩ := ph_bd pc hh hw hf
    have eb := hD.k b2
    obtain ⟨⟨l1, l2⟩, l6, -, -⟩ := hw.2 f hf
    rw [gx_obT eb, c_canHandle hw hf b3 eb, gx_b2s]
    have un : ∀ {f' a b g}, hd P (nI f) y v w f' a b g → f = f' := fun h => nI_inj (by omega) (by have := h.2.1; omega) h.1
    by_cases h1 : ∃ i j g, gp_h P f < 6 ∧ y = nI i ∧ v = nI j ∧ i < j ∧ j ≤ gp_l P f ∧ w = nI g ∧ g < gp_l P f
    · rw [gz_t h1, if_neg (by decide), gx_obT eb]
      obtain ⟨i, j, g, h6, rfl, rfl, hij, hjl, rfl, hg⟩ := h1
      have yes : hd P (nI f) (nI i) (nI j) (nI g) f i j g := ⟨rfl, hf, h6, rfl, rfl, hij, hjl, rfl, hg⟩
      have cp := c_addHandler (fu := fu) (a := wA W (8 * cur + f)) (b := wO W (8 * cur + f)) (X := X) h6 b3.2.2.1 (nI i) (nI j) (nI g)
      rw [eb] at cp
      rw [cp, Option.bind_some]
      have hb : bs (pH P f i j g) f (go_si (go_ai (go_ai (go_ai (wO W (8 * cur + f)) 3 (gp_h P f) (nI i)) 4 (gp_h P f) (nI j)) 5 (gp_h P f) (nI g)) 7 (nI (gp_h P f + 1))) := by
        obtain ⟨s1, s2, s3, s4, s5⟩ := b3
        refine ⟨s1, s2, ?_, s4, fun k hk => ?_⟩
        · show nI (gp_h P f + 1) = nI (go_u (gp_h P) f (gp_h P f + 1) f)
          rw [go_u_s]
        · have hk : k < go_u (gp_h P) f (gp_h P f + 1) f := hk
          rw [go_u_s] at hk
          show mi (go_ai (go_ai (go_ai (wO W (8 * cur + f)) 3 (gp_h P f) (nI i)) 4 (gp_h P f) (nI j)) 5 (gp_h P f) (nI g)) 3 k = nI (go_w (gp_a P) f (gp_h P f) i f k) ∧ mi (go_ai (go_ai (go_ai (wO W (8 * cur + f)) 3 (gp_h P f) (nI i)) 4 (gp_h P f) (nI j)) 5 (gp_h P f) (nI g)) 4 k = nI (go_w (gp_b P) f (gp_h P f) j f k) ∧ mi (go_ai (go_ai (go_ai (wO W (8 * cur + f)) 3 (gp_h P f) (nI i)) 4 (gp_h P f) (nI j)) 5 (gp_h P f) (nI g)) 5 k = nI (go_w (gp_g P) f (gp_h P f) g f k)
          refine ⟨?_, ?_, ?_⟩
          · rw [go_w_e, mi_ai, if_neg (by omega), mi_ai, if_neg (by omega), mi_ai]
            by_cases ek : k = gp_h P f
            · rw [if_pos ⟨rfl, ek⟩, if_pos ⟨rfl, ek⟩]
            · rw [if_neg fun q => ek q.2, if_neg fun q => ek q.2]
              exact (s5 k (by omega)).1
          · rw [go_w_e, mi_ai, if_neg (by omega), mi_ai]
            by_cases ek : k = gp_h P f
            · rw [if_pos ⟨rfl, ek⟩, if_pos ⟨rfl, ek⟩]
            · rw [if_neg fun q => ek q.2, mi_ai, if_neg (by omega), if_neg fun q => ek q.2]
              exact (s5 k (by omega)).2.1
          · rw [go_w_e, mi_ai]
            by_cases ek : k = gp_h P f
            · rw [if_pos ⟨rfl, ek⟩, if_pos ⟨rfl, ek⟩]
            · rw [if_neg fun q => ek q.2, mi_ai, if_neg (by omega), mi_ai, if_neg (by omega), if_neg fun q => ek q.2]
              exact (s5 k (by omega)).2.2
      have hne : ∀ g' b, g' ≠ f → bs P g' b → bs (pH P f i j g) g' b := fun g' b hg' hb => by
        obtain ⟨s1, s2, s3, s4, s5⟩ := hb
        have eh : go_u (gp_h P) f (gp_h P f + 1) g' = gp_h P g' := go_u_n hg'
        refine ⟨s1, s2, ?_, s4, fun k hk => ?_⟩
        · show b.1 7 = nI (go_u (gp_h P) f (gp_h P f + 1) g')
          rw [eh]
          exact s3
        · have hk : k < go_u (gp_h P) f (gp_h P f + 1) g' := hk
          rw [eh] at hk
          show mi b 3 k = nI (go_w (gp_a P) f (gp_h P f) i g' k) ∧ mi b 4 k = nI (go_w (gp_b P) f (gp_h P f) j g' k) ∧ mi b 5 k = nI (go_w (gp_g P) f (gp_h P f) g g' k)
          rw [go_w_e, go_w_e, go_w_e, if_neg fun q => hg' q.1, if_neg fun q => hg' q.1, if_neg fun q => hg' q.1]
          exact s5 k hk
      obtain ⟨X', n1, n2, n3⟩ := CI_bod (fu := fu) (P' := pH P f i j g) hS hI hD hf rfl hb hne
      rw [gx_obT ((hD.up b2 _).k ((go_u_n (by omega)).trans hI.1.1)), n1, Option.bind_some]
      refine ⟨X', _, by rw [gz_t ⟨f, i, j, g, yes⟩], n2, ?_, ?_, fun q => absurd ⟨f, i, j, g, yes⟩ q, fun _ => ⟨f, i, j, g, yes, n3⟩⟩
      · rw [wn_o (by omega) (by omega), go_u_n (by omega)]
      · rw [(wi_mk wn_0).2.1, wA_un (by omega)]
    · rw [gz_f h1, if_pos rfl]
      refine no ?_
      rintro ⟨f', i', k, n, h⟩
      have := un h
      subst this
      obtain ⟨-, -, g3, g4, g5, g6, g7, g8, g9⟩ := h
      exact h1 ⟨i', k, n, g3, g4, g5, g6, g7, g8, g9⟩
theorem gx_b4s {α β γ : Type} (a : α) (b : β) (c d : Nat) (k : α → β → Nat → Nat → Option γ) : gx_b4 (some (a, b, c, d)) k = k a b c d := rfl
theorem gx_ads {α β : Type} (c s : Nat) (a : α) (b : β) (c' s' : Nat) : gx_ad c s (some (a, b, c', s')) = some (a, b, c + c', s + s') := rfl
theorem gi_nw {a ci k : Nat} {e : gx_E} (h : a ≠ X.2) : gx_gi (gx_nw X e) a ci k = gx_gi X a ci k := by
  unfold gx_gi gx_gf gx_nw gx_up
  dsimp only
  rw [if_neg h]
/-- a fresh body -/
def bfr (c n : Nat) (b : go_O) : Prop := b.1 0 = nI c ∧ b.1 6 = nI n ∧ b.1 7 = 0 ∧ ∀ j, j < n → mi b 1 j = 0 ∧ mi b 2 j = 0
theorem c_ap59 (hip : ip = 4 ∨ ip = 5) (hD : gw_D W X) {c n : Nat} (hc : c < 8) (hn : n ≤ 200) (hfu : 300 ≤ fu) (hp : wi W ip 3) (h1 : (wO W ip).1 1 = nI c) (hb : wi W (8 * ip + c) 0) (hb0 : (wO W (8 * ip + c)).1 0 = nI c) :
    ∃ X' W', gm_X3_append_59 fu (wA W ip) (nI n) (some (wA W (8 * ip + c))) X = some (some (wA W (8 * ip + c)), X', 0, 0) ∧ gw_D W' X' ∧ (∀ j, j ≠ ip → j ≠ 8 * ip + c → W' j = W j) ∧ W' ip = some (3, wA W ip, go_si (go_si (wO W ip) 1 (nI (c + 1))) 2 0) ∧ ∃ b', W' (8 * ip + c) = some (0, wA W (8 * ip + c), b') ∧ bfr c n b' := by
  unfold gm_X3_append_59
  obtain ⟨b', g1, g2, g3, g4, g5⟩ := c_renew0 (fu := fu) (a := wA W (8 * ip + c)) (b := wO W (8 * ip + c)) (X := X) hn hfu
  rw [hD.k hb] at g1
  rw [Option.bind_some, gx_obT (hD.k hb), g1, Option.bind_some]
  have hD1 := hD.up hb b'
  have wp : go_u W (8 * ip + c) (some (0, wA W (8 * ip + c), b')) ip = some (3, wA W ip, wO W ip) := (go_u_n (by omega)).trans hp
  have qp := gq_3 (wA W ip) (wO W ip) (go_k 0 (wA W (8 * ip + c)) b' X)
  rw [hD1.k wp] at qp
  simp only [qp, Option.bind_some, h1, gq_3]
  have hD2 := hD1.up wp (go_si (go_si (wO W ip) 1 (nI (c + 1))) 2 0)
  refine ⟨_, _, ?_, hD2, fun j j1 j2 => ?_, go_u_s, b', ?_, g2.trans hb0, g3, g4, g5⟩
  · rw [show nI c + 1 = nI (c + 1) from (nI_succ c).symm]
  · rw [go_u_n j1, go_u_n j2]
  · rw [go_u_n (by omega), go_u_s]
set_option maxHeartbeats 1000000 in
theorem c_append (hip : ip = 4 ∨ ip = 5) (hD : gw_D W X) {c n : Nat} (hc : c < 8) (hn1 : 1 ≤ n) (hn : n ≤ 200) (hfu : 300 ≤ fu) (hp : pv W ip) (h1 : (wO W ip).1 1 = nI c) :
    ∃ X' W' nc ns, gm_X3_append fu (wA W ip) (nI n) X = some (some (wA W' (8 * ip + c)), X', nc, ns) ∧ nc ≤ 9 ∧ ns ≤ 1033 ∧ gw_D W' X' ∧ (∀ j, j ≠ ip → j ≠ 8 * ip + c → W' j = W j) ∧ pv W' ip ∧ wA W' ip = wA W ip ∧ (wO W' ip).1 1 = nI (c + 1) ∧ (wO W' ip).1 2 = 0 ∧ wi W' (8 * ip + c) 0 ∧ bfr c n (wO W' (8 * ip + c)) := by
  have qp := gq_3 (wA W ip) (wO W ip) X
  rw [hD.k hp.1] at qp
  unfold gm_X3_append
  rw [if_neg (by rw [li1]; exact fun q => absurd ((nI_ltI (by omega) (by omega)).mp q) (by omega)), if_neg (by rw [li200]; exact fun q => absurd ((nI_ltI (by omega) (by omega)).mp q) (by omega))]
  simp only [qp, hc, Option.bind_some, h1]
  rw [if_pos (by rw [li8]; exact (nI_ltI (by omega) (by omega)).mpr hc)]
  rcases hp.2 c hc with ⟨k1, k2⟩ | ⟨k1, k2, k3⟩
  · rw [k1, gx_nln]
    have la := (hD.1 ip _ _ _ hp.1).2
    have lz := go_z0 3
    rw [gi_nw (by omega)]
    simp only [qp, Option.bind_some, h1]
    rw [n_0, gx_b4s]
    have hD1 := hD.new k2 (ci := 0) (go_si go_0 0 (nI c))
    rw [show go_z 0 = 9 from rfl] at hD1
    have wp : go_u W (8 * ip + c) (some (0, X.2, go_si go_0 0 (nI c))) ip = some (3, wA W ip, wO W ip) := (go_u_n (by omega)).trans hp.1
    have q1 := gq_3 (wA W ip) (wO W ip) (go_k 0 X.2 (go_si go_0 0 (nI c)) (X.1, X.2 + 9))
    rw [hD1.k wp] at q1
    simp only [q1, hc, Option.bind_some, h1]
    rw [gx_obT (hD1.k go_u_s)]
    have hD2 := hD1.up wp (go_ar (wO W ip) 0 c (some X.2))
    generalize hW : go_u (go_u W (8 * ip + c) (some (0, X.2, go_si go_0 0 (nI c)))) ip (some (3, wA W ip, go_ar (wO W ip) 0 c (some X.2))) = W1 at hD2
    have x1 : W1 ip = some (3, wA W ip, go_ar (wO W ip) 0 c (some X.2)) := by rw [← hW, go_u_s]
    have x2 : W1 (8 * ip + c) = some (0, X.2, go_si go_0 0 (nI c)) := by rw [← hW, go_u_n (by omega), go_u_s]
    have xo : ∀ j, j ≠ ip → j ≠ 8 * ip + c → W1 j = W j := fun j j1 j2 => by rw [← hW, go_u_n j1, go_u_n j2]
    obtain ⟨y1, y1', y1''⟩ := wi_mk x1
    obtain ⟨y2, y2', y2''⟩ := wi_mk x2
    obtain ⟨X', W', g1, g2, g3, g4, b', g5, g6⟩ := c_ap59 (fu := fu) hip hD2 hc hn hfu y1 (by rw [y1'']; exact h1) y2 (by rw [y2'']; rfl)
    rw [y1', y2'] at g1
    obtain ⟨z1, z1', z1''⟩ := wi_mk g4
    obtain ⟨z2, z2', z2''⟩ := wi_mk g5
    refine ⟨X', W', 1 + (8 + 0), 15 + (1018 + 0), ?_, by omega, by omega, g2, fun j j1 j2 => (g3 j j1 j2).trans (xo j j1 j2), ⟨z1, fun f hf => ?_⟩, z1'.trans y1', by rw [z1'']; rfl, by rw [z1'']; rfl, z2, by rw [z2'']; exact g6⟩
    · rw [g1, z2', y2']
      rfl
    · rw [z1'', y1'']
      by_cases e : f = c
      · rw [e, z2', y2', z2'']
        refine Or.inr ⟨?_, z2, g6.1⟩
        show go_w (wO W ip).2.2.2.2.2 0 c (some X.2) 0 c = _
        rw [go_w_e, if_pos ⟨rfl, rfl⟩]
      · have eo := (g3 (8 * ip + f) (by omega) (by omega)).trans (xo _ (by omega) (by omega))
        rw [wA_eq eo, wO_eq eo]
        have er : (go_si (go_si (go_ar (wO W ip) 0 c (some X.2)) 1 (nI (c + 1))) 2 0).2.2.2.2.2 0 f = (wO W ip).2.2.2.2.2 0 f := by
          show go_w (wO W ip).2.2.2.2.2 0 c (some X.2) 0 f = _
          rw [go_w_e, if_neg fun q => e q.2]
        rw [er]
        rcases hp.2 f hf with ⟨k1, k2⟩ | ⟨k1, k2, k3⟩
        · exact Or.inl ⟨k1, eo.trans k2⟩
        · exact Or.inr ⟨k1, wi_eq eo k2, k3⟩
  · rw [k1, gx_nls]
    obtain ⟨X', W', g1, g2, g3, g4, b', g5, g6⟩ := c_ap59 (fu := fu) hip hD hc hn hfu hp.1 h1 k2 k3
    obtain ⟨z1, z1', z1''⟩ := wi_mk g4
    obtain ⟨z2, z2', z2''⟩ := wi_mk g5
    refine ⟨X', W', 0, 0, ?_, by omega, by omega, g2, g3, ⟨z1, fun f hf => ?_⟩, z1', by rw [z1'']; rfl, by rw [z1'']; rfl, z2, by rw [z2'']; exact g6⟩
    · rw [g1, z2']
    · rw [z1'']
      by_cases e : f = c
      · rw [e, z2', z2'']
        exact Or.inr ⟨k1, z2, g6.1⟩
      · have eo := g3 (8 * ip + f) (by omega) (by omega)
        rw [wA_eq eo, wO_eq eo]
        rcases hp.2 f hf with ⟨k1, k2⟩ | ⟨k1, k2, k3⟩
        · exact Or.inl ⟨k1, eo.trans k2⟩
        · exact Or.inr ⟨k1, wi_eq eo k2, k3⟩
end CQ
