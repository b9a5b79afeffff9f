/-! the class: begin, way, always, code, handler, take, goes -/
section CO
variable {fu : Nat} {T T' : sT} {P P' P1 R : sP} {fg : Prop} {cur ip : Nat} {W W' : gw_T} {X : gx_H}
theorem ph_bd (hp : pv W ip) (hh : ph T R W ip) (hw : gp_wf R) {f : Nat} (hf : f < gp_c R) : (wO W ip).2.2.2.2.2 0 f = some (wA W (8 * ip + f)) ∧ wi W (8 * ip + f) 0 ∧ bs R f (wO W (8 * ip + f)) := by
  have hc := hw.1
  rcases hp.2 f (by omega) with ⟨h1, h2⟩ | ⟨h1, h2, h3⟩
  · have := (hh.2.1 f hf).1
    unfold wi at this
    rw [h2] at this
    cases this
  · exact ⟨h1, h2, (hh.2.1 f hf).2⟩
theorem CI_chg (hI : CI T P fg P1 cur W) (h0 : W' 0 = some (5, wA W 0, go_si (wO W 0) 5 0)) (h1 : ∃ OT', W' 1 = some (4, wA W 1, OT') ∧ rt T' OT' ∧ OT'.1 3 = nI (wc T')) (hcu : ∃ OP', W' cur = some (3, wA W cur, OP') ∧ OP'.2.2.2.2.2 = (wO W cur).2.2.2.2.2 ∧ OP'.1 1 = nI (gp_c P') ∧ OP'.1 2 = 0)
    (hb : ∀ f, f < 8 → W' (8 * cur + f) = W (8 * cur + f) ∨ ∃ b', wi W (8 * cur + f) 0 ∧ W' (8 * cur + f) = some (0, wA W (8 * cur + f), b') ∧ b'.1 0 = (wO W (8 * cur + f)).1 0) (hbs : ∀ f, f < gp_c P' → wi W (8 * cur + f) 0 ∧ bs P' f (wO W' (8 * cur + f))) (ho : ∀ j, j ≠ 0 → j ≠ 1 → j ≠ cur → j ≠ 6 → (j < 8 * cur ∨ 8 * cur + 8 ≤ j) → W' j = W j) (hc8 : gp_c P' ≤ 8) : CI T' P' False P1 cur W' := by
  obtain ⟨⟨a0, a1, a2, a3, a4, a5⟩, hc, ⟨b0, b1, b2, b3, b4, b5⟩, ⟨c1, c2⟩, ⟨d1, d2⟩, e, f⟩ := hI
  obtain ⟨OT, t1, t2, t3⟩ := h1
  obtain ⟨OP, p1, p2, p3, p4⟩ := hcu
  obtain ⟨x0, y0, z0⟩ := wi_mk h0
  obtain ⟨x1, y1, z1⟩ := wi_mk t1
  obtain ⟨xc, yc, zc⟩ := wi_mk p1
  have pc : pv W cur := by
    rcases hc with rfl | rfl
    · exact a4
    · exact a5
  have hpc : pv W' cur := by
    refine ⟨xc, fun g hg => ?_⟩
    rw [zc, p2]
    rcases hb g hg with h | ⟨b', h1, h2, h3⟩
    · rw [wA_eq h, wO_eq h]
      rcases pc.2 g hg with ⟨k1, k2⟩ | ⟨k1, k2, k3⟩
      · exact Or.inl ⟨k1, h.trans k2⟩
      · exact Or.inr ⟨k1, wi_eq h k2, k3⟩
    · obtain ⟨u1, u2, u3⟩ := wi_mk h2
      rw [u2, u3, h3]
      rcases pc.2 g hg with ⟨k1, k2⟩ | ⟨k1, k2, k3⟩
      · unfold wi at h1
        rw [k2] at h1
        cases h1
      · exact Or.inr ⟨k1, u1, k3⟩
  have pvo : ∀ k, k = 4 ∨ k = 5 → pv W k → pv W' k := fun k hk h => by
    by_cases q : k = cur
    · rw [q]
      exact hpc
    · exact pv_eq hk (ho _ (by omega) (by omega) (by omega) (by omega) (by omega)) (fun g hg => ho _ (by omega) (by omega) (by omega) (by omega) (by omega)) h
  refine ⟨⟨x0, x1, wi_eq (ho 2 (by omega) (by omega) (by omega) (by omega) (by omega)) a2, wi_eq (ho 3 (by omega) (by omega) (by omega) (by omega) (by omega)) a3, pvo 4 (by omega) a4, pvo 5 (by omega) a5⟩, hc, ?_, ?_, ?_, ?_, False.elim⟩
  · rw [z0, y1, yc, wA_eq (ho 2 (by omega) (by omega) (by omega) (by omega) (by omega)), wA_eq (ho 3 (by omega) (by omega) (by omega) (by omega) (by omega)), wA_eq (ho (9 - cur) (by omega) (by omega) (by omega) (by omega) (by omega))]
    exact ⟨b0, b1, b2, b3, b4, by rw [gz_f (fun h => h)]; rfl⟩
  · rw [y1, wO_eq (ho 2 (by omega) (by omega) (by omega) (by omega) (by omega)), wO_eq (ho 3 (by omega) (by omega) (by omega) (by omega) (by omega))]
    exact ⟨c1, c2⟩
  · rw [z1]
    exact ⟨t2, t3⟩
  · refine ⟨by rw [zc]; exact p3, fun g hg => ⟨?_, (hbs g hg).2⟩, Or.inl (by rw [zc]; exact p4)⟩
    rcases hb g (by omega) with h | ⟨b', h1, h2, h3⟩
    · exact wi_eq h (hbs g hg).1
    · exact (wi_mk h2).1
/-- the world after noteChange -/
def wn (W : gw_T) (cur : Nat) : gw_T := go_u (go_u W cur (some (3, wA W cur, go_si (wO W cur) 2 0))) 0 (some (5, wA W 0, go_si (wO W 0) 5 0))
theorem c_note (hD : gw_D W X) (h0 : wi W 0 5) (hc : wi W cur 3) (h3 : (wO W 0).2.2.1 3 = some (wA W cur)) (hn : cur ≠ 0) : ∃ X', gm_X5_noteChange fu (wA W 0) X = some X' ∧ gw_D (wn W cur) X' := by
  have q0 := gq_5 (wA W 0) (wO W 0) X
  rw [hD.k h0] at q0
  have qc := gq_3 (wA W cur) (wO W cur) X
  rw [hD.k hc] at qc
  have hD1 := hD.up hc (go_si (wO W cur) 2 0)
  have h0' : go_u W cur (some (3, wA W cur, go_si (wO W cur) 2 0)) 0 = some (5, wA W 0, wO W 0) := (go_u_n (Ne.symm hn)).trans h0
  have q1 := gq_5 (wA W 0) (wO W 0) (go_k 3 (wA W cur) (go_si (wO W cur) 2 0) X)
  rw [hD1.k h0'] at q1
  unfold gm_X5_noteChange
  simp only [q0, qc, q1, Option.bind_some, h3]
  exact ⟨_, rfl, hD1.up h0' (go_si (wO W 0) 5 0)⟩
theorem wn_0 : wn W cur 0 = some (5, wA W 0, go_si (wO W 0) 5 0) := go_u_s
theorem wn_c (hn : cur ≠ 0) : wn W cur cur = some (3, wA W cur, go_si (wO W cur) 2 0) := by
  unfold wn
  rw [go_u_n hn, go_u_s]
theorem wn_o {j : Nat} (h0 : j ≠ 0) (hc : j ≠ cur) : wn W cur j = W j := by
  unfold wn
  rw [go_u_n h0, go_u_n hc]
theorem wA_un {j k : Nat} {v : Option (Nat × Nat × go_O)} (h : j ≠ k) : wA (go_u W k v) j = wA W j := wA_eq (go_u_n h)
theorem wO_un {j k : Nat} {v : Option (Nat × Nat × go_O)} (h : j ≠ k) : wO (go_u W k v) j = wO W j := wO_eq (go_u_n h)
theorem wi_un {j k ci : Nat} {v : Option (Nat × Nat × go_O)} (h : j ≠ k) (hi : wi W j ci) : wi (go_u W k v) j ci := wi_eq (go_u_n h) hi
/-- a table changed, and the note of it -/
theorem CI_tab (hS : SI T P fg P1) (hI : CI T P fg P1 cur W) (hD : gw_D W X) {OT' : go_O} (ht : rt T' OT') (h3 : OT'.1 3 = nI (wc T')) : ∃ X', gm_X5_noteChange fu (wA W 0) (go_k 4 (wA W 1) OT' X) = some X' ∧ gw_D (wn (go_u W 1 (some (4, wA W 1, OT'))) cur) X' ∧ CI T' P False P1 cur (wn (go_u W 1 (some (4, wA W 1, OT'))) cur) := by
  have hc := hI.2.1
  have hD1 := hD.up hI.1.2.1 OT'
  have pc := hI.pv hc
  obtain ⟨X', n1, n2⟩ := c_note (fu := fu) (cur := cur) hD1 (wi_un (by omega) hI.1.1) (wi_un (by omega) pc.1) (by rw [wO_un (by omega), wA_un (by omega)]; exact hI.2.2.1.2.2.2.1) (by omega)
  rw [wA_un (by omega)] at n1
  refine ⟨X', n1, n2, CI_chg hI ?_ ⟨OT', ?_, ht, h3⟩ ⟨go_si (wO W cur) 2 0, ?_, rfl, hI.2.2.2.2.2.1.1, rfl⟩ (fun f hf => Or.inl ?_) (fun f hf => ?_) (fun j j0 j1 jc _ _ => ?_) hS.2.1.1⟩
  · rw [wn_0, wA_un (by omega), wO_un (by omega)]
  · rw [wn_o (by omega) (by omega), go_u_s]
  · rw [wn_c (by omega), wA_un (by omega), wO_un (by omega)]
  · rw [wn_o (by omega) (by omega), go_u_n (by omega)]
  · have := ph_bd pc hI.2.2.2.2.2.1 hS.2.1 hf
    refine ⟨this.2.1, ?_⟩
    rw [wO_eq (W := W) (by rw [wn_o (by omega) (by omega), go_u_n (by omega)])]
    exact this.2.2
  · rw [wn_o j0 jc, go_u_n j1]
theorem c_way (hS : SI T P fg P1) (hI : CI T P fg P1 cur W) (hD : gw_D W X) (x y v : Int32) : ∃ X' W', gm_X5_way fu (wA W 0) x y v X = some (gz (∃ c s t, cb T x y v c s t ∧ ¬ gs_w T c s t = true), X') ∧ gw_D W' X' ∧ W' 6 = W 6 ∧ wA W' 0 = wA W 0 ∧
    ((¬ ∃ c s t, cb T x y v c s t ∧ ¬ gs_w T c s t = true) → CI T P fg P1 cur W') ∧ ((∃ c s t, cb T x y v c s t ∧ ¬ gs_w T c s t = true) → ∃ c s t, cb T x y v c s t ∧ ¬ gs_w T c s t = true ∧ CI (tw T c s t) P False P1 cur W') := by
  have hc := hI.2.1
  have q0 := gq_5 (wA W 0) (wO W 0) X
  rw [hD.k hI.1.1] at q0
  have eT := hD.k hI.1.2.1
  have hT := hI.2.2.2.2.1.1
  unfold gm_X5_way
  simp only [q0, Option.bind_some, hI.2.2.1.1]
  rw [gx_obT eT, c_canBe eT hT hS.1, gx_b2s]
  by_cases h : ∃ c s t, cb T x y v c s t
  · rw [gz_t h, if_neg (by decide)]
    obtain ⟨c, s, t, h⟩ := h
    simp only [q0, Option.bind_some, hI.2.2.1.1]
    rw [gx_obT eT, c_hasWay eT hT hS.1 h, gx_b2s]
    by_cases w : gs_w T c s t = true
    · rw [gz_t w, if_neg (by decide)]
      have no : ¬ ∃ c s t, cb T x y v c s t ∧ ¬ gs_w T c s t = true := by
        rintro ⟨c', s', t', h', w'⟩
        have h60 := hS.1.2.1
        obtain ⟨b1, b2, b3⟩ := cb_t hS.1 h
        obtain ⟨b1', b2', b3'⟩ := cb_t hS.1 h'
        obtain ⟨rfl, h2, rfl, h4, h5⟩ := h
        obtain ⟨e1, h2', e3, h4', h5'⟩ := h'
        have e1 := nI_inj (by omega) (by omega) e1
        have e3 := nI_inj (by omega) (by omega) e3
        subst e1 e3
        have : t = t' := by
          rcases h5 with ⟨rfl, rfl⟩ | ⟨rfl, h6⟩
          · rcases h5' with ⟨-, rfl⟩ | ⟨e, h6⟩
            · rfl
            · exact absurd e.symm (nI_m1 (by omega))
          · rcases h5' with ⟨e, rfl⟩ | ⟨e, h6'⟩
            · exact absurd e (nI_m1 (by omega))
            · exact nI_inj (by omega) (by omega) e
        subst this
        exact w' w
      exact ⟨X, W, by rw [gz_f no], hD, rfl, rfl, fun _ => hI, fun q => absurd q no⟩
    · rw [gz_f w, if_pos rfl]
      simp only [q0, Option.bind_some, hI.2.2.1.1]
      obtain ⟨O', g1, g2, g3⟩ := c_addWay (fu := fu) eT hT hS.1 h
      rw [gx_obT eT, g1, Option.bind_some]
      obtain ⟨b1, b2, b3⟩ := cb_t hS.1 h
      obtain ⟨X', n1, n2, n3⟩ := CI_tab (fu := fu) hS hI hD g2 (by rw [g3, hI.2.2.2.2.1.2, wc_tw h.2.1 b1 b2 w, show nI (wc T) + 1 = nI (wc T + 1) from (nI_succ _).symm])
      rw [gx_obT ((hD.up hI.1.2.1 O').k ((go_u_n (by omega)).trans hI.1.1)), n1, Option.bind_some]
      have yes : ∃ c s t, cb T x y v c s t ∧ ¬ gs_w T c s t = true := ⟨c, s, t, h, w⟩
      refine ⟨X', _, by rw [gz_t yes], n2, ?_, ?_, fun q => absurd yes q, fun _ => ⟨c, s, t, h, w, n3⟩⟩
      · rw [wn_o (by omega) (by omega), go_u_n (by omega)]
      · rw [(wi_mk wn_0).2.1, wA_un (by omega)]
  · rw [gz_f h, if_pos rfl]
    have no : ¬ ∃ c s t, cb T x y v c s t ∧ ¬ gs_w T c s t = true := fun ⟨c, s, t, h', _⟩ => h ⟨c, s, t, h'⟩
    exact ⟨X, W, by rw [gz_f no], hD, rfl, rfl, fun _ => hI, fun q => absurd q no⟩
theorem c_goes (hS : SI T P fg P1) (hI : CI T P fg P1 cur W) (hD : gw_D W X) (x y v : Int32) : gm_X5_goes fu (wA W 0) x y v X = some (gz (∃ c s t, cb T x y v c s t ∧ gs_w T c s t = true), X) := by
  have q0 := gq_5 (wA W 0) (wO W 0) X
  rw [hD.k hI.1.1] at q0
  have eT := hD.k hI.1.2.1
  have hT := hI.2.2.2.2.1.1
  unfold gm_X5_goes gm_X5_goes_30
  simp only [q0, Option.bind_some, hI.2.2.1.1]
  rw [gx_obT eT, c_canBe eT hT hS.1, gx_b2s]
  by_cases h : ∃ c s t, cb T x y v c s t
  · rw [gz_t h, if_neg (by decide)]
    obtain ⟨c, s, t, h⟩ := h
    simp only [q0, Option.bind_some, hI.2.2.1.1]
    rw [gx_obT eT, c_hasWay eT hT hS.1 h, gx_b2s]
    by_cases w : gs_w T c s t = true
    · rw [gz_t w, if_neg (by decide), gz_t ⟨c, s, t, h, w⟩]
    · rw [gz_f w, if_pos rfl, gz_f]
      rintro ⟨c', s', t', h', w'⟩
      have h60 := hS.1.2.1
      obtain ⟨b1, b2, b3⟩ := cb_t hS.1 h
      obtain ⟨b1', b2', b3'⟩ := cb_t hS.1 h'
      obtain ⟨rfl, h2, rfl, h4, h5⟩ := h
      obtain ⟨e1, h2', e3, h4', h5'⟩ := h'
      have e1 := nI_inj (by omega) (by omega) e1
      have e3 := nI_inj (by omega) (by omega) e3
      subst e1 e3
      have : t = t' := by
        rcases h5 with ⟨rfl, rfl⟩ | ⟨rfl, h6⟩
        · rcases h5' with ⟨-, rfl⟩ | ⟨e, h6⟩
          · rfl
          · exact absurd e.symm (nI_m1 (by omega))
        · rcases h5' with ⟨e, rfl⟩ | ⟨e, h6'⟩
          · exact absurd e (nI_m1 (by omega))
          · exact nI_inj (by omega) (by omega) e
      subst this
      exact w w'
  · rw [gz_f h, if_pos rfl, gz_f]
    rintro ⟨c, s, t, h', -⟩
    exact h ⟨c, s, t, h'⟩
theorem ta_wf (hw : gs_wf T) (c : Nat) (b : Bool) : gs_wf (ta T c b) := hw
theorem c_always (hS : SI T P fg P1) (hI : CI T P fg P1 cur W) (hD : gw_D W X) (x : Int32) (b : Bool) : ∃ X' W', gm_X5_always fu (wA W 0) x (b32 b) X = some (gz (∃ c, x = nI c ∧ c < 16 ∧ gs_n T c ≠ b), X') ∧ gw_D W' X' ∧ W' 6 = W 6 ∧ wA W' 0 = wA W 0 ∧
    ((¬ ∃ c, x = nI c ∧ c < 16 ∧ gs_n T c ≠ b) → CI T P fg P1 cur W') ∧ ((∃ c, x = nI c ∧ c < 16 ∧ gs_n T c ≠ b) → ∃ c, x = nI c ∧ c < 16 ∧ gs_n T c ≠ b ∧ CI (ta T c b) P False P1 cur W') := by
  have hc := hI.2.1
  have q0 := gq_5 (wA W 0) (wO W 0) X
  rw [hD.k hI.1.1] at q0
  have eT := hD.k hI.1.2.1
  have qT := gq_4 (wA W 1) (wO W 1) X
  rw [eT] at qT
  have hT := hI.2.2.2.2.1.1
  unfold gm_X5_always
  simp only [q0, Option.bind_some, hI.2.2.1.1]
  rw [gx_obT eT, c_isCall, gx_b2s]
  by_cases h : ∃ c, x = nI c ∧ c < 16
  · rw [gz_t h, if_neg (by decide)]
    obtain ⟨c, rfl, c16⟩ := h
    simp only [q0, qT, c16, Option.bind_some, hI.2.2.1.1, b32_nar]
    rw [show (wO W 1).2.2.2.1 0 c = b32 (gs_n T c) from hT.2.2 c c16]
    by_cases eb : gs_n T c = b
    · rw [if_pos (by rw [eb])]
      have no : ¬ ∃ c', nI c = nI c' ∧ c' < 16 ∧ gs_n T c' ≠ b := by
        rintro ⟨c', h1, h2, h3⟩
        have := nI_inj (by omega) (by omega) h1
        subst this
        exact h3 eb
      exact ⟨X, W, by rw [gz_f no], hD, rfl, rfl, fun _ => hI, fun q => absurd q no⟩
    · rw [if_neg (fun h => eb (b32_inj h))]
      have yes : ∃ c', nI c = nI c' ∧ c' < 16 ∧ gs_n T c' ≠ b := ⟨c, rfl, c16, eb⟩
      have ht : rt (ta T c b) (go_ai (wO W 1) 0 c (b32 b)) := by
        refine ⟨hT.1, hT.2.1, fun c' hc' => ?_⟩
        rw [mi_ai]
        show _ = if go_u T.2.2 c b c' = true then 1 else 0
        by_cases e : c' = c
        · rw [if_pos ⟨rfl, e⟩, e, go_u_s]
          rfl
        · rw [if_neg fun q => e q.2, go_u_n e]
          exact hT.2.2 c' hc'
      obtain ⟨X', n1, n2, n3⟩ := CI_tab (fu := fu) hS hI hD ht (show (go_ai (wO W 1) 0 c (b32 b)).1 3 = nI (wc (ta T c b)) from hI.2.2.2.2.1.2)
      rw [gx_obT ((hD.up hI.1.2.1 _).k ((go_u_n (by omega)).trans hI.1.1)), n1, Option.bind_some]
      refine ⟨X', _, by rw [gz_t yes], n2, ?_, ?_, fun q => absurd yes q, fun _ => ⟨c, rfl, c16, eb, n3⟩⟩
      · rw [wn_o (by omega) (by omega), go_u_n (by omega)]
      · rw [(wi_mk wn_0).2.1, wA_un (by omega)]
  · rw [gz_f h, if_pos rfl]
    have no : ¬ ∃ c, x = nI c ∧ c < 16 ∧ gs_n T c ≠ b := fun ⟨c, h1, h2, _⟩ => h ⟨c, h1, h2⟩
    exact ⟨X, W, by rw [gz_f no], hD, rfl, rfl, fun _ => hI, fun q => absurd q no⟩
theorem c_begin (hI : CI T P fg P1 cur W) (hD : gw_D W X) (hfu : 1000 ≤ fu) (x : Int32) : ∃ X' W', gm_X5_begin fu (wA W 0) x X = some (gz (∃ n, rg x 1 60 n), X') ∧ gw_D W' X' ∧ W' 6 = W 6 ∧ wA W' 0 = wA W 0 ∧
    ((¬ ∃ n, rg x 1 60 n) → CI T P fg P1 cur W') ∧ ((∃ n, rg x 1 60 n) → ∃ n, rg x 1 60 n ∧ CI (t0 n) (pZ P) False P1 cur W') := by
  have hc := hI.2.1
  have q0 := gq_5 (wA W 0) (wO W 0) X
  rw [hD.k hI.1.1] at q0
  have eT := hD.k hI.1.2.1
  have r := rg_no (x := x) (b := 60) (by omega)
  have pc := hI.pv hc
  unfold gm_X5_begin
  rw [li60]
  by_cases h1 : x < 1
  · rw [if_pos h1]
    exact ⟨X, W, by rw [gz_f (r.1 h1)], hD, rfl, rfl, fun _ => hI, fun q => absurd q (r.1 h1)⟩
  · rw [if_neg h1]
    by_cases h2 : x ≤ nI 60
    · have hx := r.2.2 h1 h2
      rw [if_pos h2]
      obtain ⟨n, hn⟩ := hx
      have xn : x = nI n := hn.1
      obtain ⟨OT, g1, g2, g3⟩ := c_renew (fu := fu) (aT := wA W 1) (O := wO W 1) (X := X) (n := n) hfu
      rw [eT, ← xn] at g1
      simp only [q0, Option.bind_some, hI.2.2.1.1]
      rw [gx_obT eT, g1, Option.bind_some]
      have hD1 := hD.up hI.1.2.1 OT
      have w0 : go_u W 1 (some (4, wA W 1, OT)) 0 = some (5, wA W 0, wO W 0) := (go_u_n (by omega)).trans hI.1.1
      have wcu : go_u W 1 (some (4, wA W 1, OT)) cur = some (3, wA W cur, wO W cur) := (go_u_n (by omega)).trans pc.1
      have q1 := gq_5 (wA W 0) (wO W 0) (go_k 4 (wA W 1) OT X)
      rw [hD1.k w0] at q1
      simp only [q1, Option.bind_some, hI.2.2.1.2.2.2.1]
      rw [gx_obT (hD1.k wcu)]
      unfold gm_X3_clear
      have qc := gq_3 (wA W cur) (wO W cur) (go_k 4 (wA W 1) OT X)
      rw [hD1.k wcu] at qc
      simp only [qc, Option.bind_some, gq_3]
      have hD2 := hD1.up wcu (go_si (go_si (wO W cur) 1 0) 2 0)
      have w0' : go_u (go_u W 1 (some (4, wA W 1, OT))) cur (some (3, wA W cur, go_si (go_si (wO W cur) 1 0) 2 0)) 0 = some (5, wA W 0, wO W 0) := (go_u_n (by omega)).trans w0
      have q2 := gq_5 (wA W 0) (wO W 0) (go_k 3 (wA W cur) (go_si (go_si (wO W cur) 1 0) 2 0) (go_k 4 (wA W 1) OT X))
      rw [hD2.k w0'] at q2
      simp only [q2, Option.bind_some]
      have hD3 := hD2.up w0' (go_si (wO W 0) 5 0)
      refine ⟨_, _, by rw [gz_t ⟨n, hn⟩], hD3, ?_, (wi_mk go_u_s).2.1, fun q => absurd ⟨n, hn⟩ q, fun _ => ⟨n, hn, CI_chg hI go_u_s ⟨OT, ?_, g2, ?_⟩ ⟨go_si (go_si (wO W cur) 1 0) 2 0, ?_, rfl, rfl, rfl⟩ (fun f hf => Or.inl ?_) (fun f hf => absurd hf (Nat.not_lt_zero _)) (fun j j0 j1 jc _ _ => ?_) (Nat.zero_le _)⟩⟩
      · rw [go_u_n (by omega), go_u_n (by omega), go_u_n (by omega)]
      · rw [go_u_n (by omega), go_u_n (by omega), go_u_s]
      · rw [g3, wc_t0]
        rfl
      · rw [go_u_n (by omega), go_u_s]
      · rw [go_u_n (by omega), go_u_n (by omega), go_u_n (by omega)]
      · rw [go_u_n j0, go_u_n jc, go_u_n j1]
    · rw [if_neg h2]
      have no : ¬ ∃ n, rg x 1 60 n := fun ⟨n, e, _, h⟩ => h2 (by rw [e]; exact (nI_leI (by omega) (by omega)).mpr h)
      exact ⟨X, W, by rw [gz_f no], hD, rfl, rfl, fun _ => hI, fun q => absurd q no⟩
theorem c_take (hS : SI T P fg P1) (hI : CI T P fg P1 cur W) (hD : gw_D W X) : ∃ X' W', gm_X5_take fu (wA W 0) X = some (gz fg, X') ∧ gw_D W' X' ∧ W' 6 = W 6 ∧ wA W' 0 = wA W 0 ∧ (¬ fg → CI T P fg P1 cur W') ∧ (fg → CI T P1 False P1 (9 - cur) W') := by
  obtain ⟨⟨a0, a1, a2, a3, a4, a5⟩, hc, ⟨b0, b1, b2, b3, b4, b5⟩, ⟨c1, c2⟩, ⟨d1, d2⟩, e, f⟩ := id hI
  have q0 := gq_5 (wA W 0) (wO W 0) X
  rw [hD.k a0] at q0
  unfold gm_X5_take
  simp only [q0, Option.bind_some, b5]
  by_cases g : fg
  · rw [gz_t g, if_neg (by decide)]
    simp only [q0, Option.bind_some, b3, b4, gq_5]
    have hD1 := hD.up a0 (go_si (go_sr (go_sr (wO W 0) 3 (some (wA W (9 - cur)))) 4 (some (wA W cur))) 5 0)
    refine ⟨_, _, rfl, hD1, go_u_n (by omega), (wi_mk go_u_s).2.1, fun h => absurd g h, fun _ => ?_⟩
    obtain ⟨x0, y0, z0⟩ := wi_mk (W := go_u W 0 (some (5, wA W 0, go_si (go_sr (go_sr (wO W 0) 3 (some (wA W (9 - cur)))) 4 (some (wA W cur))) 5 0))) go_u_s
    have pvo : ∀ k, k = 4 ∨ k = 5 → pv W k → pv (go_u W 0 (some (5, wA W 0, go_si (go_sr (go_sr (wO W 0) 3 (some (wA W (9 - cur)))) 4 (some (wA W cur))) 5 0))) k := fun k hk h => pv_eq hk (go_u_n (by omega)) (fun g hg => go_u_n (by omega)) h
    refine ⟨⟨x0, wi_un (by omega) a1, wi_un (by omega) a2, wi_un (by omega) a3, pvo 4 (by omega) a4, pvo 5 (by omega) a5⟩, by omega, ?_, ?_, ?_, ph_eq (hS.2.2 g).1 (go_u_n (by omega)) (fun g hg => go_u_n (by omega)) (f g), False.elim⟩
    · rw [z0, wA_un (by omega), wA_un (by omega), wA_un (by omega), wA_un (by omega), wA_un (by omega), show 9 - (9 - cur) = cur by omega]
      exact ⟨b0, b1, b2, rfl, rfl, by rw [gz_f (fun h => h)]; rfl⟩
    · rw [wO_un (by omega), wO_un (by omega), wA_un (by omega)]
      exact ⟨c1, c2⟩
    · rw [wO_un (by omega)]
      exact ⟨d1, d2⟩
  · rw [gz_f g, if_pos rfl]
    exact ⟨X, W, rfl, hD, rfl, rfl, fun _ => hI, fun h => absurd h g⟩
end CO
