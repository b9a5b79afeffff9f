/-! the class: forge, the whole -/
section CG
variable {fu : Nat} {T : sT} {P P1 P2 : sP} {fg : Prop} {cur bes : Nat} {V W W' W1 : gw_T} {X : gx_H} {f : Nat}
theorem sr_eq (h1 : W 1 = V 1) (hb : W (8 * cur + f) = V (8 * cur + f)) (h : sr T P V cur f) : sr T P W cur f := by
  obtain ⟨⟨t1, t2⟩, b1, b2, b3, b4⟩ := h
  refine ⟨⟨wi_eq h1 t1, by rw [wO_eq h1]; exact t2⟩, wi_eq hb b1, ?_⟩
  rw [wO_eq hb]
  exact ⟨b2, b3, b4⟩
theorem w3_self {jb : Nat} (h3 : wi W 3 2) (hb : wi W jb 0) : w3 W (wA W 3) (wO W 3) jb (wA W jb) (wO W jb) = W := by
  funext j
  unfold w3
  by_cases e : j = 3
  · rw [if_pos e, e]
    exact h3.symm
  · rw [if_neg e]
    by_cases e2 : j = jb
    · rw [if_pos e2, e2]
      exact hb.symm
    · rw [if_neg e2]
/-- while the copies are made: m of them are there -/
def LV (P2 : sP) (W1 W : gw_T) (bes m : Nat) : Prop := (∀ j, j ≠ 3 → j ≠ bes → (j < 8 * bes ∨ 8 * bes + 8 ≤ j) → W j = W1 j) ∧ (wi W 3 2 ∧ wA W 3 = wA W1 3 ∧ (wO W 3).2.2.1 0 = some (wA W1 1)) ∧ pv W bes ∧ wA W bes = wA W1 bes ∧ (wO W bes).1 1 = nI m ∧ (wO W bes).1 2 = 0 ∧ ∀ g, g < m → wi W (8 * bes + g) 0 ∧ bs P2 g (wO W (8 * bes + g))
set_option maxHeartbeats 2000000 in
theorem c_one (hcu : (cur = 4 ∧ bes = 5) ∨ (cur = 5 ∧ bes = 4)) (hV : sr T P W1 cur f) (hw : gp_wf P) (hTw : gs_wf T) (hfu : 300 ≤ fu) (hf : f < gp_c P) (hfit : fit T P) (hF : isF T P P2) (hL : LV P2 W1 W bes f) (hD : gw_D W X) (K : Nat → Nat → Nat → Int32 → gx_H → Option (Unit × gx_H × Nat × Nat)) (aP : Nat) :
    ∃ X' W' nc ns, gx_ob X (wA W1 bes) 3 (gx_b4 (gm_X3_append fu (wA W1 bes) (nI (gp_l P f) + nI (lkn T P f)) X) fun oz22 Xz21 cz23 sz23 => gx_ad cz23 sz23 <| gm_X2_copyWithGuards_44 fu K (wA W1 3) aP (wA W1 bes) (nI f) (some (wA W1 (8 * cur + f))) oz22 Xz21) = gx_ad nc ns (K (wA W1 3) aP (wA W1 bes) (nI (f + 1)) X') ∧ nc ≤ 9 ∧ ns ≤ 1033 ∧ gw_D W' X' ∧ LV P2 W1 W' bes (f + 1) := by
  have hc8 := hw.1
  obtain ⟨⟨l1, l2⟩, l6, hIw, -⟩ := hw.2 f hf
  have w2 := isF_wf hw hfit hF
  have hft := hfit f hf
  obtain ⟨v1, ⟨v2, v3, v4⟩, v5, v6, v7, v8, v9⟩ := hL
  obtain ⟨f1, f2, f3, f4⟩ := hF.2 f hf
  rw [nI_add, ← v6, gx_obT (hD.k v5.1)]
  obtain ⟨X2, W2, nc, ns, a1, a2, a3, a4, a5, a6, a7, a8, a9, a10, a11⟩ := c_append (fu := fu) (ip := bes) (n := gp_l P f + lkn T P f) (by omega) hD (show f < 8 by omega) (by omega) hft hfu v5 v7
  rw [a1, gx_b4s]
  unfold gm_X2_copyWithGuards_44 gm_X2_copyWithGuards_73
  rw [gx_nls, Option.bind_some]
  have e1 : W2 1 = W1 1 := (a5 1 (by omega) (by omega)).trans (v1 1 (by omega) (by omega) (by omega))
  have e3 : W2 3 = W 3 := a5 3 (by omega) (by omega)
  have es : W2 (8 * cur + f) = W1 (8 * cur + f) := (a5 _ (by omega) (by omega)).trans (v1 _ (by omega) (by omega) (by omega))
  have s2 : sr T P W2 cur f := sr_eq e1 es hV
  have r3 : wi W2 3 2 := wi_eq e3 v2
  have A3 : wA W1 3 = wA W2 3 := by rw [wA_eq e3, v3]
  have As : wA W1 (8 * cur + f) = wA W2 (8 * cur + f) := (wA_eq es).symm
  have A1 : wA W2 1 = wA W1 1 := wA_eq e1
  have hself := w3_self r3 a10
  have hD2 := a4
  rw [← hself] at hD2
  rw [A3, As]
  -- the copying
  obtain ⟨RO, b1, X3, c1, c2, c3, c4, c5, c6⟩ := c_cI5 (fu := fu) (cur := cur) (f := f) (T := T) (P := P) (V := W2) (jb := 8 * bes + f) (by omega) (by omega) (by omega) s2 hw hTw (by omega) hf hft (gp_l P f) fu 0 (wO W2 3) (wO W2 (8 * bes + f)) X2 hD2 (by rw [wO_eq e3, A1]; exact v4) (by omega) (by omega) (fun j h => absurd h (Nat.not_lt_zero _)) (fun j h => absurd h (Nat.not_lt_zero _))
  unfold gm_X2_copyInstructions
  rw [gx_obT (hD2.k w3_R), show gm_X2_copyInstructions_5 fu fu (wA W2 3) (wA W2 (8 * cur + f)) (wA W2 (8 * bes + f)) 0 0 X2 = _ from c1, Option.bind_some]
  have b16 : b1.1 6 = nI (gp_l P2 f) := by rw [c4, f1, pl_l]; exact a11.2.1
  have mv : mvd P2 f (pl T P f) (gp_l P f) 0 b1 := fun j hj => by
    rw [f1] at hj
    obtain ⟨i, hi, e | ⟨hl, e⟩⟩ := cover _ hj
    · subst e
      obtain ⟨d1, d2, -⟩ := f3 i hi
      obtain ⟨u1, u2, -⟩ := c6 i hi
      rw [d1, d2]
      unfold tn
      refine ⟨u1, fun h => ?_, fun _ h => ?_⟩
      · rw [if_neg (by omega)]
        exact u2
      · rw [if_pos h]
        have := (hIw i hi).2.1 h
        exact ⟨gp_n P f i, by omega, u2, rfl⟩
    · subst e
      obtain ⟨-, -, d3⟩ := f3 i hi
      obtain ⟨-, -, u3⟩ := c6 i hi
      rw [(d3 hl).1, (d3 hl).2]
      exact ⟨(u3 hl).1, fun _ => (u3 hl).2, fun _ h => by omega⟩
  have l2' := (w2.2 f (by rw [hF.1]; exact hf)).1.2
  obtain ⟨b2, X4, m1, m2, m3, m4⟩ := c_mT2 (fu := fu) (f := f) (V := W2) (RO := RO) (q := pl T P f) (show 32 ≤ 8 * bes + f by omega) w2 (by rw [hF.1]; exact hf) l2 c5 (gp_l P2 f) fu 0 b1 X3 c2 b16 mv (by omega) (by omega)
  unfold gm_X2_moveTargets
  rw [gx_obT (c2.k w3_R), show gm_X2_moveTargets_2 fu fu (wA W2 3) (wA W2 (8 * bes + f)) 0 X3 = _ from m1, Option.bind_some]
  obtain ⟨b3, X5, n1, n2, n3, n4, n5, n6, n7⟩ := c_cH2 (fu := fu) (cur := cur) (f := f) (T := T) (P := P) (V := W2) (RO := RO) (show 32 ≤ 8 * bes + f by omega) (by omega) (by omega) s2 hw hf c5 (gp_h P f) fu 0 b2 X4 m2 (by rw [m3, c4]; exact a11.2.2.1) (fun k h => absurd h (Nat.not_lt_zero _)) (by omega) (by omega)
  unfold gm_X2_copyHandlers
  rw [gx_obT (m2.k w3_R), show gm_X2_copyHandlers_2 fu fu (wA W2 3) (wA W2 (8 * cur + f)) (wA W2 (8 * bes + f)) 0 X4 = _ from n1, Option.bind_some, show nI f + 1 = nI (f + 1) from (nI_succ f).symm]
  have hbs : bs P2 f b3 := by
    refine ⟨by rw [n3, m3, c4]; exact a11.1, by rw [n4, m3]; exact b16, by rw [n5, f2], fun i hi => ?_, fun h hh => ?_⟩
    · rw [(n6 i).1, (n6 i).2]
      exact m4 i hi
    · rw [f2] at hh
      obtain ⟨d1, d2, d3⟩ := f4 h hh
      rw [d1, d2, d3]
      exact n7 h hh
  generalize hW3 : w3 W2 (wA W2 3) RO (8 * bes + f) (wA W2 (8 * bes + f)) b3 = W3 at n2
  have z3 : W3 3 = some (2, wA W2 3, RO) := by rw [← hW3]; exact w3_R
  have zb : W3 (8 * bes + f) = some (0, wA W2 (8 * bes + f), b3) := by rw [← hW3]; exact w3_b (by omega)
  have zo : ∀ j, j ≠ 3 → j ≠ 8 * bes + f → W3 j = W2 j := fun j h1 h2 => by rw [← hW3]; exact w3_o h1 h2
  obtain ⟨y3, y3', y3''⟩ := wi_mk z3
  obtain ⟨yb, yb', yb''⟩ := wi_mk zb
  have ebes := zo bes (by omega) (by omega)
  refine ⟨X5, W3, nc, ns, rfl, a2, a3, n2, fun j h1 h2 h3 => (zo j h1 (by omega)).trans ((a5 j h2 (by omega)).trans (v1 j h1 h2 h3)), ⟨y3, by rw [y3', A3], by rw [y3'', c3, wO_eq e3]; exact v4⟩, ⟨wi_eq ebes a6.1, fun g hg => ?_⟩, by rw [wA_eq ebes, a7, v6], by rw [wO_eq ebes]; exact a8, by rw [wO_eq ebes]; exact a9, fun g hg => ?_⟩
  · rw [wO_eq ebes]
    by_cases e : g = f
    · rw [e, yb', yb'']
      rcases a6.2 f (by omega) with ⟨k1, k2⟩ | ⟨k1, k2, k3⟩
      · unfold wi at a10
        rw [k2] at a10
        cases a10
      · exact Or.inr ⟨k1, yb, hbs.1⟩
    · have eo := zo (8 * bes + g) (by omega) (by omega)
      rw [wA_eq eo, wO_eq eo]
      rcases a6.2 g hg with ⟨k1, k2⟩ | ⟨k1, k2, k3⟩
      · exact Or.inl ⟨k1, eo.trans k2⟩
      · exact Or.inr ⟨k1, wi_eq eo k2, k3⟩
  · by_cases e : g = f
    · rw [e, yb'']
      exact ⟨yb, hbs⟩
    · have eo := (zo (8 * bes + g) (by omega) (by omega)).trans (a5 _ (by omega) (by omega))
      rw [wO_eq eo]
      exact ⟨wi_eq eo (v9 g (by omega)).1, (v9 g (by omega)).2⟩
theorem gx_ad_ad {α β : Type} (c s c' s' : Nat) (o : Option (α × β × Nat × Nat)) : gx_ad c s (gx_ad c' s' o) = gx_ad (c + c') (s + s') o := by
  cases o with
  | none => rfl
  | some z =>
    show some (z.1, z.2.1, c + (c' + z.2.2.1), s + (s' + z.2.2.2)) = some (z.1, z.2.1, c + c' + z.2.2.1, s + s' + z.2.2.2)
    rw [Nat.add_assoc, Nat.add_assoc]
set_option maxHeartbeats 1000000 in
theorem c_cw6 (hcu : (cur = 4 ∧ bes = 5) ∨ (cur = 5 ∧ bes = 4)) (hV : ∀ f, f < gp_c P → sr T P W1 cur f) (hp : pv W1 cur) (hh : ph T P W1 cur) (hw : gp_wf P) (hTw : gs_wf T) (hfu : 300 ≤ fu) (hfit : fit T P) (hF : isF T P P2) : ∀ (d n f : Nat) (W : gw_T) (X : gx_H), gw_D W X → LV P2 W1 W bes (mn f (gp_c P)) → f + d = 8 → d < n →
    ∃ X' W' nc ns, gm_X2_copyWithGuards_6 fu n (wA W1 3) (wA W1 cur) (wA W1 bes) (nI f) X = some ((), X', nc, ns) ∧ nc ≤ 9 * d ∧ ns ≤ 1033 * d ∧ gw_D W' X' ∧ LV P2 W1 W' bes (gp_c P)
  | d, 0, f, W, X, _, _, _, hn => absurd hn (Nat.not_lt_zero _)
  | d, n + 1, f, W, X, hD, hL, hd, hn => by
    have hc8 := hw.1
    rw [gm_X2_copyWithGuards_6, li8]
    by_cases e0 : d = 0
    · rw [if_pos ((nI_leI (by omega) (by omega)).mpr (by omega))]
      rw [(mn_o (show gp_c P ≤ f by omega)).1] at hL
      exact ⟨X, W, 0, 0, rfl, by omega, by omega, hD, hL⟩
    · rw [if_neg (fun q => absurd ((nI_leI (by omega) (by omega)).mp q) (by omega))]
      have ec : W cur = W1 cur := hL.1 cur (by omega) (by omega) (by omega)
      have ebd : ∀ g, g < 8 → W (8 * cur + g) = W1 (8 * cur + g) := fun g hg => hL.1 _ (by omega) (by omega) (by omega)
      have hp' : pv W cur := pv_eq (by omega) ec ebd hp
      have hh' : ph T P W cur := ph_eq hw ec ebd hh
      have A := wA_eq ec
      have As : ∀ g, g < 8 → wA W (8 * cur + g) = wA W1 (8 * cur + g) := fun g hg => wA_eq (ebd g hg)
      rw [← A, gx_obT (hD.k hp'.1)]
      rcases c_body (fu := fu) (hD.k hp'.1) hh'.1 (fun f hf => (ph_bd hp' hh' hw hf).1) hw (nI f) with ⟨h1, h2⟩ | ⟨g, h1, h2, h3⟩
      · have hfc : gp_c P ≤ f := Nat.not_lt.mp fun q => h2 ⟨f, rfl, q⟩
        rw [h1, gx_b2s, gx_nln, A]
        unfold gm_X2_copyWithGuards_44 gm_X2_copyWithGuards_73
        rw [gx_nln, show nI f + 1 = nI (f + 1) from (nI_succ f).symm]
        rw [(mn_o hfc).1, ← (mn_o hfc).2] at hL
        obtain ⟨X', W', nc, ns, k1, k2, k3, k4, k5⟩ := c_cw6 hcu hV hp hh hw hTw hfu hfit hF (d - 1) n (f + 1) W X hD hL (by omega) (by omega)
        exact ⟨X', W', nc, ns, k1, by omega, by omega, k4, k5⟩
      · have := nI_inj (by omega) (by omega) h1
        subst this
        obtain ⟨⟨l1, l2⟩, -⟩ := hw.2 f h2
        have e1 : W 1 = W1 1 := hL.1 1 (by omega) (by omega) (by omega)
        have sW : sr T P W cur f := sr_eq e1 (ebd f (by omega)) (hV f h2)
        have hR : wi W 3 2 := hL.2.1.1
        have hRA : wA W 3 = wA W1 3 := hL.2.1.2.1
        have hRT : (wO W 3).2.2.1 0 = some (wA W 1) := by rw [wA_eq e1]; exact hL.2.1.2.2
        have li : gm_X2_lackingIn fu (wA W 3) (wA W (8 * cur + f)) X = some (nI (lkn T P f), X) := c_lIn hD sW hw hTw (by omega) h2 hR hRT (gp_l P f) fu 0 (by omega) (by omega)
        rw [h3, gx_b2s, gx_nls]
        have qb := gq_0 (wA W (8 * cur + f)) (wO W (8 * cur + f)) X
        rw [hD.k sW.2.1] at qb
        simp only [qb, Option.bind_some, sW.2.2.1.2.1]
        rw [← hRA, gx_obT (hD.k hR), li, gx_b2s, As f (by omega), hRA, A]
        rw [(mn_s h2).1] at hL
        obtain ⟨X2, W2, nc, ns, a1, a2, a3, a4, a5⟩ := c_one (fu := fu) hcu (hV f h2) hw hTw hfu h2 hfit hF hL hD (gm_X2_copyWithGuards_6 fu n) (wA W1 cur)
        rw [a1]
        rw [← (mn_s h2).2] at a5
        obtain ⟨X', W', nc', ns', k1, k2, k3, k4, k5⟩ := c_cw6 hcu hV hp hh hw hTw hfu hfit hF (d - 1) n (f + 1) W2 X2 a4 a5 (by omega) (by omega)
        rw [k1, gx_ads]
        exact ⟨X', W', nc + nc', ns + ns', rfl, by omega, by omega, k4, k5⟩
set_option maxHeartbeats 2000000 in
theorem c_forge (hS : SI T P fg P1) (hI : CI T P fg P1 cur W) (hD : gw_D W X) (hfu : 1000000 ≤ fu) (hF : isF T P P2) : ∃ X' W' a nc ns, gm_X5_forge fu (wA W 0) X = some (a, X', nc, ns) ∧ nc ≤ 72 ∧ ns ≤ 8264 ∧ gw_D W' X' ∧ W' 6 = W 6 ∧ wA W' 0 = wA W 0 ∧
    ((fit T P ∧ a = nI (gn_s (lkn T P) (gp_c P)) ∧ CI T P True P2 cur W') ∨ (¬ fit T P ∧ a = -2 ∧ CI T P fg P1 cur W')) := by
  have hc := hI.2.1
  have hw := hS.2.1
  have hc8 := hw.1
  have q0 := gq_5 (wA W 0) (wO W 0) X
  rw [hD.k hI.1.1] at q0
  have s : sl P fg P1 false 0 P := Or.inl ⟨rfl, rfl, rfl⟩
  obtain ⟨X1, W1, g1, hD1, hI1, g4, g5, g6, g6', g6'', g7, g8, -⟩ := c_settle (fu := fu) hS hI hD s hfu
  rw [show sip cur false = cur from rfl] at g1 g7 g8
  unfold gm_X5_forge
  simp only [q0, Option.bind_some, hI.2.2.1.2.1, hI.2.2.1.2.2.2.1]
  rw [gx_obT (hD.k hI.1.2.2.1), g1, Option.bind_some]
  have q1 := gq_5 (wA W1 0) (wO W1 0) X1
  rw [hD1.k hI1.1.1, g5 0] at q1
  obtain ⟨r0, r1, r2, r3, r4, r5⟩ := hI1.2.2.1
  simp only [q1, Option.bind_some, r2, r3]
  have hR : wi W1 3 2 := hI1.1.2.2.2.1
  have hRT := hI1.2.2.2.1.2
  have hp := hI1.pv hc
  have hsr : ∀ f, f < gp_c P → sr T P W1 cur f := fun f hf => by
    have := ph_bd hp g7 hw hf
    exact ⟨⟨hI1.1.2.1, hI1.2.2.2.2.1.1⟩, this.2.1, this.2.2, g8.1 f hf, fun i hi => g8.2.1 f hf i hi⟩
  rw [gx_obT (hD1.k hR)]
  have cl := c_cL4 (fu := fu) hD1 hsr hp g7 hw hS.1 (by omega) hR hRT 8 fu 0 (by omega) (by omega) (fun g h => absurd h (Nat.not_lt_zero _))
  rw [show mn 0 (gp_c P) = 0 from rfl] at cl
  unfold gm_X2_countLacking
  rcases cl with ⟨hfit, e⟩ | ⟨hno, e⟩
  · rw [show gm_X2_countLacking_4 fu fu (wA W1 3) (wA W1 cur) 0 0 X1 = _ from e, gx_b2s]
    have tot := gn_bd (f := lkn T P) (c := 200) (gp_c P) (fun g hg => lkn_le hw hg)
    rw [if_pos (by rw [li0]; exact (nI_leI (by omega) (by omega)).mpr (by omega))]
    simp only [q1, Option.bind_some, r2, r3, r4]
    rw [gx_obT (hD1.k hR)]
    unfold gm_X2_copyWithGuards gm_X3_clear
    have hpb := hI1.pv (show 9 - cur = 4 ∨ 9 - cur = 5 by omega)
    have qb := gq_3 (wA W1 (9 - cur)) (wO W1 (9 - cur)) X1
    rw [hD1.k hpb.1] at qb
    rw [gx_obT (hD1.k hpb.1)]
    simp only [qb, Option.bind_some, gq_3]
    have hD2 := hD1.up hpb.1 (go_si (go_si (wO W1 (9 - cur)) 1 0) 2 0)
    obtain ⟨z1, z2, z3⟩ := wi_mk (W := go_u W1 (9 - cur) (some (3, wA W1 (9 - cur), go_si (go_si (wO W1 (9 - cur)) 1 0) 2 0))) go_u_s
    have hL : LV P2 W1 (go_u W1 (9 - cur) (some (3, wA W1 (9 - cur), go_si (go_si (wO W1 (9 - cur)) 1 0) 2 0))) (9 - cur) (mn 0 (gp_c P)) := by
      refine ⟨fun j _ h2 _ => go_u_n h2, ⟨wi_un (by omega) hR, wA_un (by omega), by rw [wO_un (by omega)]; exact hRT⟩, ⟨z1, fun f hf => ?_⟩, z2, by rw [z3]; rfl, by rw [z3]; rfl, fun g hg => absurd hg (Nat.not_lt_zero _)⟩
      rw [z3, wA_un (by omega), wO_un (by omega)]
      rcases hpb.2 f hf with ⟨k1, k2⟩ | ⟨k1, k2, k3⟩
      · exact Or.inl ⟨k1, (go_u_n (by omega)).trans k2⟩
      · exact Or.inr ⟨k1, wi_un (by omega) k2, k3⟩
    obtain ⟨X3, W3, nc, ns, k1, k2, k3, k4, k5⟩ := c_cw6 (fu := fu) (bes := 9 - cur) (by omega) hsr hp g7 hw hS.1 (by omega) hfit hF 8 fu 0 _ _ hD2 hL (by omega) (by omega)
    rw [show gm_X2_copyWithGuards_6 fu fu (wA W1 3) (wA W1 cur) (wA W1 (9 - cur)) 0 (go_k 3 (wA W1 (9 - cur)) (go_si (go_si (wO W1 (9 - cur)) 1 0) 2 0) X1) = _ from k1, gx_b4s]
    obtain ⟨v1, ⟨v2, v3, v4⟩, v5, v6, v7, v8, v9⟩ := k5
    have e0 : W3 0 = W1 0 := v1 0 (by omega) (by omega) (by omega)
    have e2 : W3 2 = W1 2 := v1 2 (by omega) (by omega) (by omega)
    have w0 : wi W3 0 5 := wi_eq e0 hI1.1.1
    have q3 := gq_5 (wA W3 0) (wO W3 0) X3
    rw [k4.k w0, wA_eq e0, g5 0] at q3
    simp only [q3, Option.bind_some, gx_ads]
    have hD4 := k4.up w0 (go_si (wO W3 0) 5 1)
    rw [wA_eq e0, g5 0] at hD4
    generalize hW4 : go_u W3 0 (some (5, wA W 0, go_si (wO W3 0) 5 1)) = W4 at hD4
    have x0 : W4 0 = some (5, wA W 0, go_si (wO W3 0) 5 1) := by rw [← hW4, go_u_s]
    have xo : ∀ j, j ≠ 0 → W4 j = W3 j := fun j h => by rw [← hW4, go_u_n h]
    obtain ⟨y0, y0', y0''⟩ := wi_mk x0
    refine ⟨_, W4, _, _, _, rfl, by omega, by omega, hD4, (xo 6 (by omega)).trans ((v1 6 (by omega) (by omega) (by omega)).trans g4), y0', Or.inl ⟨hfit, rfl, CI_gen hI1 (ip := 9 - cur) (by omega) ⟨y0, by rw [y0', g5], by rw [y0'', wO_eq e0]; rfl, by rw [y0'', gz_t trivial]; rfl⟩ ⟨wi_eq ((xo 2 (by omega)).trans e2) hI1.1.2.2.1, wA_eq ((xo 2 (by omega)).trans e2), by rw [wO_eq ((xo 2 (by omega)).trans e2)]; exact hI1.2.2.2.1.1⟩ ⟨wi_eq (xo 3 (by omega)) v2, by rw [wA_eq (xo 3 (by omega))]; exact v3, by rw [wO_eq (xo 3 (by omega))]; exact v4⟩ (fun j h1 h2 h3 h4 h5 h6 => (xo j h1).trans (v1 j h3 h5 h6)) (pv_eq (by omega) (xo _ (by omega)) (fun g hg => xo _ (by omega)) v5) (by rw [wA_eq (xo _ (by omega))]; exact v6) (ph_eq hw ((xo _ (by omega)).trans (v1 _ (by omega) (by omega) (by omega))) (fun g hg => (xo _ (by omega)).trans (v1 _ (by omega) (by omega) (by omega))) g7) (fun _ => ⟨?_, fun g hg => ?_, Or.inl ?_⟩)⟩⟩
    · rw [wO_eq (xo _ (by omega)), hF.1]
      exact v7
    · rw [hF.1] at hg
      have eo := xo (8 * (9 - cur) + g) (by omega)
      refine ⟨wi_eq eo (v9 g hg).1, ?_⟩
      unfold wB
      rw [wO_eq eo]
      exact (v9 g hg).2
    · rw [wO_eq (xo _ (by omega))]
      exact v8
  · rw [show gm_X2_countLacking_4 fu fu (wA W1 3) (wA W1 cur) 0 0 X1 = _ from e, gx_b2s, if_neg (by decide)]
    exact ⟨X1, W1, -2, 0, 0, rfl, by omega, by omega, hD1, g4, g5 0, Or.inr ⟨hno, rfl, hI1⟩⟩
end CG
