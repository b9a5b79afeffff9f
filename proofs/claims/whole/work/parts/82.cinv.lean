/-! the class's state, and settle in it -/
def wA (W : gw_T) (j : Nat) : Nat := ((W j).getD (0, 0, go_0)).2.1
def wO (W : gw_T) (j : Nat) : go_O := ((W j).getD (0, 0, go_0)).2.2
def wi (W : gw_T) (j ci : Nat) : Prop := W j = some (ci, wA W j, wO W j)
theorem wi_mk {W : gw_T} {j ci a : Nat} {O : go_O} (h : W j = some (ci, a, O)) : wi W j ci ∧ wA W j = a ∧ wO W j = O := by
  have e1 : wA W j = a := by unfold wA; rw [h]; rfl
  have e2 : wO W j = O := by unfold wO; rw [h]; rfl
  exact ⟨by unfold wi; rw [e1, e2]; exact h, e1, e2⟩
theorem wA_eq {W W' : gw_T} {j : Nat} (h : W' j = W j) : wA W' j = wA W j := by unfold wA; rw [h]
theorem wO_eq {W W' : gw_T} {j : Nat} (h : W' j = W j) : wO W' j = wO W j := by unfold wO; rw [h]
theorem wi_eq {W W' : gw_T} {j ci : Nat} (h : W' j = W j) (hi : wi W j ci) : wi W' j ci := by
  unfold wi
  rw [h, wA_eq h, wO_eq h]
  exact hi
abbrev wB (W : gw_T) (ip : Nat) : Nat → go_O := fun f => wO W (8 * ip + f)
/-- one of the two programs: its bodies are where it says -/
def pv (W : gw_T) (ip : Nat) : Prop := wi W ip 3 ∧ ∀ f, f < 8 → ((wO W ip).2.2.2.2.2 0 f = none ∧ W (8 * ip + f) = none) ∨ ((wO W ip).2.2.2.2.2 0 f = some (wA W (8 * ip + f)) ∧ wi W (8 * ip + f) 0 ∧ (wO W (8 * ip + f)).1 0 = nI f)
/-- the sets that it has, if it says so, are the least ones -/
def pst (T : sT) (P : sP) (W : gw_T) (ip : Nat) : Prop := (∀ f, f < gp_c P → ba P f (wB W ip f)) ∧ gl_ok T P (fMy (wB W ip)) (fEn (wB W ip)) (fEx (wB W ip)) (fAl (wB W ip))
def ph (T : sT) (P : sP) (W : gw_T) (ip : Nat) : Prop := (wO W ip).1 1 = nI (gp_c P) ∧ (∀ f, f < gp_c P → wi W (8 * ip + f) 0 ∧ bs P f (wB W ip f)) ∧ ((wO W ip).1 2 = 0 ∨ ((wO W ip).1 2 = 1 ∧ pst T P W ip))
def CI (T : sT) (P : sP) (fg : Prop) (P1 : sP) (cur : Nat) (W : gw_T) : Prop :=
  (wi W 0 5 ∧ wi W 1 4 ∧ wi W 2 1 ∧ wi W 3 2 ∧ pv W 4 ∧ pv W 5) ∧ (cur = 4 ∨ cur = 5) ∧
  ((wO W 0).2.2.1 0 = some (wA W 1) ∧ (wO W 0).2.2.1 1 = some (wA W 2) ∧ (wO W 0).2.2.1 2 = some (wA W 3) ∧ (wO W 0).2.2.1 3 = some (wA W cur) ∧ (wO W 0).2.2.1 4 = some (wA W (9 - cur)) ∧ (wO W 0).1 5 = gz fg) ∧
  ((wO W 2).2.2.1 0 = some (wA W 1) ∧ (wO W 3).2.2.1 0 = some (wA W 1)) ∧ (rt T (wO W 1) ∧ (wO W 1).1 3 = nI (wc T)) ∧ ph T P W cur ∧ (fg → ph T P1 W (9 - cur))
section CV
variable {fu : Nat} {T : sT} {P P1 R : sP} {fg : Prop} {cur ip : Nat} {W W' : gw_T} {X : gx_H}
/-- two programs at the same place -/
theorem pv_eq (hip : ip = 4 ∨ ip = 5) (h : W' ip = W ip) (hb : ∀ f, f < 8 → W' (8 * ip + f) = W (8 * ip + f)) (hp : pv W ip) : pv W' ip := by
  refine ⟨wi_eq h hp.1, fun f hf => ?_⟩
  rw [wO_eq h, wO_eq (hb f hf), wA_eq (hb f hf)]
  rcases hp.2 f hf with ⟨h1, h2⟩ | ⟨h1, h2, h3⟩
  · exact Or.inl ⟨h1, (hb f hf).trans h2⟩
  · exact Or.inr ⟨h1, wi_eq (hb f hf) h2, h3⟩
theorem ph_eq (hw : gp_wf R) (h : W' ip = W ip) (hb : ∀ f, f < 8 → W' (8 * ip + f) = W (8 * ip + f)) (hp : ph T R W ip) : ph T R W' ip := by
  have hc := hw.1
  have eb : ∀ f, f < gp_c R → wB W' ip f = wB W ip f := fun f hf => wO_eq (hb f (by omega))
  refine ⟨by rw [wO_eq h]; exact hp.1, fun f hf => ⟨wi_eq (hb f (by omega)) (hp.2.1 f hf).1, by rw [eb f hf]; exact (hp.2.1 f hf).2⟩, ?_⟩
  rw [wO_eq h]
  rcases hp.2.2 with h' | ⟨h', h1, h2, h3⟩
  · exact Or.inl h'
  · refine Or.inr ⟨h', fun f hf => by rw [eb f hf]; exact h1 f hf, fun f hf i hi => ?_, fun f hf => ?_⟩
    · have := h2 f hf i hi
      unfold fMy at this ⊢
      rw [eb f hf]
      exact this
    · have := h3 f hf
      unfold fEn fEx fAl at this ⊢
      rw [eb f hf]
      exact this
theorem CI_ag (hw : gp_wf P) (hw1 : fg → gp_wf P1) (h : ∀ j, j ≠ 6 → W' j = W j) (hI : CI T P fg P1 cur W) : CI T P fg P1 cur W' := by
  obtain ⟨⟨a0, a1, a2, a3, a4, a5⟩, hc, ⟨b0, b1, b2, b3, b4, b5⟩, ⟨c1, c2⟩, ⟨d1, d2⟩, e, f⟩ := hI
  have g : ∀ ip, ip = 4 ∨ ip = 5 → W' ip = W ip ∧ ∀ f, f < 8 → W' (8 * ip + f) = W (8 * ip + f) := fun ip h' => ⟨h ip (by omega), fun f _ => h _ (by omega)⟩
  refine ⟨⟨wi_eq (h 0 (by omega)) a0, wi_eq (h 1 (by omega)) a1, wi_eq (h 2 (by omega)) a2, wi_eq (h 3 (by omega)) a3, pv_eq (by omega) (g 4 (by omega)).1 (g 4 (by omega)).2 a4, pv_eq (by omega) (g 5 (by omega)).1 (g 5 (by omega)).2 a5⟩, hc, ?_, ?_, ?_, ph_eq hw (g cur hc).1 (g cur hc).2 e, fun q => ph_eq (hw1 q) (g (9 - cur) (by omega)).1 (g (9 - cur) (by omega)).2 (f q)⟩
  · rw [wO_eq (h 0 (by omega)), wA_eq (h 1 (by omega)), wA_eq (h 2 (by omega)), wA_eq (h 3 (by omega)), wA_eq (h cur (by omega)), wA_eq (h (9 - cur) (by omega))]
    exact ⟨b0, b1, b2, b3, b4, b5⟩
  · rw [wO_eq (h 2 (by omega)), wO_eq (h 3 (by omega)), wA_eq (h 1 (by omega))]
    exact ⟨c1, c2⟩
  · rw [wO_eq (h 1 (by omega))]
    exact ⟨d1, d2⟩
/-- the place of the program that is asked -/
def sip (cur : Nat) (v : Bool) : Nat := if v = true then 9 - cur else cur
theorem CI.sl {v : Bool} {q : Nat} (hI : CI T P fg P1 cur W) (hS : SI T P fg P1) (h : sl P fg P1 v q R) : (sip cur v = 4 ∨ sip cur v = 5) ∧ ph T R W (sip cur v) ∧ gp_wf R := by
  obtain ⟨-, hc, -, -, -, e, f⟩ := hI
  unfold sip
  rcases h with ⟨rfl, -, rfl⟩ | ⟨rfl, hf, -, rfl⟩
  · exact ⟨hc, e, hS.2.1⟩
  · exact ⟨by rw [if_pos rfl]; omega, f hf, (hS.2.2 hf).1⟩
theorem CI.pv (hI : CI T P fg P1 cur W) (hip : ip = 4 ∨ ip = 5) : pv W ip := by
  rcases hip with rfl | rfl
  · exact hI.1.2.2.2.2.1
  · exact hI.1.2.2.2.2.2
theorem fw_self {c aF : Nat} {ad : Nat → Nat} {B : Nat → go_O} {F : go_O} (h2 : W 2 = some (1, aF, F)) (hb : ∀ f, f < c → W (8 * ip + f) = some (0, ad f, B f)) : fw W ip c aF ad B F = W := by
  funext j
  unfold fw
  by_cases e : j = 2
  · rw [if_pos e, e, h2]
  · rw [if_neg e]
    by_cases c2 : 8 * ip ≤ j ∧ j < 8 * ip + c
    · rw [if_pos c2]
      have := hb (j - 8 * ip) (by omega)
      rw [show 8 * ip + (j - 8 * ip) = j by omega] at this
      exact this.symm
    · rw [if_neg c2]
/-- a program's place has been changed, and Flow; nothing else -/
theorem CI_prog (hS : SI T P fg P1) (hI : CI T P fg P1 cur W) (hip : ip = 4 ∨ ip = 5) (h2 : wi W' 2 1 ∧ wA W' 2 = wA W 2 ∧ (wO W' 2).2.2.1 0 = some (wA W 1)) (hj : ∀ j, j ≠ 2 → j ≠ ip → (j < 8 * ip ∨ 8 * ip + 8 ≤ j) → W' j = W j) (hp : pv W' ip) (ha : wA W' ip = wA W ip) (hh : ip = cur → ph T P W' ip) (hh' : ip = 9 - cur → fg → ph T P1 W' ip) : CI T P fg P1 cur W' := by
  obtain ⟨⟨a0, a1, a2, a3, a4, a5⟩, hc, ⟨b0, b1, b2, b3, b4, b5⟩, ⟨c1, c2⟩, ⟨d1, d2⟩, e, f⟩ := hI
  have aA : wA W' cur = wA W cur ∧ wA W' (9 - cur) = wA W (9 - cur) := by
    by_cases q : ip = cur
    · exact ⟨by rw [← q]; exact ha, wA_eq (hj _ (by omega) (by omega) (by omega))⟩
    · exact ⟨wA_eq (hj _ (by omega) (by omega) (by omega)), by rw [show 9 - cur = ip by omega]; exact ha⟩
  have pvo : ∀ k, k = 4 ∨ k = 5 → pv W k → pv W' k := fun k hk h => by
    by_cases q : k = ip
    · rw [q]
      exact hp
    · exact pv_eq hk (hj _ (by omega) (by omega) (by omega)) (fun g hg => hj _ (by omega) (by omega) (by omega)) h
  refine ⟨⟨wi_eq (hj 0 (by omega) (by omega) (by omega)) a0, wi_eq (hj 1 (by omega) (by omega) (by omega)) a1, h2.1, wi_eq (hj 3 (by omega) (by omega) (by omega)) a3, pvo 4 (by omega) a4, pvo 5 (by omega) a5⟩, hc, ?_, ?_, ?_, ?_, fun q => ?_⟩
  · rw [wO_eq (hj 0 (by omega) (by omega) (by omega)), wA_eq (hj 1 (by omega) (by omega) (by omega)), h2.2.1, wA_eq (hj 3 (by omega) (by omega) (by omega)), aA.1, aA.2]
    exact ⟨b0, b1, b2, b3, b4, b5⟩
  · rw [wO_eq (hj 3 (by omega) (by omega) (by omega)), wA_eq (hj 1 (by omega) (by omega) (by omega))]
    exact ⟨h2.2.2, c2⟩
  · rw [wO_eq (hj 1 (by omega) (by omega) (by omega))]
    exact ⟨d1, d2⟩
  · by_cases q : ip = cur
    · rw [← q]
      exact hh q
    · exact ph_eq hS.2.1 (hj _ (by omega) (by omega) (by omega)) (fun g hg => hj _ (by omega) (by omega) (by omega)) e
  · by_cases q' : ip = 9 - cur
    · rw [← q']
      exact hh' q' q
    · exact ph_eq (hS.2.2 q).1 (hj _ (by omega) (by omega) (by omega)) (fun g hg => hj _ (by omega) (by omega) (by omega)) (f q)
set_option maxHeartbeats 1000000 in
theorem c_settle {v : Bool} {q : Nat} (hS : SI T P fg P1) (hI : CI T P fg P1 cur W) (hD : gw_D W X) (s : sl P fg P1 v q R) (hfu : 1000000 ≤ fu) : ∃ X' W', gm_X1_settle fu (wA W 2) (wA W (sip cur v)) X = some X' ∧ gw_D W' X' ∧ CI T P fg P1 cur W' ∧ W' 6 = W 6 ∧ (∀ j, wA W' j = wA W j) ∧ W' 0 = W 0 ∧ W' 1 = W 1 ∧ W' 3 = W 3 ∧ ph T R W' (sip cur v) ∧ pst T R W' (sip cur v) ∧ (wO W' (sip cur v)).1 2 = 1 := by
  obtain ⟨hip, hph, hw⟩ := hI.sl hS s
  generalize hi : sip cur v = ip at hip hph ⊢
  have hpv := hI.pv hip
  have hc := hw.1
  obtain ⟨p1, p2, p3⟩ := id hph
  rcases p3 with p3 | ⟨p3, p4⟩
  · have w2 := hI.1.2.2.1
    have bd : ∀ f, f < gp_c R → (wO W ip).2.2.2.2.2 0 f = some (wA W (8 * ip + f)) ∧ W (8 * ip + f) = some (0, wA W (8 * ip + f), wB W ip f) := fun f hf => by
      rcases hpv.2 f (by omega) with ⟨h1, h2⟩ | ⟨h1, h2, h3⟩
      · have := (p2 f hf).1
        unfold wi at this
        rw [h2] at this
        cases this
      · exact ⟨h1, h2⟩
    have ef : fw W ip (gp_c R) (wA W 2) (fun f => wA W (8 * ip + f)) (wB W ip) (wO W 2) = W := fw_self w2 fun f hf => (bd f hf).2
    have hC : fc W T R ip (wA W 1) (wA W ip) (fun f => wA W (8 * ip + f)) := ⟨wO W 1, wO W ip, hI.1.2.1, hI.2.2.2.2.1.1, hpv.1, p1, fun f hf => (bd f hf).1⟩
    have hD' := hD
    rw [← ef] at hD'
    obtain ⟨X', B', F', g1, g2, g3, g4, g5⟩ := f_settle (fu := fu) (by omega) hw hS.1 hfu hC hpv.1 p3 hD' (fun g hg => (p2 g hg).2) hI.2.2.2.1.1
    generalize hW : fw (go_u W ip (some (3, wA W ip, go_si (wO W ip) 2 1))) ip (gp_c R) (wA W 2) (fun f => wA W (8 * ip + f)) B' F' = W' at g2
    have x2 : W' 2 = some (1, wA W 2, F') := by rw [← hW]; exact fw_F
    have xp : W' ip = some (3, wA W ip, go_si (wO W ip) 2 1) := by rw [← hW, fw_o (by omega) (by omega), go_u_s]
    have xb : ∀ f, f < gp_c R → W' (8 * ip + f) = some (0, wA W (8 * ip + f), B' f) := fun f hf => by rw [← hW]; exact fw_B (by omega) hf
    have xo : ∀ j, j ≠ 2 → j ≠ ip → (j < 8 * ip ∨ 8 * ip + gp_c R ≤ j) → W' j = W j := fun j h1 h2 h3 => by rw [← hW, fw_o h1 h3, go_u_n h2]
    have yb : ∀ f, f < gp_c R → wB W' ip f = B' f := fun f hf => (wi_mk (xb f hf)).2.2
    have yA : ∀ j, wA W' j = wA W j := fun j => by
      by_cases j2 : j = 2
      · rw [j2]
        exact (wi_mk x2).2.1
      · by_cases jp : j = ip
        · rw [jp]
          exact (wi_mk xp).2.1
        · by_cases jb : 8 * ip ≤ j ∧ j < 8 * ip + gp_c R
          · have := (wi_mk (xb (j - 8 * ip) (by omega))).2.1
            rw [show 8 * ip + (j - 8 * ip) = j by omega] at this
            exact this
          · exact wA_eq (xo j j2 jp (by omega))
    have hst : pst T R W' ip := by
      refine ⟨fun f hf => by rw [yb f hf]; exact (g3 f hf).2, fun f hf i hi => ?_, fun f hf => ?_⟩
      · have := g5.1 f hf i hi
        unfold fMy at this ⊢
        rw [yb f hf]
        exact this
      · have := g5.2 f hf
        unfold fEn fEx fAl at this ⊢
        rw [yb f hf]
        exact this
    have hfl : (wO W' ip).1 2 = 1 := by rw [(wi_mk xp).2.2]; rfl
    have hph' : ph T R W' ip := ⟨by rw [(wi_mk xp).2.2]; exact p1, fun f hf => ⟨(wi_mk (xb f hf)).1, by rw [yb f hf]; exact (g3 f hf).1⟩, Or.inr ⟨hfl, hst⟩⟩
    have hpv' : pv W' ip := by
      refine ⟨(wi_mk xp).1, fun f hf => ?_⟩
      by_cases hfc : f < gp_c R
      · exact Or.inr ⟨by rw [(wi_mk xp).2.2, (wi_mk (xb f hfc)).2.1]; exact (bd f hfc).1, (wi_mk (xb f hfc)).1, by rw [(wi_mk (xb f hfc)).2.2]; exact (g3 f hfc).1.1⟩
      · have eo := xo (8 * ip + f) (by omega) (by omega) (by omega)
        rw [(wi_mk xp).2.2, wA_eq eo, wO_eq eo]
        rcases hpv.2 f hf with ⟨h1, h2⟩ | ⟨h1, h2, h3⟩
        · exact Or.inl ⟨h1, eo.trans h2⟩
        · exact Or.inr ⟨h1, wi_eq eo h2, h3⟩
    refine ⟨X', W', g1, g2, CI_prog hS hI hip ⟨(wi_mk x2).1, yA 2, by rw [(wi_mk x2).2.2]; exact g4⟩ (fun j h1 h2 h3 => xo j h1 h2 (by omega)) hpv' (yA ip) (fun e => ?_) (fun e hf => ?_), xo 6 (by omega) (by omega) (by omega), yA, xo 0 (by omega) (by omega) (by omega), xo 1 (by omega) (by omega) (by omega), xo 3 (by omega) (by omega) (by omega), hph', hst, hfl⟩
    · rcases s with ⟨rfl, -, rfl⟩ | ⟨rfl, hf, -, rfl⟩
      · exact hph'
      · have := hI.2.1
        unfold sip at hi
        rw [if_pos rfl] at hi
        omega
    · rcases s with ⟨rfl, -, rfl⟩ | ⟨rfl, -, -, rfl⟩
      · have := hI.2.1
        have hi : cur = ip := hi
        omega
      · exact hph'
  · have e := gq_3 (wA W ip) (wO W ip) X
    rw [hD.k hpv.1] at e
    refine ⟨X, W, ?_, hD, hI, rfl, fun _ => rfl, rfl, rfl, rfl, hph, p4, p3⟩
    unfold gm_X1_settle
    simp only [e, Option.bind_some, p3]
    rw [if_neg (by decide)]
end CV
