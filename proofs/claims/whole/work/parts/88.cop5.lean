/-! the class: forge -/
/-- a FUNCTION that is settled, and what is needed to look at it -/
def sr (T : sT) (P : sP) (V : gw_T) (cur f : Nat) : Prop := (wi V 1 4 ∧ rt T (wO V 1)) ∧ wi V (8 * cur + f) 0 ∧ bs P f (wO V (8 * cur + f)) ∧ ba P f (wO V (8 * cur + f)) ∧ ∀ i, i < gp_l P f → gl_is (ml (wO V (8 * cur + f)) 8 i) (gl_m T P f i)
section CF
variable {fu : Nat} {T : sT} {P P1 : sP} {fg : Prop} {cur : Nat} {V W W' : gw_T} {X : gx_H} {f : Nat}
theorem c_lIn (hD : gw_D V X) (h : sr T P V cur f) (hw : gp_wf P) (hTw : gs_wf T) (hfu : 100 ≤ fu) (hf : f < gp_c P) (hR : wi V 3 2) (hRT : (wO V 3).2.2.1 0 = some (wA V 1)) : ∀ (d n i : Nat), i + d = gp_l P f → d < n → gm_X2_lackingIn_4 fu n (wA V 3) (wA V (8 * cur + f)) (nI (gn_s (lk T P f) i)) (nI i) X = some (nI (lkn T P f), X)
  | d, 0, i, _, hn => absurd hn (Nat.not_lt_zero _)
  | d, n + 1, i, hd, hn => by
    obtain ⟨⟨t1, t2⟩, b1, b2, b3, b4⟩ := id h
    have l2 := (hw.2 f hf).1.2
    have eb := hD.k b1
    have eT := hD.k t1
    have qb := gq_0 (wA V (8 * cur + f)) (wO V (8 * cur + f)) X
    rw [eb] at qb
    have qR := gq_2 (wA V 3) (wO V 3) X
    rw [hD.k hR] at qR
    rw [gm_X2_lackingIn_4]
    simp only [qb, qR, Option.bind_some, b2.2.1, hRT]
    by_cases e0 : d = 0
    · rw [if_pos ((nI_leI (by omega) (by omega)).mpr (by omega)), show i = gp_l P f by omega]
      rfl
    · rw [if_neg (fun q => absurd ((nI_leI (by omega) (by omega)).mp q) (by omega)), gx_obT eT, c_lacks eT t2 hTw hw hfu eb hf b2 b3 (show i < gp_l P f by omega) (b4 i (by omega)), gx_b2s]
      unfold gm_X2_lackingIn_30
      rw [show nI i + 1 = nI (i + 1) from (nI_succ i).symm]
      have ih := c_lIn hD h hw hTw hfu hf hR hRT (d - 1) n (i + 1) (by omega) (by omega)
      rw [gn_ss] at ih
      by_cases g : gp_lack T P f i
      · rw [gz_t g, if_neg (by decide), li1, nI_add]
        rw [lk_t g] at ih
        exact ih
      · rw [gz_f g, if_pos rfl, li0, nI_add]
        rw [lk_f g] at ih
        exact ih
theorem mn_s {f c : Nat} (h : f < c) : mn f c = f ∧ mn (f + 1) c = f + 1 := by
  unfold mn
  exact ⟨if_pos (by omega), if_pos (by omega)⟩
theorem mn_o {f c : Nat} (h : c ≤ f) : mn f c = c ∧ mn (f + 1) c = c := by
  unfold mn
  refine ⟨?_, if_neg (by omega)⟩
  split <;> omega
theorem c_cL4 (hD : gw_D V X) (h : ∀ f, f < gp_c P → sr T P V cur f) (hp : pv V cur) (hh : ph T P V cur) (hw : gp_wf P) (hTw : gs_wf T) (hfu : 300 ≤ fu) (hR : wi V 3 2) (hRT : (wO V 3).2.2.1 0 = some (wA V 1)) : ∀ (d n f : Nat), f + d = 8 → d < n → (∀ g, g < f → g < gp_c P → gp_l P g + lkn T P g ≤ 200) →
    (fit T P ∧ gm_X2_countLacking_4 fu n (wA V 3) (wA V cur) (nI (gn_s (lkn T P) (mn f (gp_c P)))) (nI f) X = some (nI (gn_s (lkn T P) (gp_c P)), X)) ∨ (¬ fit T P ∧ gm_X2_countLacking_4 fu n (wA V 3) (wA V cur) (nI (gn_s (lkn T P) (mn f (gp_c P)))) (nI f) X = some (-1, X))
  | d, 0, f, _, hn, _ => absurd hn (Nat.not_lt_zero _)
  | d, n + 1, f, hd, hn, hb => by
    have hc := hw.1
    rw [gm_X2_countLacking_4, li8]
    by_cases e0 : d = 0
    · rw [if_pos ((nI_leI (by omega) (by omega)).mpr (by omega)), (mn_o (by omega)).1]
      exact Or.inl ⟨fun g hg => hb g (by omega) hg, rfl⟩
    · rw [if_neg (fun q => absurd ((nI_leI (by omega) (by omega)).mp q) (by omega)), gx_obT (hD.k hp.1)]
      unfold gm_X2_countLacking_51
      rw [show nI f + 1 = nI (f + 1) from (nI_succ f).symm]
      have ih := c_cL4 hD h hp hh hw hTw hfu hR hRT (d - 1) n (f + 1) (by omega) (by omega)
      rcases c_body (fu := fu) (hD.k hp.1) hh.1 (fun f hf => (ph_bd hp hh hw hf).1) hw (nI f) with ⟨h1, h2⟩ | ⟨g, h1, h2, h3⟩
      · have hfc : gp_c P ≤ f := Nat.not_lt.mp fun q => h2 ⟨f, rfl, q⟩
        rw [h1, gx_b2s, gx_nln, (mn_o hfc).1]
        rw [(mn_o hfc).2] at ih
        exact ih fun g q1 q2 => hb g (by omega) q2
      · have := nI_inj (by omega) (by omega) h1
        subst this
        obtain ⟨⟨l1, l2⟩, -⟩ := hw.2 f h2
        have n2 := lkn_le (T := T) hw h2
        have li : gm_X2_lackingIn fu (wA V 3) (wA V (8 * cur + f)) X = some (nI (lkn T P f), X) := c_lIn hD (h f h2) hw hTw (by omega) h2 hR hRT (gp_l P f) fu 0 (by omega) (by omega)
        rw [h3, gx_b2s, gx_nls, gx_obT (hD.k hR), li, gx_b2s]
        have qb := gq_0 (wA V (8 * cur + f)) (wO V (8 * cur + f)) X
        rw [hD.k (h f h2).2.1] at qb
        simp only [qb, Option.bind_some, (h f h2).2.2.1.2.1]
        rw [li200, nI_add, nI_add]
        rw [(mn_s h2).2, gn_ss] at ih
        rw [(mn_s h2).1]
        by_cases c : gp_l P f + lkn T P f ≤ 200
        · rw [if_pos ((nI_leI (by omega) (by omega)).mpr c)]
          exact ih fun g q1 q2 => by
            by_cases e : g = f
            · subst e
              exact c
            · exact hb g (by omega) q2
        · rw [if_neg (fun q => c ((nI_leI (by omega) (by omega)).mp q))]
          exact Or.inr ⟨fun q => c (q f h2), rfl⟩
/-- a world with the Forger and the body that is being made -/
def w3 (V : gw_T) (aR : Nat) (RO : go_O) (jb ab : Nat) (b : go_O) : gw_T := fun j => if j = 3 then some (2, aR, RO) else if j = jb then some (0, ab, b) else V j
theorem w3_R {aR jb ab : Nat} {RO b : go_O} : w3 V aR RO jb ab b 3 = some (2, aR, RO) := by simp [w3]
theorem w3_b {aR jb ab : Nat} {RO b : go_O} (h : jb ≠ 3) : w3 V aR RO jb ab b jb = some (0, ab, b) := by simp [w3, h]
theorem w3_o {aR jb ab j : Nat} {RO b : go_O} (h1 : j ≠ 3) (h2 : j ≠ jb) : w3 V aR RO jb ab b j = V j := by simp [w3, h1, h2]
theorem d3_R {aR jb ab : Nat} {RO b : go_O} (h : gw_D (w3 V aR RO jb ab b) X) (RO' : go_O) : gw_D (w3 V aR RO' jb ab b) (go_k 2 aR RO' X) := by
  have := h.up w3_R RO'
  have e : go_u (w3 V aR RO jb ab b) 3 (some (2, aR, RO')) = w3 V aR RO' jb ab b := by
    funext j
    unfold go_u w3
    by_cases c : j = 3
    · rw [if_pos c, if_pos c]
    · rw [if_neg c, if_neg c, if_neg c]
  rw [e] at this
  exact this
theorem d3_b {aR jb ab : Nat} {RO b : go_O} (hj : jb ≠ 3) (h : gw_D (w3 V aR RO jb ab b) X) (b' : go_O) : gw_D (w3 V aR RO jb ab b') (go_k 0 ab b' X) := by
  have := h.up (w3_b hj) b'
  have e : go_u (w3 V aR RO jb ab b) jb (some (0, ab, b')) = w3 V aR RO jb ab b' := by
    funext j
    unfold go_u w3
    by_cases c : j = jb
    · rw [if_pos c, if_neg (by omega), if_pos c]
    · rw [if_neg c]
      by_cases c2 : j = 3
      · rw [if_pos c2, if_pos c2]
      · rw [if_neg c2, if_neg c2, if_neg c, if_neg c]
  rw [e] at this
  exact this
/-- one INSTRUCTION is copied, its number not yet moved -/
def cdo (T : sT) (P : sP) (f : Nat) (b : go_O) (j : Nat) : Prop := mi b 1 (pl T P f j + lk T P f j) = nI (gp_k P f j) ∧ mi b 2 (pl T P f j + lk T P f j) = nI (gp_n P f j) ∧ (gp_lack T P f j → mi b 1 (pl T P f j) = nI 5 ∧ mi b 2 (pl T P f j) = nI (gp_n P f j))
set_option maxHeartbeats 2000000 in
theorem c_cI5 {aR jb ab : Nat} (hj : 32 ≤ jb) (hne : jb ≠ 8 * cur + f) (hcu : cur = 4 ∨ cur = 5) (hV : sr T P V cur f) (hw : gp_wf P) (hTw : gs_wf T) (hfu : 100 ≤ fu) (hf : f < gp_c P) (hfit : gp_l P f + lkn T P f ≤ 200) : ∀ (d n i : Nat) (RO b : go_O) (X : gx_H), gw_D (w3 V aR RO jb ab b) X → RO.2.2.1 0 = some (wA V 1) → i + d = gp_l P f → d < n → (∀ j, j < i → mi RO 1 j = nI (pl T P f j)) → (∀ j, j < i → cdo T P f b j) →
    ∃ RO' b' X', gm_X2_copyInstructions_5 fu n aR (wA V (8 * cur + f)) ab (nI (pl T P f i)) (nI i) X = some X' ∧ gw_D (w3 V aR RO' jb ab b') X' ∧ RO'.2.2.1 = RO.2.2.1 ∧ b'.1 = b.1 ∧ (∀ j, j ≤ gp_l P f → mi RO' 1 j = nI (pl T P f j)) ∧ ∀ j, j < gp_l P f → cdo T P f b' j
  | d, 0, i, RO, b, X, _, _, _, hn, _, _ => absurd hn (Nat.not_lt_zero _)
  | d, n + 1, i, RO, b, X, hD, hRT, hd, hn, hp, hb => by
    obtain ⟨⟨t1, t2⟩, b1, b2, b3, b4⟩ := id hV
    obtain ⟨⟨-, l2⟩, -, hIw, -⟩ := hw.2 f hf
    have x1 : w3 V aR RO jb ab b 1 = some (4, wA V 1, wO V 1) := (w3_o (by omega) (by omega)).trans t1
    have xs : w3 V aR RO jb ab b (8 * cur + f) = some (0, wA V (8 * cur + f), wO V (8 * cur + f)) := (w3_o (by omega) (by omega)).trans b1
    have qs := gq_0 (wA V (8 * cur + f)) (wO V (8 * cur + f)) X
    rw [hD.k xs] at qs
    have qR := gq_2 aR RO X
    rw [hD.k w3_R] at qR
    rw [gm_X2_copyInstructions_5]
    simp only [qs, qR, Option.bind_some, b2.2.1]
    by_cases e0 : d = 0
    · have rl : gp_l P f < 201 := by omega
      rw [if_pos ((nI_leI (by omega) (by omega)).mpr (by omega)), show i = gp_l P f by omega]
      simp only [qR, rl, Option.bind_some]
      refine ⟨_, b, _, rfl, d3_R hD _, rfl, rfl, fun j hj' => ?_, fun j hj' => hb j (by omega)⟩
      rw [mi_ai]
      by_cases e : j = gp_l P f
      · rw [if_pos ⟨rfl, e⟩, e]
      · rw [if_neg fun q => e q.2]
        exact hp j (by omega)
    · rw [if_neg (fun q => absurd ((nI_leI (by omega) (by omega)).mp q) (by omega))]
      have hi : i < gp_l P f := by omega
      have ri : i < 201 := by omega
      simp only [qR, ri, Option.bind_some]
      have hD1 := d3_R hD (go_ai RO 1 i (nI (pl T P f i)))
      have qR1 := gq_2 aR (go_ai RO 1 i (nI (pl T P f i))) X
      have hRT1 : (go_ai RO 1 i (nI (pl T P f i))).2.2.1 0 = some (wA V 1) := hRT
      have x1' : w3 V aR (go_ai RO 1 i (nI (pl T P f i))) jb ab b 1 = some (4, wA V 1, wO V 1) := (w3_o (by omega) (by omega)).trans t1
      have xs' : w3 V aR (go_ai RO 1 i (nI (pl T P f i))) jb ab b (8 * cur + f) = some (0, wA V (8 * cur + f), wO V (8 * cur + f)) := (w3_o (by omega) (by omega)).trans b1
      have eT := hD1.k x1'
      have es := hD1.k xs'
      simp only [qR1, Option.bind_some, hRT1]
      rw [gx_obT eT, c_lacks eT t2 hTw hw hfu es hf b2 b3 hi (b4 i hi), gx_b2s]
      have pll := pl_lt (T := T) (P := P) (f := f) (i := i) (gp_l P f) hi
      rw [pl_l] at pll
      obtain ⟨k1, k2⟩ := b2.2.2.2.1 i hi
      have r2 : i < 200 := by omega
      have hp1 : ∀ j, j < i + 1 → mi (go_ai RO 1 i (nI (pl T P f i))) 1 j = nI (pl T P f j) := fun j hj' => by
        rw [mi_ai]
        by_cases e : j = i
        · rw [if_pos ⟨rfl, e⟩, e]
        · rw [if_neg fun q => e q.2]
          exact hp j (by omega)
      -- from a body with the GUARD put where one lacks
      have go : ∀ (b1' : go_O) (X1 : gx_H), gw_D (w3 V aR (go_ai RO 1 i (nI (pl T P f i))) jb ab b1') X1 → b1'.1 = b.1 → (∀ j, j < i → cdo T P f b1' j) → (gp_lack T P f i → mi b1' 1 (pl T P f i) = nI 5 ∧ mi b1' 2 (pl T P f i) = nI (gp_n P f i)) →
          ∃ RO' b' X', gm_X2_copyInstructions_51 fu (gm_X2_copyInstructions_5 fu n) aR (wA V (8 * cur + f)) ab (nI (pl T P f i + lk T P f i)) (nI i) X1 = some X' ∧ gw_D (w3 V aR RO' jb ab b') X' ∧ RO'.2.2.1 = RO.2.2.1 ∧ b'.1 = b.1 ∧ (∀ j, j ≤ gp_l P f → mi RO' 1 j = nI (pl T P f j)) ∧ ∀ j, j < gp_l P f → cdo T P f b' j := by
        intro b1' X1 hX1 hb1 hbj hgd
        have qs1 := gq_0 (wA V (8 * cur + f)) (wO V (8 * cur + f)) X1
        rw [hX1.k ((w3_o (by omega) (by omega)).trans b1)] at qs1
        have eb1 := hX1.k (w3_b (V := V) (show jb ≠ 3 by omega))
        have cp := c_put (fu := fu) (a := ab) (b := b1') (X := X1) (i := pl T P f i + lk T P f i) (by omega) (nI (gp_k P f i)) (nI (gp_n P f i))
        rw [eb1] at cp
        unfold gm_X2_copyInstructions_51
        simp only [qs1, r2, Option.bind_some, k1, k2]
        rw [gx_obT eb1, cp, Option.bind_some, show nI i + 1 = nI (i + 1) from (nI_succ i).symm, show nI (pl T P f i + lk T P f i) + 1 = nI (pl T P f (i + 1)) by rw [← nI_succ, pl_s]; congr 1; omega]
        have hX2 := d3_b (show jb ≠ 3 by omega) hX1 (go_ai (go_ai b1' 1 (pl T P f i + lk T P f i) (nI (gp_k P f i))) 2 (pl T P f i + lk T P f i) (nI (gp_n P f i)))
        obtain ⟨RO', b', X', g1, g2, g3, g4, g5, g6⟩ := c_cI5 hj hne hcu hV hw hTw hfu hf hfit (d - 1) n (i + 1) _ _ _ hX2 hRT1 (by omega) (by omega) hp1 (fun j hj' => by
          by_cases e : j = i
          · subst e
            refine ⟨by rw [mi_ai, if_neg (by omega), mi_ai, if_pos ⟨rfl, rfl⟩], by rw [mi_ai, if_pos ⟨rfl, rfl⟩], fun hl => ?_⟩
            have := lk_t hl
            rw [mi_ai, if_neg (by omega), mi_ai, if_neg (by omega), mi_ai, if_neg (by omega), mi_ai, if_neg (by omega)]
            exact hgd hl
          · have pj := pl_lt (T := T) (P := P) (f := f) (i := j) i (by omega)
            obtain ⟨c1, c2, c3⟩ := hbj j (by omega)
            refine ⟨by rw [mi_ai, if_neg (by omega), mi_ai, if_neg (by omega)]; exact c1, by rw [mi_ai, if_neg (by omega), mi_ai, if_neg (by omega)]; exact c2, fun hl => ?_⟩
            rw [mi_ai, if_neg (by omega), mi_ai, if_neg (by omega), mi_ai, if_neg (by omega), mi_ai, if_neg (by omega)]
            exact c3 hl)
        exact ⟨RO', b', X', g1, g2, g3, g4.trans hb1, g5, g6⟩
      by_cases g : gp_lack T P f i
      · rw [gz_t g, if_neg (by decide)]
        have lkt := lk_t g
        have qs1 := gq_0 (wA V (8 * cur + f)) (wO V (8 * cur + f)) (go_k 2 aR (go_ai RO 1 i (nI (pl T P f i))) X)
        rw [es] at qs1
        have eb1 := hD1.k (w3_b (V := V) (show jb ≠ 3 by omega))
        have cp := c_put (fu := fu) (a := ab) (b := b) (X := go_k 2 aR (go_ai RO 1 i (nI (pl T P f i))) X) (i := pl T P f i) (by omega) (nI 5) (nI (gp_n P f i))
        rw [eb1] at cp
        simp only [qs1, r2, Option.bind_some, k2]
        rw [gx_obT eb1, show (5 : Int32) = nI 5 from rfl, cp, Option.bind_some, show nI (pl T P f i) + 1 = nI (pl T P f i + lk T P f i) by rw [lkt, ← nI_succ]]
        refine go _ _ (d3_b (show jb ≠ 3 by omega) hD1 _) rfl (fun j hj' => ?_) (fun _ => ⟨by rw [mi_ai, if_neg (by omega), mi_ai, if_pos ⟨rfl, rfl⟩], by rw [mi_ai, if_pos ⟨rfl, rfl⟩]⟩)
        have pj := pl_lt (T := T) (P := P) (f := f) (i := j) i (by omega)
        obtain ⟨c1, c2, c3⟩ := hb j hj'
        refine ⟨by rw [mi_ai, if_neg (by omega), mi_ai, if_neg (by omega)]; exact c1, by rw [mi_ai, if_neg (by omega), mi_ai, if_neg (by omega)]; exact c2, fun hl => ?_⟩
        rw [mi_ai, if_neg (by omega), mi_ai, if_neg (by omega), mi_ai, if_neg (by omega), mi_ai, if_neg (by omega)]
        exact c3 hl
      · rw [gz_f g, if_pos rfl]
        have := go b _ hD1 rfl hb (fun h => absurd h g)
        rw [lk_f g] at this
        exact this
/-- a body whose numbers are moved below p -/
def mvd (P1 : sP) (f : Nat) (pls : Nat → Nat) (l p : Nat) (b : go_O) : Prop := ∀ j, j < gp_l P1 f → mi b 1 j = nI (gp_k P1 f j) ∧ ((j < p ∨ ¬ (gp_k P1 f j = 1 ∨ gp_k P1 f j = 2)) → mi b 2 j = nI (gp_n P1 f j)) ∧ (p ≤ j → (gp_k P1 f j = 1 ∨ gp_k P1 f j = 2) → ∃ t, t ≤ l ∧ mi b 2 j = nI t ∧ gp_n P1 f j = pls t)
set_option maxHeartbeats 1000000 in
theorem c_mT2 {aR jb ab l : Nat} {RO : go_O} {q : Nat → Nat} (hj : 32 ≤ jb) (hw1 : gp_wf P1) (hf : f < gp_c P1) (hl : l ≤ 200) (hp : ∀ j, j ≤ l → mi RO 1 j = nI (q j)) : ∀ (d n p : Nat) (b : go_O) (X : gx_H), gw_D (w3 V aR RO jb ab b) X → b.1 6 = nI (gp_l P1 f) → mvd P1 f q l p b → p + d = gp_l P1 f → d < n →
    ∃ b' X', gm_X2_moveTargets_2 fu n aR ab (nI p) X = some X' ∧ gw_D (w3 V aR RO jb ab b') X' ∧ b'.1 = b.1 ∧ ∀ j, j < gp_l P1 f → mi b' 1 j = nI (gp_k P1 f j) ∧ mi b' 2 j = nI (gp_n P1 f j)
  | d, 0, p, b, X, _, _, _, _, hn => absurd hn (Nat.not_lt_zero _)
  | d, n + 1, p, b, X, hD, h6, hm, hd, hn => by
    obtain ⟨⟨-, l2⟩, -, hIw, -⟩ := hw1.2 f hf
    have eb := hD.k (w3_b (V := V) (show jb ≠ 3 by omega))
    have qb := gq_0 ab b X
    rw [eb] at qb
    have qR := gq_2 aR RO X
    rw [hD.k w3_R] at qR
    rw [gm_X2_moveTargets_2]
    simp only [qb, Option.bind_some, h6]
    by_cases e0 : d = 0
    · rw [if_pos ((nI_leI (by omega) (by omega)).mpr (by omega))]
      exact ⟨b, X, rfl, hD, rfl, fun j hj' => ⟨(hm j hj').1, (hm j hj').2.1 (Or.inl (by omega))⟩⟩
    · rw [if_neg (fun q => absurd ((nI_leI (by omega) (by omega)).mp q) (by omega))]
      have hpl : p < gp_l P1 f := by omega
      obtain ⟨m1, m2, m3⟩ := hm p hpl
      have k8 := (hIw p hpl).1
      have rp : p < 200 := by omega
      rw [gx_obT eb, c_goesTo m1 k8 rp eb, gx_b2s]
      unfold gm_X2_moveTargets_35
      rw [show nI p + 1 = nI (p + 1) from (nI_succ p).symm]
      by_cases k12 : gp_k P1 f p = 1 ∨ gp_k P1 f p = 2
      · rw [gz_t k12, if_neg (by decide)]
        obtain ⟨t, t1, t2, t3⟩ := m3 (Nat.le_refl _) k12
        have rt' : t < 201 := by omega
        have e1 : RO.2.2.2.1 1 t = nI (q t) := hp t t1
        simp only [qb, qR, rp, rt', Option.bind_some, t2, e1]
        obtain ⟨b', X', g1, g2, g3, g4⟩ := c_mT2 hj hw1 hf hl hp (d - 1) n (p + 1) _ _ (d3_b (show jb ≠ 3 by omega) hD (go_ai b 2 p (nI (q t)))) h6 (fun j hj' => by
          obtain ⟨a1, a2, a3⟩ := hm j hj'
          rw [mi_ai, if_neg (by omega), mi_ai]
          by_cases e : j = p
          · subst e
            rw [if_pos ⟨rfl, rfl⟩, ← t3]
            exact ⟨a1, fun _ => rfl, fun h => by omega⟩
          · rw [if_neg fun q => e q.2]
            exact ⟨a1, fun h => a2 (by omega), fun h => a3 (by omega)⟩) (by omega) (by omega)
        exact ⟨b', X', g1, g2, g3, g4⟩
      · rw [gz_f k12, if_pos rfl]
        exact c_mT2 hj hw1 hf hl hp (d - 1) n (p + 1) b X hD h6 (fun j hj' => by
          obtain ⟨a1, a2, a3⟩ := hm j hj'
          refine ⟨a1, fun h => ?_, fun h => a3 (by omega)⟩
          by_cases e : j = p
          · subst e
            exact a2 (Or.inr k12)
          · exact a2 (by omega)) (by omega) (by omega)
set_option maxHeartbeats 1000000 in
theorem c_cH2 {aR jb ab : Nat} {RO : go_O} (hj : 32 ≤ jb) (hne : jb ≠ 8 * cur + f) (hcu : cur = 4 ∨ cur = 5) (hV : sr T P V cur f) (hw : gp_wf P) (hf : f < gp_c P) (hp : ∀ j, j ≤ gp_l P f → mi RO 1 j = nI (pl T P f j)) : ∀ (d n h : Nat) (b : go_O) (X : gx_H), gw_D (w3 V aR RO jb ab b) X → b.1 7 = nI h → (∀ k, k < h → mi b 3 k = nI (pl T P f (gp_a P f k)) ∧ mi b 4 k = nI (pl T P f (gp_b P f k)) ∧ mi b 5 k = nI (pl T P f (gp_g P f k))) → h + d = gp_h P f → d < n →
    ∃ b' X', gm_X2_copyHandlers_2 fu n aR (wA V (8 * cur + f)) ab (nI h) X = some X' ∧ gw_D (w3 V aR RO jb ab b') X' ∧ b'.1 0 = b.1 0 ∧ b'.1 6 = b.1 6 ∧ b'.1 7 = nI (gp_h P f) ∧ (∀ j, mi b' 1 j = mi b 1 j ∧ mi b' 2 j = mi b 2 j) ∧ ∀ k, k < gp_h P f → mi b' 3 k = nI (pl T P f (gp_a P f k)) ∧ mi b' 4 k = nI (pl T P f (gp_b P f k)) ∧ mi b' 5 k = nI (pl T P f (gp_g P f k))
  | d, 0, h, b, X, _, _, _, _, hn => absurd hn (Nat.not_lt_zero _)
  | d, n + 1, h, b, X, hD, h7, hk, hd, hn => by
    obtain ⟨⟨t1, t2⟩, b1, b2, b3, b4⟩ := id hV
    obtain ⟨⟨-, l2⟩, l6, -, hH⟩ := hw.2 f hf
    have eb := hD.k (w3_b (V := V) (show jb ≠ 3 by omega))
    have qs := gq_0 (wA V (8 * cur + f)) (wO V (8 * cur + f)) X
    rw [hD.k ((w3_o (by omega) (by omega)).trans b1)] at qs
    have qR := gq_2 aR RO X
    rw [hD.k w3_R] at qR
    rw [gm_X2_copyHandlers_2]
    simp only [qs, Option.bind_some, b2.2.2.1]
    by_cases e0 : d = 0
    · rw [if_pos ((nI_leI (by omega) (by omega)).mpr (by omega))]
      exact ⟨b, X, rfl, hD, rfl, rfl, by rw [h7, show h = gp_h P f by omega], fun j => ⟨rfl, rfl⟩, fun k hk' => hk k (by omega)⟩
    · rw [if_neg (fun q => absurd ((nI_leI (by omega) (by omega)).mp q) (by omega))]
      have rh : h < 6 := by omega
      obtain ⟨c1, c2, c3⟩ := b2.2.2.2.2 h (by omega)
      obtain ⟨o1, o2, o3⟩ := hH h (by omega)
      have ra : gp_a P f h < 201 := by omega
      have rb : gp_b P f h < 201 := by omega
      have rg' : gp_g P f h < 201 := by omega
      have e1 : RO.2.2.2.1 1 (gp_a P f h) = nI (pl T P f (gp_a P f h)) := hp _ (by omega)
      have e2 : RO.2.2.2.1 1 (gp_b P f h) = nI (pl T P f (gp_b P f h)) := hp _ (by omega)
      have e3 : RO.2.2.2.1 1 (gp_g P f h) = nI (pl T P f (gp_g P f h)) := hp _ (by omega)
      simp only [qs, qR, rh, ra, rb, rg', Option.bind_some, c1, c2, c3, e1, e2, e3]
      have cp := c_addHandler (fu := fu) (a := ab) (b := b) (X := X) rh h7 (nI (pl T P f (gp_a P f h))) (nI (pl T P f (gp_b P f h))) (nI (pl T P f (gp_g P f h)))
      rw [eb] at cp
      rw [gx_obT eb, cp, Option.bind_some, show nI h + 1 = nI (h + 1) from (nI_succ h).symm]
      generalize hb' : go_si (go_ai (go_ai (go_ai b 3 h (nI (pl T P f (gp_a P f h)))) 4 h (nI (pl T P f (gp_b P f h)))) 5 h (nI (pl T P f (gp_g P f h)))) 7 (nI (h + 1)) = b1'
      have at' : ∀ c j, mi b1' c j = if c = 5 ∧ j = h then nI (pl T P f (gp_g P f h)) else if c = 4 ∧ j = h then nI (pl T P f (gp_b P f h)) else if c = 3 ∧ j = h then nI (pl T P f (gp_a P f h)) else mi b c j := fun c j => by
        rw [← hb']
        show mi (go_ai (go_ai (go_ai b 3 h (nI (pl T P f (gp_a P f h)))) 4 h (nI (pl T P f (gp_b P f h)))) 5 h (nI (pl T P f (gp_g P f h)))) c j = _
        rw [mi_ai, mi_ai, mi_ai]
      obtain ⟨b', X', g1, g2, g3, g4, g5, g6, g7⟩ := c_cH2 hj hne hcu hV hw hf hp (d - 1) n (h + 1) b1' _ (d3_b (show jb ≠ 3 by omega) hD b1') (by rw [← hb']; rfl) (fun k hk' => by
        rw [at', at', at']
        by_cases e : k = h
        · subst e
          exact ⟨by rw [if_neg (by omega), if_neg (by omega), if_pos ⟨rfl, rfl⟩], by rw [if_neg (by omega), if_pos ⟨rfl, rfl⟩], by rw [if_pos ⟨rfl, rfl⟩]⟩
        · obtain ⟨d1, d2, d3⟩ := hk k (by omega)
          exact ⟨by rw [if_neg (by omega), if_neg (by omega), if_neg (by omega)]; exact d1, by rw [if_neg (by omega), if_neg (by omega), if_neg (by omega)]; exact d2, by rw [if_neg (by omega), if_neg (by omega), if_neg (by omega)]; exact d3⟩) (by omega) (by omega)
      refine ⟨b', X', g1, g2, g3.trans (by rw [← hb']; rfl), g4.trans (by rw [← hb']; rfl), g5, fun j => ?_, g7⟩
      rw [(g6 j).1, (g6 j).2, at', at', if_neg (by omega), if_neg (by omega), if_neg (by omega), if_neg (by omega), if_neg (by omega), if_neg (by omega)]
      exact ⟨rfl, rfl⟩
end CF
