/-! Flow: the table's goneTo; afterOf, passOn, passToHandlers -/
def rt (T : sT) (O : go_O) : Prop := O.1 2 = nI (gs_S T) ∧ (∀ c s t, c < 16 → s < 60 → (gb (ml O 1 (60 * c + s)) t = true ↔ gs_w T c s t = true)) ∧ ∀ c, c < 16 → mi O 0 c = if gs_n T c = true then 1 else 0
section CT
variable {fu aT c : Nat} {T : sT} {O : go_O} {X : gx_H} {y : Int64}
theorem c_waysFrom (e : go_k 4 aT O X = X) (hc : c < 16) {s : Nat} (hs : s < 60) : gm_X4_waysFrom fu aT (nI c) (nI s) X = some (ml O 1 (60 * c + s), X) := by
  have q := gq_4 aT O X
  rw [e] at q
  have r : 60 * c + s < 960 := by omega
  unfold gm_X4_waysFrom
  rw [li60, pk_mul, nI_add, show c * 60 + s = 60 * c + s by omega]
  simp only [q, r, Option.bind_some]
set_option maxHeartbeats 1000000 in
theorem c_gone6 (e : go_k 4 aT O X = X) (hT : rt T O) (hw : gs_wf T) (hc : c < 16) : ∀ (d n s : Nat) (acc : Int64), s + d = gs_S T → d < n →
    ∃ r, gm_X4_goneTo_6 fu n aT (nI c) y acc (nI s) X = some (r, X) ∧ ∀ t, gb r t = true ↔ (t < 60 ∧ (gb acc t = true ∨ ∃ u, s ≤ u ∧ u < gs_S T ∧ gb y u = true ∧ gs_w T c u t = true))
  | d, 0, s, acc, _, hn => absurd hn (Nat.not_lt_zero _)
  | d, n + 1, s, acc, hd, hn => by
    have h60 := hw.2.1
    have q := gq_4 aT O X
    rw [e] at q
    rw [gm_X4_goneTo_6]
    simp only [q, Option.bind_some, hT.1]
    by_cases e0 : d = 0
    · rw [if_pos ((nI_leI (by omega) (by omega)).mpr (by omega))]
      refine ⟨_, rfl, fun t => ?_⟩
      rw [gb_and, gb_m60]
      constructor
      · intro h
        have h := Bool.and_eq_true_iff.mp h
        exact ⟨of_decide_eq_true h.2, Or.inl h.1⟩
      · rintro ⟨h1, h2 | ⟨u, h2⟩⟩
        · rw [h2, decide_eq_true h1]; rfl
        · omega
    · rw [if_neg (fun q => absurd ((nI_leI (by omega) (by omega)).mp q) (by omega))]
      unfold gm_X4_goneTo_38
      rw [nI_1]
      by_cases hb : gb y s = true
      · rw [if_neg (fun q => by rw [(gb_t0 y (by omega)).mp q] at hb; cases hb), gx_obT e, c_waysFrom e hc (by omega), gx_b2s]
        obtain ⟨r, h3, h4⟩ := c_gone6 e hT hw hc (d - 1) n (s + 1) (acc ||| ml O 1 (60 * c + s)) (by omega) (by omega)
        refine ⟨r, h3, fun t => ?_⟩
        rw [h4, gb_or, Bool.or_eq_true_iff]
        constructor
        · rintro ⟨h1, (h | h) | ⟨u, h⟩⟩
          · exact ⟨h1, Or.inl h⟩
          · exact ⟨h1, Or.inr ⟨s, by omega, by omega, hb, (hT.2.1 c s t hc (by omega)).mp h⟩⟩
          · exact ⟨h1, Or.inr ⟨u, by omega, h.2.1, h.2.2.1, h.2.2.2⟩⟩
        · rintro ⟨h1, h | ⟨u, h⟩⟩
          · exact ⟨h1, Or.inl (Or.inl h)⟩
          · by_cases e2 : u = s
            · subst e2
              exact ⟨h1, Or.inl (Or.inr ((hT.2.1 c u t hc (by omega)).mpr h.2.2.2))⟩
            · exact ⟨h1, Or.inr ⟨u, by omega, h.2.1, h.2.2.1, h.2.2.2⟩⟩
      · have hb' : gb y s = false := by cases h : gb y s <;> simp_all
        rw [if_pos ((gb_t0 y (by omega)).mpr hb')]
        obtain ⟨r, h3, h4⟩ := c_gone6 e hT hw hc (d - 1) n (s + 1) acc (by omega) (by omega)
        refine ⟨r, h3, fun t => ?_⟩
        rw [h4]
        constructor
        · rintro ⟨h1, h | ⟨u, h⟩⟩
          · exact ⟨h1, Or.inl h⟩
          · exact ⟨h1, Or.inr ⟨u, by omega, h.2.1, h.2.2.1, h.2.2.2⟩⟩
        · rintro ⟨h1, h | ⟨u, h⟩⟩
          · exact ⟨h1, Or.inl h⟩
          · by_cases e2 : u = s
            · subst e2
              exact absurd h.2.2.1 hb
            · exact ⟨h1, Or.inr ⟨u, by omega, h.2.1, h.2.2.1, h.2.2.2⟩⟩
theorem c_goneTo (e : go_k 4 aT O X = X) (hT : rt T O) (hw : gs_wf T) (hc : c < 16) (hfu : 100 ≤ fu) : ∃ r, gm_X4_goneTo fu aT (nI c) y X = some (r, X) ∧ ∀ t, gb r t = true ↔ gs_led T c (fun u => gb y u = true) t := by
  have h60 := hw.2.1
  obtain ⟨r, h1, h2⟩ := c_gone6 (fu := fu) (y := y) e hT hw hc (gs_S T) fu 0 0 (by omega) (by omega)
  refine ⟨r, h1, fun t => ?_⟩
  rw [h2, gb_0]
  constructor
  · rintro ⟨h3, h | ⟨u, -, h1, h2, h4⟩⟩
    · cases h
    · have := (hw.2.2 c u t h4).2.2
      exact ⟨by omega, u, h1, h2, h4⟩
  · rintro ⟨h3, u, h1, h2, h4⟩
    exact ⟨by omega, Or.inr ⟨u, by omega, h1, h2, h4⟩⟩
end CT
/-- what Flow reads beside bodies and itself: the table, the program's object -/
def fc (W0 : gw_T) (T : sT) (P : sP) (ip aT aP : Nat) (ad : Nat → Nat) : Prop := ∃ OT OP, W0 1 = some (4, aT, OT) ∧ rt T OT ∧ W0 ip = some (3, aP, OP) ∧ OP.1 1 = nI (gp_c P) ∧ ∀ f, f < gp_c P → OP.2.2.2.2.2 0 f = some (ad f)
section FS
variable {W0 : gw_T} {ip aF aT aP : Nat} {ad : Nat → Nat} {B : Nat → go_O} {F : go_O} {X : gx_H} {fu f i t : Nat} {T : sT} {P : sP}
theorem c_body {OP : go_O} (e : go_k 3 aP OP X = X) (h1 : OP.1 1 = nI (gp_c P)) (h2 : ∀ f, f < gp_c P → OP.2.2.2.2.2 0 f = some (ad f)) (hw : gp_wf P) (x : Int32) : gm_X3_body fu aP x X = some (none, X) ∧ (¬ ∃ f, x = nI f ∧ f < gp_c P) ∨ ∃ f, x = nI f ∧ f < gp_c P ∧ gm_X3_body fu aP x X = some (some (ad f), X) := by
  have hc := hw.1
  have q := gq_3 aP OP X
  rw [e] at q
  unfold gm_X3_body gm_X3_body_21
  by_cases x0 : x < 0
  · rw [if_pos x0]
    left
    refine ⟨rfl, ?_⟩
    rintro ⟨f, rfl, hf⟩
    exact absurd x0 (nI_pos (by omega))
  · rw [if_neg x0]
    simp only [q, Option.bind_some, h1]
    by_cases x1 : nI (gp_c P) ≤ x
    · rw [if_pos x1]
      left
      refine ⟨rfl, ?_⟩
      rintro ⟨f, rfl, hf⟩
      exact absurd ((nI_leI (by omega) (by omega)).mp x1) (by omega)
    · rw [if_neg x1]
      obtain ⟨f, hf, rfl⟩ := nI_in0 x0 (by omega) x1
      right
      have r : f < 8 := by omega
      simp only [q, r, Option.bind_some, h2 f hf]
      exact ⟨f, rfl, hf, rfl⟩
theorem f_body (hip : 4 ≤ ip) (hw : gp_wf P) (hC : fc W0 T P ip aT aP ad) (h : gw_D (fw W0 ip (gp_c P) aF ad B F) X) (hf : f < gp_c P) : gm_X3_body fu aP (nI f) X = some (some (ad f), X) := by
  have hc := hw.1
  obtain ⟨OT, OP, c1, c2, c3, c4, c5⟩ := hC
  rcases c_body (fu := fu) (h.k ((fw_o (by omega) (by omega)).trans c3)) c4 c5 hw (nI f) with ⟨-, h2⟩ | ⟨g, h1, h2, h3⟩
  · exact absurd ⟨f, rfl, hf⟩ h2
  · have := nI_inj (by omega) (by omega) h1
    subst this
    exact h3
theorem f_bodyN (hip : 4 ≤ ip) (hw : gp_wf P) (hC : fc W0 T P ip aT aP ad) (h : gw_D (fw W0 ip (gp_c P) aF ad B F) X) (hf : gp_c P ≤ f) (hf2 : f < 2 ^ 31) : gm_X3_body fu aP (nI f) X = some (none, X) := by
  have hc := hw.1
  obtain ⟨OT, OP, c1, c2, c3, c4, c5⟩ := hC
  rcases c_body (fu := fu) (h.k ((fw_o (by omega) (by omega)).trans c3)) c4 c5 hw (nI f) with ⟨h1, -⟩ | ⟨g, h1, h2, h3⟩
  · exact h1
  · have := nI_inj (by omega) (by omega) h1
    omega
abbrev bm (P : sP) (B : Nat → go_O) : Nat → Nat → Nat → Prop := gl_pm P (fMy B)
abbrev be (P : sP) (B : Nat → go_O) : Nat → Nat → Prop := gl_pe P (fEn B)
abbrev bx (P : sP) (B : Nat → go_O) : Nat → Nat → Prop := gl_pe P (fEx B)
abbrev bl (P : sP) (B : Nat → go_O) : Nat → Nat → Prop := gl_pe P (fAl B)
set_option maxHeartbeats 1000000 in
theorem f_afterOf (hip : 4 ≤ ip) (hw : gp_wf P) (hTw : gs_wf T) (hfu : 100 ≤ fu) (hC : fc W0 T P ip aT aP ad) (h : gw_D (fw W0 ip (gp_c P) aF ad B F) X) (I : fi T P aT B F t) (hf : f < gp_c P) (hi : i < gp_l P f) (hne : ¬ fMy B f i = 0) (o : Option Nat) (ho : (gp_k P f i = 3 ∧ gp_n P f i < gp_c P ∧ o = some (ad (gp_n P f i))) ∨ (¬ (gp_k P f i = 3 ∧ gp_n P f i < gp_c P) ∧ o = none)) :
    ∃ af, gm_X1_afterOf fu aF (ad f) (nI i) o X = some (af, X) ∧ ∀ s, gb af s = true ↔ gp_after T P (bm P B) (bx P B) f i s := by
  obtain ⟨I1, ⟨I2, I2b⟩, -⟩ := id I
  have eB := kB hip h hf
  have q := gq_0 (ad f) (B f) X
  rw [eB] at q
  have qF := gq_1 aF F X
  rw [kF h] at qF
  obtain ⟨hs, hba⟩ := I1 f hf
  obtain ⟨⟨-, hl2⟩, -, hIw, -⟩ := hw.2 f hf
  obtain ⟨OT, OP, c1, c2, c3, c4, c5⟩ := hC
  have eT := h.k ((fw_o (by omega) (by omega)).trans c1)
  obtain ⟨hk, hn⟩ := hs.2.2.2.1 i hi
  have k8 := (hIw i hi).1
  have r1 : i < 200 := by omega
  have mI : ∀ u, bm P B f i u ↔ gb (fMy B f i) u = true := fun u => ⟨fun h => h.2.2, fun h => ⟨hf, hi, h⟩⟩
  unfold gm_X1_afterOf
  simp only [q, r1, Option.bind_some, hk]
  have led : gp_n P f i < 16 → (gp_k P f i = 5 ∨ (gp_k P f i = 4 ∧ ¬ gp_gd P f i)) → ∃ af, gm_X4_goneTo fu aT (nI (gp_n P f i)) (fMy B f i) X = some (af, X) ∧ ∀ s, gb af s = true ↔ gp_after T P (bm P B) (bx P B) f i s := by
    intro hn16 hk45
    obtain ⟨r, h1, h2⟩ := c_goneTo (fu := fu) (y := fMy B f i) eT c2 hTw hn16 hfu
    refine ⟨r, h1, fun s => ?_⟩
    rw [h2]
    constructor
    · exact fun h => Or.inr (Or.inl ⟨hk45, gs_led_mono (fun u hu => (mI u).mpr hu) h⟩)
    · rintro (⟨h1, -⟩ | ⟨-, h⟩ | ⟨h1, h2, h3, -⟩)
      · omega
      · exact gs_led_mono (fun u hu => (mI u).mp hu) h
      · rcases hk45 with h | ⟨h, h'⟩
        · exact absurd h h2
        · exact absurd (h3 h) h'
  have self : gp_k P f i ≠ 3 → gp_k P f i ≠ 5 → (gp_k P f i = 4 → gp_gd P f i) → ∀ s, gb (fMy B f i) s = true ↔ gp_after T P (bm P B) (bx P B) f i s := by
    intro k3 k5 k4 s
    refine ⟨fun h => Or.inr (Or.inr ⟨k3, k5, k4, (mI s).mpr h⟩), ?_⟩
    rintro (⟨h1, -⟩ | ⟨h1, -⟩ | ⟨-, -, -, h⟩)
    · exact absurd h1 k3
    · rcases h1 with h | ⟨h, h'⟩
      · exact absurd h k5
      · exact absurd (k4 h) h'
    · exact (mI s).mp h
  by_cases k3 : gp_k P f i = 3
  · rw [if_pos (by rw [k3]; rfl)]
    rcases ho with ⟨-, hnc, rfl⟩ | ⟨hne2, rfl⟩
    · have q2 := gq_0 (ad (gp_n P f i)) (B (gp_n P f i)) X
      rw [kB hip h hnc] at q2
      simp only [gx_nl, q2, Option.bind_some]
      obtain ⟨u, hu⟩ := gb_nz.mp hne
      refine ⟨_, rfl, fun s => ⟨fun h => Or.inl ⟨k3, ⟨u, (mI u).mpr hu⟩, hnc, hnc, h⟩, ?_⟩⟩
      rintro (⟨-, -, -, h⟩ | ⟨h1, -⟩ | ⟨h1, -⟩)
      · exact h.2
      · omega
      · exact absurd k3 h1
    · refine ⟨0, rfl, fun s => ?_⟩
      rw [gb_0]
      refine ⟨fun h => (by cases h), ?_⟩
      rintro (⟨h1, -, h3, -⟩ | ⟨h1, -⟩ | ⟨h1, -⟩)
      · exact absurd ⟨h1, h3⟩ hne2
      · omega
      · exact absurd k3 h1
  · rw [if_neg (nI_nl 3 (x := 3) rfl (by omega) (by omega) k3)]
    by_cases k4 : gp_k P f i = 4
    · rw [if_pos (by rw [k4]; rfl), gx_obT eB, c_isGuarded hw hf hs hba (by omega) eB, gx_b2s]
      by_cases hg : gp_gd P f i
      · rw [gz_t ⟨hi, hg⟩, if_neg (by decide)]
        simp only [q, r1, Option.bind_some]
        exact ⟨_, rfl, self k3 (by omega) fun _ => hg⟩
      · rw [gz_f (fun q => hg q.2), if_pos rfl]
        simp only [q, qF, r1, Option.bind_some, hn, I2b]
        obtain ⟨af, h1, h2⟩ := led ((hIw i hi).2.2.2.1 (Or.inl k4)) (Or.inr ⟨k4, hg⟩)
        rw [gx_obT eT, show (B f).2.2.2.2.1 8 i = fMy B f i from rfl, h1, gx_b2s]
        exact ⟨af, rfl, h2⟩
    · rw [if_neg (nI_nl 4 (x := 4) rfl (by omega) (by omega) k4)]
      by_cases k5 : gp_k P f i = 5
      · rw [if_pos (by rw [k5]; rfl)]
        simp only [q, qF, r1, Option.bind_some, hn, I2b]
        obtain ⟨af, h1, h2⟩ := led ((hIw i hi).2.2.2.1 (Or.inr k5)) (Or.inl k5)
        rw [gx_obT eT, show (B f).2.2.2.2.1 8 i = fMy B f i from rfl, h1, gx_b2s]
        exact ⟨af, rfl, h2⟩
      · rw [if_neg (nI_nl 5 (x := 5) rfl (by omega) (by omega) k5)]
        exact ⟨_, rfl, self k3 k5 fun h => absurd h k4⟩
set_option maxHeartbeats 1000000 in
theorem f_passOn (hip : 4 ≤ ip) (hw : gp_wf P) (h : gw_D (fw W0 ip (gp_c P) aF ad B F) X) (I : fi T P aT B F t) (hf : f < gp_c P) (hi : i < gp_l P f) {v : Int64} (hv : ∀ s, gb v s = true → gp_after T P (gl_m T P) (gl_x T P) f i s) :
    ∃ X' B' F' t', gm_X1_passOn fu aF (ad f) (nI i) v X = some X' ∧ gw_D (fw W0 ip (gp_c P) aF ad B' F') X' ∧ fi T P aT B' F' t' ∧ fr P B F t B' F' t' ∧ ((gp_k P f i = 1 ∨ gp_k P f i = 2) → ∀ s, gb v s = true → gb (fMy B' f (gp_n P f i)) s = true) ∧ ((gp_k P f i ≠ 1 ∧ gp_k P f i ≠ 6 ∧ gp_k P f i ≠ 7) → i + 1 < gp_l P f → ∀ s, gb v s = true → gb (fMy B' f (i + 1)) s = true) ∧ fEn B' = fEn B ∧ fEx B' = fEx B ∧ fAl B' = fAl B := by
  obtain ⟨⟨-, hl2⟩, -, hIw, -⟩ := hw.2 f hf
  have rule := (gl_cl T P).2.2 f hf i hi
  have k8 := (hIw i hi).1
  -- the one behind
  have nxt : ∀ (X : gx_H) (B : Nat → go_O) (F : go_O) (t : Nat), gw_D (fw W0 ip (gp_c P) aF ad B F) X → fi T P aT B F t → ∃ X' B' F' t', gm_X1_passOn_28 fu aF (ad f) (nI i) v (nI (gp_k P f i)) X = some X' ∧ gw_D (fw W0 ip (gp_c P) aF ad B' F') X' ∧ fi T P aT B' F' t' ∧ fr P B F t B' F' t' ∧ ((gp_k P f i ≠ 1 ∧ gp_k P f i ≠ 6 ∧ gp_k P f i ≠ 7) → i + 1 < gp_l P f → ∀ s, gb v s = true → gb (fMy B' f (i + 1)) s = true) ∧ fEn B' = fEn B ∧ fEx B' = fEx B ∧ fAl B' = fAl B := by
    intro X B F t h I
    unfold gm_X1_passOn_28
    by_cases k1 : gp_k P f i = 1
    · rw [if_pos (by rw [k1]; rfl)]
      exact ⟨X, B, F, t, rfl, h, I, fr.rf, fun q => by omega, rfl, rfl, rfl⟩
    · rw [if_neg (nI_nl 1 (x := 1) rfl (by omega) (by omega) k1)]
      by_cases k6 : gp_k P f i = 6
      · rw [if_pos (by rw [k6]; rfl)]
        exact ⟨X, B, F, t, rfl, h, I, fr.rf, fun q => by omega, rfl, rfl, rfl⟩
      · rw [if_neg (nI_nl 6 (x := 6) rfl (by omega) (by omega) k6)]
        by_cases k7 : gp_k P f i = 7
        · rw [if_pos (by rw [k7]; rfl)]
          exact ⟨X, B, F, t, rfl, h, I, fr.rf, fun q => by omega, rfl, rfl, rfl⟩
        · rw [if_neg (nI_nl 7 (x := 7) rfl (by omega) (by omega) k7), gx_obT (kF h), nI_1]
          obtain ⟨X', B', F', t', g1, g2, g3, g4, g5, g6, g7, g8, -, -⟩ := f_growMay (fu := fu) (i := i + 1) (v := v) hip hw h I hf (by omega) (fun hl s hs => (rule.1 s (hv s hs)).2.1 ⟨k1, k6, k7⟩ hl)
          exact ⟨X', B', F', t', by rw [g1, Option.bind_some], g2, g3, g4, fun _ hl s hs => g5 hl s hs, g6, g7, g8⟩
  have eB := kB hip h hf
  have q := gq_0 (ad f) (B f) X
  rw [eB] at q
  obtain ⟨hs, -⟩ := I.1 f hf
  obtain ⟨hk, hn⟩ := hs.2.2.2.1 i hi
  have r1 : i < 200 := by omega
  unfold gm_X1_passOn
  simp only [q, r1, Option.bind_some, hk]
  rw [gx_obT eB, c_goesTo hk k8 r1 eB, gx_b2s]
  by_cases k12 : gp_k P f i = 1 ∨ gp_k P f i = 2
  · rw [gz_t k12, if_neg (by decide)]
    simp only [q, r1, Option.bind_some, hn]
    have hnl := (hIw i hi).2.1 k12
    rw [gx_obT (kF h)]
    obtain ⟨X1, B1, F1, t1, g1, g2, g3, g4, g5, g6, g7, g8, -, -⟩ := f_growMay (fu := fu) (i := gp_n P f i) (v := v) hip hw h I hf (by omega) (fun hl s hs => (rule.1 s (hv s hs)).1 k12)
    rw [g1, Option.bind_some]
    obtain ⟨X', B', F', t', n1, n2, n3, n4, n5, n6, n7, n8⟩ := nxt X1 B1 F1 t1 g2 g3
    exact ⟨X', B', F', t', n1, n2, n3, g4.tr n4, fun _ s hs => n4.1 _ _ s (g5 hnl s hs), n5, n6.trans g6, n7.trans g7, n8.trans g8⟩
  · rw [gz_f k12, if_pos rfl]
    obtain ⟨X', B', F', t', n1, n2, n3, n4, n5, n6, n7, n8⟩ := nxt X B F t h I
    exact ⟨X', B', F', t', n1, n2, n3, n4, fun q => absurd q k12, n5, n6, n7, n8⟩
set_option maxHeartbeats 1000000 in
theorem f_pth3 (hip : 4 ≤ ip) (hw : gp_wf P) (hf : f < gp_c P) (hi : i < gp_l P f) {v : Int64} (hv : ∀ h, h < gp_h P f → gp_a P f h ≤ i → i < gp_b P f h → ∀ s, gb v s = true → gl_m T P f (gp_g P f h) s) : ∀ (d n h : Nat) (X : gx_H) (B : Nat → go_O) (F : go_O) (t : Nat), gw_D (fw W0 ip (gp_c P) aF ad B F) X → fi T P aT B F t → h + d = gp_h P f → d < n →
    ∃ X' B' F' t', gm_X1_passToHandlers_3 fu n aF (ad f) (nI i) v (nI h) X = some X' ∧ gw_D (fw W0 ip (gp_c P) aF ad B' F') X' ∧ fi T P aT B' F' t' ∧ fr P B F t B' F' t' ∧ (∀ h', h ≤ h' → h' < gp_h P f → gp_a P f h' ≤ i → i < gp_b P f h' → ∀ s, gb v s = true → gb (fMy B' f (gp_g P f h')) s = true) ∧ fEn B' = fEn B ∧ fEx B' = fEx B ∧ fAl B' = fAl B
  | d, 0, h, X, B, F, t, _, _, _, hn => absurd hn (Nat.not_lt_zero _)
  | d, n + 1, h, X, B, F, t, hD, I, hd, hn => by
    obtain ⟨⟨-, hl2⟩, h6, hIw, hHw⟩ := hw.2 f hf
    have eB := kB hip hD hf
    have q := gq_0 (ad f) (B f) X
    rw [eB] at q
    obtain ⟨hs, -⟩ := I.1 f hf
    rw [gm_X1_passToHandlers_3]
    simp only [q, Option.bind_some, hs.2.2.1]
    by_cases e : d = 0
    · rw [if_pos ((nI_leI (by omega) (by omega)).mpr (by omega))]
      exact ⟨X, B, F, t, rfl, hD, I, fr.rf, fun h' a b => by omega, rfl, rfl, rfl⟩
    · rw [if_neg (fun c => absurd ((nI_leI (by omega) (by omega)).mp c) (by omega))]
      obtain ⟨ha, hb, hg⟩ := hs.2.2.2.2 h (by omega)
      obtain ⟨w1, w2, w3⟩ := hHw h (by omega)
      have r1 : h < 6 := by omega
      simp only [q, r1, Option.bind_some, ha, hb, hg]
      have nx : ∀ (X1 : gx_H) (B1 : Nat → go_O) (F1 : go_O) (t1 : Nat), gw_D (fw W0 ip (gp_c P) aF ad B1 F1) X1 → fi T P aT B1 F1 t1 → fr P B F t B1 F1 t1 → fEn B1 = fEn B → fEx B1 = fEx B → fAl B1 = fAl B → (gp_a P f h ≤ i → i < gp_b P f h → ∀ s, gb v s = true → gb (fMy B1 f (gp_g P f h)) s = true) →
          ∃ X' B' F' t', gm_X1_passToHandlers_47 fu (gm_X1_passToHandlers_3 fu n) aF (ad f) (nI i) v (nI h) X1 = some X' ∧ gw_D (fw W0 ip (gp_c P) aF ad B' F') X' ∧ fi T P aT B' F' t' ∧ fr P B F t B' F' t' ∧ (∀ h', h ≤ h' → h' < gp_h P f → gp_a P f h' ≤ i → i < gp_b P f h' → ∀ s, gb v s = true → gb (fMy B' f (gp_g P f h')) s = true) ∧ fEn B' = fEn B ∧ fEx B' = fEx B ∧ fAl B' = fAl B := by
        intro X1 B1 F1 t1 d1 i1 s1 n1 n2 n3 p1
        unfold gm_X1_passToHandlers_47
        rw [nI_1]
        obtain ⟨X', B', F', t', g1, g2, g3, g4, g5, g6, g7, g8⟩ := f_pth3 hip hw hf hi hv (d - 1) n (h + 1) X1 B1 F1 t1 d1 i1 (by omega) (by omega)
        refine ⟨X', B', F', t', g1, g2, g3, s1.tr g4, fun h' a1 a2 a3 a4 s a5 => ?_, g6.trans n1, g7.trans n2, g8.trans n3⟩
        by_cases e2 : h' = h
        · subst e2
          exact g4.1 _ _ s (p1 a3 a4 s a5)
        · exact g5 h' (by omega) a2 a3 a4 s a5
      by_cases c1 : i < gp_a P f h
      · rw [if_pos ((nI_ltI (by omega) (by omega)).mpr c1)]
        exact nx X B F t hD I fr.rf rfl rfl rfl (fun q => by omega)
      · rw [if_neg (fun c => c1 ((nI_ltI (by omega) (by omega)).mp c))]
        by_cases c2 : gp_b P f h ≤ i
        · rw [if_pos ((nI_leI (by omega) (by omega)).mpr c2)]
          exact nx X B F t hD I fr.rf rfl rfl rfl (fun _ q => by omega)
        · rw [if_neg (fun c => c2 ((nI_leI (by omega) (by omega)).mp c)), gx_obT (kF hD)]
          obtain ⟨X1, B1, F1, t1, g1, g2, g3, g4, g5, g6, g7, g8, -, -⟩ := f_growMay (fu := fu) (i := gp_g P f h) (v := v) hip hw hD I hf (by omega) (fun _ s hs => hv h (by omega) (by omega) (by omega) s hs)
          rw [g1, Option.bind_some]
          exact nx X1 B1 F1 t1 g2 g3 g4 g6 g7 g8 (fun _ _ s hs => g5 w3 s hs)
end FS
