/-! NEEDS and LACKS, in the class and in the model -/
/-- one WAY alone, from the STATE to itself -/
def gd1 (T : sT) (c s : Nat) : Prop := gs_w T c s s = true ∧ ∀ t, (t < gs_S T ∨ t = 60) → t ≠ s → gs_w T c s t = false
section CN
variable {fu aT c : Nat} {T : sT} {O : go_O} {X : gx_H} {y : Int64}
theorem gd1_iff (hT : rt T O) (hw : gs_wf T) (hc : c < 16) {s : Nat} (hs : s < gs_S T) {v : Int64} (hv : ∀ r, gb v r = decide (s = r)) : ml O 1 (60 * c + s) = v ↔ gd1 T c s := by
  have h60 := hw.2.1
  constructor
  · intro h
    refine ⟨(hT.2.1 c s s hc (by omega)).mp (by rw [h, hv, decide_eq_true rfl]), fun t _ hne => ?_⟩
    cases g : gs_w T c s t
    · rfl
    · have := (hT.2.1 c s t hc (by omega)).mpr g
      rw [h, hv, decide_eq_false (fun q => hne q.symm)] at this
      cases this
  · intro h
    refine gb_ext fun r _ => ?_
    rw [hv]
    by_cases er : s = r
    · subst er
      rw [decide_eq_true rfl, (hT.2.1 c s s hc (by omega)).mpr h.1]
    · rw [decide_eq_false er]
      cases g : gb (ml O 1 (60 * c + s)) r
      · rfl
      · have g2 := (hT.2.1 c s r hc (by omega)).mp g
        have g3 := hw.2.2 c s r g2
        rw [h.2 r g3.2.2 (fun q => er q.symm)] at g2
        cases g2
theorem c_chg3 (e : go_k 4 aT O X = X) (hT : rt T O) (hw : gs_wf T) (hc : c < 16) : ∀ (d n s : Nat), s + d = gs_S T → d < n → (∀ s', s' < s → ¬ (gb y s' = true ∧ ¬ gd1 T c s')) →
    gm_X4_changesSome_3 fu n aT (nI c) y (nI s) X = some (gz (gs_chg T c (fun u => gb y u = true)), X)
  | d, 0, s, _, hn, _ => absurd hn (Nat.not_lt_zero _)
  | d, n + 1, s, hd, hn, hb => by
    have h60 := hw.2.1
    have q := gq_4 aT O X
    rw [e] at q
    rw [gm_X4_changesSome_3]
    simp only [q, Option.bind_some, hT.1]
    by_cases e0 : d = 0
    · rw [if_pos ((nI_leI (by omega) (by omega)).mpr (by omega)), gz_f]
      rintro ⟨s', h1, h2, h3⟩
      exact hb s' (by omega) ⟨h2, h3⟩
    · rw [if_neg (fun q => absurd ((nI_leI (by omega) (by omega)).mp q) (by omega))]
      unfold gm_X4_changesSome_41
      rw [nI_1]
      have next : (¬ (gb y s = true ∧ ¬ gd1 T c s)) → gm_X4_changesSome_3 fu n aT (nI c) y (nI (s + 1)) X = some (gz (gs_chg T c (fun u => gb y u = true)), X) := fun h => c_chg3 e hT hw hc (d - 1) n (s + 1) (by omega) (by omega) fun s' hs' => by
        by_cases e1 : s' = s
        · subst e1
          exact h
        · exact hb s' (by omega)
      by_cases g : gb y s = true
      · rw [if_neg (fun q => by rw [(gb_t0 y (by omega)).mp q] at g; cases g), gx_obT e, c_waysFrom e hc (by omega), gx_b2s]
        obtain ⟨v, v1, v2⟩ := c_bitOf (fu := fu) (X := X) (t := s) hw (Or.inr ⟨rfl, by omega⟩)
        rw [v1, gx_b2s]
        have k := gd1_iff hT hw hc (s := s) (by omega) v2
        by_cases gg : gd1 T c s
        · rw [if_pos (gb_cmp.mpr (k.mpr gg))]
          exact next fun h => h.2 gg
        · rw [if_neg (fun q => gg (k.mp (gb_cmp.mp q))), gz_t ⟨s, by omega, g, gg⟩]
      · have g' : gb y s = false := by cases h : gb y s <;> simp_all
        rw [if_pos ((gb_t0 y (by omega)).mpr g')]
        exact next fun h => g h.1
variable {f i a : Nat} {P : sP} {b : go_O}
theorem c_needs (e : go_k 4 aT O X = X) (hT : rt T O) (hTw : gs_wf T) (hw : gp_wf P) (hfu : 100 ≤ fu) (eb : go_k 0 a b X = X) (hf : f < gp_c P) (hs : bs P f b) (hi : i < gp_l P f) (hy : gl_is (ml b 8 i) (gl_m T P f i)) : gm_X4_needsGuard fu aT a (nI i) X = some (gz (gp_need T P f i), X) := by
  have h60 := hTw.2.1
  have q := gq_4 aT O X
  rw [e] at q
  have qb := gq_0 a b X
  rw [eb] at qb
  obtain ⟨⟨-, hl2⟩, -, hIw, -⟩ := hw.2 f hf
  obtain ⟨hk, hn⟩ := hs.2.2.2.1 i hi
  have r1 : i < 200 := by omega
  unfold gm_X4_needsGuard gm_X4_needsGuard_42
  have k8 := (hIw i hi).1
  simp only [qb, r1, Option.bind_some, hk, hn]
  by_cases k4 : gp_k P f i = 4
  · have n16 := (hIw i hi).2.2.2.1 (Or.inl k4)
    rw [if_pos (by rw [k4]; rfl)]
    simp only [q, n16, Option.bind_some]
    rw [show O.2.2.2.1 0 (gp_n P f i) = _ from hT.2.2 _ n16]
    by_cases g : gs_n T (gp_n P f i) = true
    · rw [if_pos g, if_neg (by decide), gz_t ⟨k4, Or.inl g⟩]
    · rw [if_neg g, if_pos rfl, gx_obT e]
      unfold gm_X4_changesSome
      rw [li0, c_chg3 e hT hTw n16 (gs_S T) fu 0 (by omega) (by omega) (fun _ h => absurd h (Nat.not_lt_zero _)), gx_b2s]
      have key : gs_chg T (gp_n P f i) (fun u => gb (b.2.2.2.2.1 8 i) u = true) ↔ gs_chg T (gp_n P f i) (gl_m T P f i) :=
        ⟨fun ⟨s, h1, h2, h3⟩ => ⟨s, h1, (hy s).mp h2, h3⟩, fun ⟨s, h1, h2, h3⟩ => ⟨s, h1, (hy s).mpr h2, h3⟩⟩
      rw [gz_c key]
      by_cases g2 : gs_chg T (gp_n P f i) (gl_m T P f i)
      · rw [gz_t g2, if_neg (by decide), gz_t ⟨k4, Or.inr g2⟩]
      · rw [gz_f g2, if_pos (show (0 : Int32) = nI 0 from rfl), gz_f (fun h => h.2.elim g g2)]
        rfl
  · rw [if_neg (nI_nl 4 (x := 4) rfl (by omega) (by omega) k4), gz_f (fun h => k4 h.1)]
theorem c_lacks (e : go_k 4 aT O X = X) (hT : rt T O) (hTw : gs_wf T) (hw : gp_wf P) (hfu : 100 ≤ fu) (eb : go_k 0 a b X = X) (hf : f < gp_c P) (hs : bs P f b) (ha : ba P f b) (hi : i < gp_l P f) (hy : gl_is (ml b 8 i) (gl_m T P f i)) : gm_X4_lacksGuard fu aT a (nI i) X = some (gz (gp_lack T P f i), X) := by
  have hl2 := (hw.2 f hf).1.2
  unfold gm_X4_lacksGuard gm_X4_lacksGuard_21
  rw [gx_obT e, c_needs e hT hTw hw hfu eb hf hs hi hy, gx_b2s]
  by_cases g : gp_need T P f i
  · rw [gz_t g, if_neg (by decide), gx_obT eb, c_isGuarded hw hf hs ha (by omega) eb, gx_b2s]
    by_cases g2 : gp_gd P f i
    · rw [gz_t ⟨hi, g2⟩, if_neg (by decide), gz_f (fun h => h.2 g2)]
    · rw [gz_f (fun h => g2 h.2), if_pos rfl, gz_t ⟨g, g2⟩]
  · rw [gz_f g, if_pos rfl, gz_f (fun h => g h.1)]
end CN
section MN
variable {fu z c q f i : Nat} {T : sT} {P : sP} {M : go_O} {X : gx_H}
/-- found, or not yet -/
def mf (q : Nat) (T : sT) (P : sP) (M : go_O) : Prop := mi M 13 q = 0 ∨ (mi M 13 q = 1 ∧ rm_L q T P M)
theorem rf_rf : rf q M M := ⟨fun _ _ _ => rfl, fun _ _ => rfl, fun _ _ _ _ => rfl⟩
theorem rf.tr {M' M'' : go_O} (h : rf q M M') (h' : rf q M' M'') : rf q M M'' := ⟨fun a i r => (h'.1 a i r).trans (h.1 a i r), fun j r => (h'.2.1 j r).trans (h.2.1 j r), fun k i r s => (h'.2.2 k i r s).trans (h.2.2 k i r s)⟩
theorem m_n99 (hT : rm_T T M) (hw : gs_wf T) (hc : c < 16) {s : Nat} (hs : s < gs_S T) (x4 : Int32) (B : Prop) (K : Nat → Int32 → Int32 → Int32 → Int32 → gx_H → Option (Int32 × gx_H)) : ∀ (d n t : Nat) (A : Prop), t + d = gs_S T → d < n →
    gm_X6_needs_99 fu K n z x4 (nI c) (gz B) (nI s) (gz A) (nI t) (go_k 6 z M X) = K z x4 (nI c) (gz (B ∨ ¬ (A ∧ ∀ t', t ≤ t' → t' < gs_S T → t' ≠ s → gs_w T c s t' = false))) (nI (s + 1)) (go_k 6 z M X)
  | d, 0, t, A, _, hn => absurd hn (Nat.not_lt_zero _)
  | d, n + 1, t, A, hd, hn => by
    have h60 := hw.2.1
    rw [gm_X6_needs_99]
    simp only [gq_6, Option.bind_some, hT.1]
    by_cases e0 : d = 0
    · rw [if_pos ((nI_leI (by omega) (by omega)).mpr (by omega))]
      unfold gm_X6_needs_160 gm_X6_needs_165 gm_X6_needs_167
      rw [nI_1]
      by_cases b : B
      · rw [gz_t b, if_neg (by decide), gz_t (Or.inl b)]
      · rw [gz_f b, if_pos rfl]
        by_cases a : A
        · rw [gz_t a, if_neg (by decide), gz_f]
          rintro (h | h)
          · exact b h
          · exact h ⟨a, fun t' _ _ => by omega⟩
        · rw [gz_f a, if_pos rfl, gz_t (Or.inr fun h => a h.1)]
    · rw [if_neg (fun q => absurd ((nI_leI (by omega) (by omega)).mp q) (by omega))]
      unfold gm_X6_needs_137 gm_X6_needs_141 gm_X6_needs_142
      rw [nI_1]
      by_cases a : A
      · rw [gz_t a, if_neg (by decide)]
        by_cases ts : t = s
        · rw [if_pos (by rw [ts])]
          have ih := m_n99 hT hw hc hs x4 B K (d - 1) n (t + 1) True (by omega) (by omega)
          rw [gz_t trivial] at ih
          rw [ih, gz_c]
          constructor
          · rintro (h | h)
            · exact Or.inl h
            · exact Or.inr fun h' => h ⟨trivial, fun t' q1 q2 q3 => h'.2 t' (by omega) q2 q3⟩
          · rintro (h | h)
            · exact Or.inl h
            · refine Or.inr fun h' => h ⟨a, fun t' q1 q2 q3 => h'.2 t' (by omega) q2 q3⟩
        · rw [if_neg (nI_ne (by omega) (by omega) ts), m_wayAt (by omega), gx_b2s]
          obtain ⟨r1, r2⟩ := rm_way hT hc (s := s) (t := t) (by omega) (by omega)
          simp only [gq_6, r1, Option.bind_some]
          rw [show M.2.2.2.1 2 (61 * (60 * c + s) + t) = _ from r2]
          by_cases w : gs_w T c s t = true
          · rw [if_pos w, if_neg (by decide)]
            have ih := m_n99 hT hw hc hs x4 B K (d - 1) n (t + 1) False (by omega) (by omega)
            rw [gz_f (fun h => h)] at ih
            rw [ih, gz_c]
            constructor
            · rintro (h | h)
              · exact Or.inl h
              · refine Or.inr fun h' => ?_
                have := h'.2 t (by omega) (by omega) ts
                rw [w] at this
                cases this
            · intro _
              exact Or.inr fun h' => h'.1
          · have w' : gs_w T c s t = false := by cases h : gs_w T c s t <;> simp_all
            rw [if_neg w, if_pos rfl]
            have ih := m_n99 hT hw hc hs x4 B K (d - 1) n (t + 1) True (by omega) (by omega)
            rw [gz_t trivial] at ih
            rw [ih, gz_c]
            constructor
            · rintro (h | h)
              · exact Or.inl h
              · exact Or.inr fun h' => h ⟨trivial, fun t' q1 q2 q3 => h'.2 t' (by omega) q2 q3⟩
            · rintro (h | h)
              · exact Or.inl h
              · refine Or.inr fun h' => h ⟨a, fun t' q1 q2 q3 => ?_⟩
                by_cases e1 : t' = t
                · subst e1
                  exact w'
                · exact h'.2 t' (by omega) q2 q3
      · rw [gz_f a, if_pos rfl]
        have ih := m_n99 hT hw hc hs x4 B K (d - 1) n (t + 1) False (by omega) (by omega)
        rw [gz_f (fun h => h)] at ih
        rw [ih, gz_c]
        exact ⟨fun _ => Or.inr fun h => a h.1, fun _ => Or.inr fun h => h.1⟩
theorem m_n99b (hT : rm_T T M) (hw : gs_wf T) (hc : c < 16) {s : Nat} (hs : s < gs_S T) (x4 : Int32) (B : Prop) (K : Nat → Int32 → Int32 → Int32 → Int32 → gx_H → Option (Int32 × gx_H)) (n : Nat) (hn : 100 ≤ n) :
    gm_X6_needs_99 fu K n z x4 (nI c) (gz B) (nI s) (gz (gs_w T c s s = true)) (-1) (go_k 6 z M X) = K z x4 (nI c) (gz (B ∨ ¬ gd1 T c s)) (nI (s + 1)) (go_k 6 z M X) := by
  have h60 := hw.2.1
  obtain ⟨n, rfl⟩ : ∃ m, n = m + 1 := ⟨n - 1, by omega⟩
  rw [gm_X6_needs_99]
  simp only [gq_6, Option.bind_some, hT.1]
  rw [if_neg (fun h => by
    rw [Int32.le_iff_toInt_le] at h
    have e1 : (nI (gs_S T)).toInt = gs_S T := by
      have := nI_toInt (n := gs_S T) (by omega)
      exact this
    rw [e1, show ((-1 : Int32)).toInt = -1 from rfl] at h
    omega)]
  unfold gm_X6_needs_137 gm_X6_needs_141 gm_X6_needs_142
  rw [show (-1 : Int32) + 1 = nI 0 from rfl]
  by_cases a : gs_w T c s s = true
  · rw [gz_t a, if_neg (by decide), if_neg (fun h => nI_m1 (a := s) (by omega) h.symm), m_wayAtN, gx_b2s]
    obtain ⟨r1, r2⟩ := rm_way hT hc (s := s) (t := 60) (by omega) (by omega)
    simp only [gq_6, r1, Option.bind_some]
    rw [show M.2.2.2.1 2 (61 * (60 * c + s) + 60) = _ from r2]
    by_cases w : gs_w T c s 60 = true
    · rw [if_pos w, if_neg (by decide)]
      have ih := m_n99 (fu := fu) (z := z) (X := X) hT hw hc hs x4 B K (gs_S T) n 0 False (by omega) (by omega)
      rw [gz_f (fun h => h)] at ih
      rw [ih, gz_c]
      constructor
      · intro _
        refine Or.inr fun h => ?_
        have := h.2 60 (Or.inr rfl) (by omega)
        rw [w] at this
        cases this
      · intro _
        exact Or.inr fun h => h.1
    · have w' : gs_w T c s 60 = false := by cases h : gs_w T c s 60 <;> simp_all
      rw [if_neg w, if_pos rfl]
      have ih := m_n99 (fu := fu) (z := z) (X := X) hT hw hc hs x4 B K (gs_S T) n 0 True (by omega) (by omega)
      rw [gz_t trivial] at ih
      rw [ih, gz_c]
      constructor
      · rintro (h | h)
        · exact Or.inl h
        · exact Or.inr fun h' => h ⟨trivial, fun t' _ q2 q3 => h'.2 t' (Or.inl q2) q3⟩
      · rintro (h | h)
        · exact Or.inl h
        · refine Or.inr fun h' => h ⟨a, fun t' q2 q3 => ?_⟩
          rcases q2 with q2 | q2
          · exact h'.2 t' (by omega) q2 q3
          · rw [q2]
            exact w'
  · rw [gz_f a, if_pos rfl]
    have ih := m_n99 (fu := fu) (z := z) (X := X) hT hw hc hs x4 B K (gs_S T) n 0 False (by omega) (by omega)
    rw [gz_f (fun h => h)] at ih
    rw [ih, gz_c]
    exact ⟨fun _ => Or.inr fun h => a h.1, fun _ => Or.inr fun h => h.1⟩
theorem m_n54 (hT : rm_T T M) (hw : gs_wf T) (hc : c < 16) {x : Nat} (hx : x < 3200) (hfu : 100 ≤ fu) : ∀ (d n s : Nat) (B : Prop), s + d = gs_S T → d < n →
    gm_X6_needs_54 fu n z (nI x) (nI c) (gz B) (nI s) (go_k 6 z M X) = some (gz (B ∨ ∃ s', s ≤ s' ∧ s' < gs_S T ∧ gb (ml M 14 x) s' = true ∧ ¬ gd1 T c s'), go_k 6 z M X)
  | d, 0, s, B, _, hn => absurd hn (Nat.not_lt_zero _)
  | d, n + 1, s, B, hd, hn => by
    have h60 := hw.2.1
    rw [gm_X6_needs_54]
    simp only [gq_6, Option.bind_some, hT.1]
    by_cases e0 : d = 0
    · rw [if_pos ((nI_leI (by omega) (by omega)).mpr (by omega)), gz_bz, Option.bind_some, gz_c]
      constructor
      · exact Or.inl
      · rintro (h | ⟨s', h⟩)
        · exact h
        · omega
    · rw [if_neg (fun q => absurd ((nI_leI (by omega) (by omega)).mp q) (by omega))]
      simp only [gq_6, hx, Option.bind_some]
      unfold gm_X6_needs_167
      rw [nI_1]
      by_cases g : gb (ml M 14 x) s = true
      · rw [if_pos ((gb_t1 _ (by omega)).mpr g), m_wayAt (by omega), gx_b2s]
        obtain ⟨r1, r2⟩ := rm_way hT hc (s := s) (t := s) (by omega) (by omega)
        simp only [gq_6, r1, Option.bind_some]
        have e1 : M.2.2.2.1 2 (61 * (60 * c + s) + s) = gz (gs_w T c s s = true) := by
          rw [show M.2.2.2.1 2 (61 * (60 * c + s) + s) = _ from r2]
          by_cases w : gs_w T c s s = true
          · rw [if_pos w, gz_t w]
          · rw [if_neg w, gz_f w]
        rw [e1, m_n99b hT hw hc (by omega) _ B _ fu (by omega), m_n54 hT hw hc hx hfu (d - 1) n (s + 1) _ (by omega) (by omega), gz_c]
        constructor
        · rintro ((h | h) | ⟨s', h1, h2⟩)
          · exact Or.inl h
          · exact Or.inr ⟨s, by omega, by omega, g, h⟩
          · exact Or.inr ⟨s', by omega, h2⟩
        · rintro (h | ⟨s', h1, h2, h3, h4⟩)
          · exact Or.inl (Or.inl h)
          · by_cases e2 : s' = s
            · subst e2
              exact Or.inl (Or.inr h4)
            · exact Or.inr ⟨s', by omega, h2, h3, h4⟩
      · rw [if_neg (fun q => g ((gb_t1 _ (by omega)).mp q)), m_n54 hT hw hc hx hfu (d - 1) n (s + 1) B (by omega) (by omega), gz_c]
        constructor
        · rintro (h | ⟨s', h1, h2⟩)
          · exact Or.inl h
          · exact Or.inr ⟨s', by omega, h2⟩
        · rintro (h | ⟨s', h1, h2, h3, h4⟩)
          · exact Or.inl h
          · by_cases e2 : s' = s
            · subst e2
              exact absurd h3 g
            · exact Or.inr ⟨s', by omega, h2, h3, h4⟩
set_option maxHeartbeats 1000000 in
theorem m_needs (hq : q < 2) (hw : gp_wf P) (hTw : gs_wf T) (hfu : 300000 ≤ fu) (hT : rm_T T M) (hP : rm_P q P M) (hd : mf q T P M) (hf : f < gp_c P) (hi : i < gp_l P f) :
    ∃ M', gm_X6_needs fu z (nI q) (nI f) (nI i) (go_k 6 z M X) = some (gz (gp_need T P f i), go_k 6 z M' X) ∧ rf q M M' ∧ mf q T P M' := by
  have hc8 := hw.1
  obtain ⟨⟨-, hl2⟩, -, hIw, -⟩ := hw.2 f hf
  obtain ⟨hk, hn⟩ := (hP.2 f hf).2.2.1 i hi
  have k8 := (hIw i hi).1
  unfold gm_X6_needs
  have ix : (1600 : Int32) * nI q + 200 * nI f + nI i = nI (1600 * q + 200 * f + i) := by rw [li1600, li200, pk_mul, pk_mul, nI_add, nI_add]
  have r1 : 1600 * q + 200 * f + i < 3200 := by omega
  rw [ix]
  simp only [gq_6, r1, Option.bind_some, hk]
  by_cases k4 : gp_k P f i = 4
  · rw [if_pos (by rw [k4]; rfl), gx_ob6]
    obtain ⟨M', g1, g2, g3, g4⟩ := m_find (fu := fu) (z := z) (X := X) hq hw hTw hfu hT hP hd
    rw [g1, Option.bind_some]
    have n16 := (hIw i hi).2.2.2.1 (Or.inl k4)
    have T' := g2.rT hT
    obtain ⟨hk', hn'⟩ := ((g2.rP hP).2 f hf).2.2.1 i hi
    simp only [gq_6, r1, n16, Option.bind_some, hn']
    have e1 : M'.2.2.2.1 3 (gp_n P f i) = gz (gs_n T (gp_n P f i) = true) := by
      rw [show M'.2.2.2.1 3 (gp_n P f i) = _ from T'.2.2 _ n16]
      by_cases w : gs_n T (gp_n P f i) = true
      · rw [if_pos w, gz_t w]
      · rw [if_neg w, gz_f w]
    rw [e1, li0, m_n54 T' hTw n16 r1 (by omega) (gs_S T) fu 0 _ (by omega) (by have := hTw.2.1; omega)]
    refine ⟨M', ?_, g2, Or.inr ⟨g3, g4⟩⟩
    rw [gz_c]
    have y := g4.1 f hf i hi
    constructor
    · rintro (h | ⟨s', -, h2, h3, h4⟩)
      · exact ⟨k4, Or.inl h⟩
      · exact ⟨k4, Or.inr ⟨s', h2, (y s').mp h3, h4⟩⟩
    · rintro ⟨-, h | ⟨s', h2, h3, h4⟩⟩
      · exact Or.inl h
      · exact Or.inr ⟨s', by omega, h2, (y s').mpr h3, h4⟩
  · rw [if_neg (nI_nl 4 (x := 4) rfl (by omega) (by omega) k4)]
    exact ⟨M, by rw [gz_f (fun h => k4 h.1)], rf_rf, hd⟩
theorem m_lacks (hq : q < 2) (hw : gp_wf P) (hTw : gs_wf T) (hfu : 300000 ≤ fu) (hT : rm_T T M) (hP : rm_P q P M) (hd : mf q T P M) (hf : f < gp_c P) (hi : i < gp_l P f) :
    ∃ M', gm_X6_lacks fu z (nI q) (nI f) (nI i) (go_k 6 z M X) = some (gz (gp_lack T P f i), go_k 6 z M' X) ∧ rf q M M' ∧ mf q T P M' := by
  unfold gm_X6_lacks gm_X6_lacks_24
  obtain ⟨M', g1, g2, g3⟩ := m_needs (fu := fu) (z := z) (X := X) hq hw hTw hfu hT hP hd hf hi
  refine ⟨M', ?_, g2, g3⟩
  rw [gx_ob6, g1, gx_b2s]
  by_cases g : gp_need T P f i
  · rw [gz_t g, if_neg (by decide), gx_ob6, m_isGuarded hq (g2.rP hP) hw hf hi (by omega), gx_b2s]
    by_cases h : gp_gd P f i
    · rw [gz_t h, if_neg (by decide), gz_f (fun k => k.2 h)]
    · rw [gz_f h, if_pos rfl, gz_t ⟨g, h⟩]
  · rw [gz_f g, if_pos rfl, gz_f (fun k => g k.1)]
end MN
