/-! the reference: led, join -/
section MLed
variable {fu z c : Nat} {T : sT} {M : go_O} {X : gx_H} {y : Int64}
theorem rm_way (hT : rm_T T M) {s t : Nat} (hc : c < 16) (hs : s < 60) (ht : t < 61) : 61 * (60 * c + s) + t < 58560 ∧ mi M 2 (61 * (60 * c + s) + t) = if gs_w T c s t = true then 1 else 0 := ⟨by omega, hT.2.1 c s t hc hs ht⟩
set_option maxHeartbeats 1000000 in
theorem m_led18 (hT : rm_T T M) (hw : gs_wf T) (hc : c < 16) {s : Nat} (hs : s < gs_S T) (K6 : Nat → Int64 → Int32 → Int64 → Int32 → gx_H → Option (Int64 × gx_H)) : ∀ (d n t : Nat) (acc : Int64), t + d = gs_S T → d < n →
    ∃ acc', gm_X6_led_18 fu K6 n z y (nI c) acc (nI s) (nI t) (go_k 6 z M X) = K6 z y (nI c) acc' (nI (s + 1)) (go_k 6 z M X) ∧ ∀ r, gb acc' r = true ↔ (gb acc r = true ∨ (gb y s = true ∧ t ≤ r ∧ r < gs_S T ∧ gs_w T c s r = true))
  | d, 0, t, acc, _, hn => absurd hn (Nat.not_lt_zero _)
  | d, n + 1, t, acc, hd, hn => by
    have h60 := hw.2.1
    rw [gm_X6_led_18]
    simp only [gq_6, Option.bind_some, hT.1]
    have out : ∀ acc : Int64, gm_X6_led_73 fu K6 z y (nI c) acc (nI s) (go_k 6 z M X) = K6 z y (nI c) acc (nI (s + 1)) (go_k 6 z M X) := fun acc => by
      unfold gm_X6_led_73
      rw [nI_1]
    by_cases e : d = 0
    · rw [if_pos ((nI_leI (by omega) (by omega)).mpr (by omega)), out]
      exact ⟨acc, rfl, fun r => ⟨Or.inl, fun h => h.elim id (fun h => by omega)⟩⟩
    · rw [if_neg (fun q => absurd ((nI_leI (by omega) (by omega)).mp q) (by omega))]
      by_cases hb : gb y s = true
      · rw [if_pos ((gb_t1 y (by omega)).mpr hb)]
        obtain ⟨r1, hv⟩ := rm_way (c := c) hT (s := s) (t := t) hc (by omega) (by omega)
        simp only [m_wayAt (show t < 2 ^ 31 by omega), gx_b2s, gq_6, r1, Option.bind_some, hv]
        have nx : ∀ acc : Int64, ∃ acc', gm_X6_led_18 fu K6 n z y (nI c) acc (nI s) (nI t + 1) (go_k 6 z M X) = K6 z y (nI c) acc' (nI (s + 1)) (go_k 6 z M X) ∧ ∀ r, gb acc' r = true ↔ (gb acc r = true ∨ (gb y s = true ∧ t + 1 ≤ r ∧ r < gs_S T ∧ gs_w T c s r = true)) := fun acc => by
          rw [nI_1]
          exact m_led18 hT hw hc hs K6 (d - 1) n (t + 1) acc (by omega) (by omega)
        unfold gm_X6_led_64
        by_cases hwy : gs_w T c s t = true
        · rw [if_pos hwy, if_neg (by decide)]
          obtain ⟨acc', h1, h2⟩ := nx (acc ||| ((1 : Int64) <<< ((nI t).toInt64 &&& 63)))
          refine ⟨acc', h1, fun r => ?_⟩
          rw [h2, gb_or, gb_shl (by omega)]
          constructor
          · rintro (h | h)
            · rcases Bool.or_eq_true_iff.mp h with h | h
              · exact Or.inl h
              · have : t = r := of_decide_eq_true h
                subst this
                exact Or.inr ⟨hb, by omega, by omega, hwy⟩
            · exact Or.inr ⟨h.1, by omega, h.2.2.1, h.2.2.2⟩
          · rintro (h | h)
            · exact Or.inl (by rw [h]; rfl)
            · by_cases e2 : t = r
              · exact Or.inl (by simp [e2])
              · exact Or.inr ⟨h.1, by omega, h.2.2.1, h.2.2.2⟩
        · rw [if_neg hwy, if_pos rfl]
          obtain ⟨acc', h1, h2⟩ := nx (acc ||| 0)
          refine ⟨acc', h1, fun r => ?_⟩
          rw [h2, gb_or, gb_0, Bool.or_false]
          constructor
          · rintro (h | h)
            · exact Or.inl h
            · exact Or.inr ⟨h.1, by omega, h.2.2.1, h.2.2.2⟩
          · rintro (h | h)
            · exact Or.inl h
            · by_cases e2 : t = r
              · subst e2
                exact absurd h.2.2.2 hwy
              · exact Or.inr ⟨h.1, by omega, h.2.2.1, h.2.2.2⟩
      · rw [if_neg (fun q => hb ((gb_t1 y (by omega)).mp q)), out]
        exact ⟨acc, rfl, fun r => ⟨Or.inl, fun h => h.elim id (fun h => absurd h.1 hb)⟩⟩
set_option maxHeartbeats 1000000 in
theorem m_led6 (hT : rm_T T M) (hw : gs_wf T) (hc : c < 16) (hfu : 100 ≤ fu) : ∀ (d n s : Nat) (acc : Int64), s + d = gs_S T → d < n →
    ∃ r, gm_X6_led_6 fu n z y (nI c) acc (nI s) (go_k 6 z M X) = some (r, go_k 6 z M X) ∧ ∀ t, gb r t = true ↔ (gb acc t = true ∨ ∃ u, s ≤ u ∧ u < gs_S T ∧ gb y u = true ∧ t < gs_S T ∧ gs_w T c u t = true)
  | d, 0, s, acc, _, hn => absurd hn (Nat.not_lt_zero _)
  | d, n + 1, s, acc, hd, hn => by
    have h60 := hw.2.1
    rw [gm_X6_led_6]
    simp only [gq_6, Option.bind_some, hT.1]
    by_cases e : d = 0
    · rw [if_pos ((nI_leI (by omega) (by omega)).mpr (by omega))]
      exact ⟨acc, rfl, fun t => ⟨Or.inl, fun h => h.elim id (fun ⟨u, h⟩ => by omega)⟩⟩
    · rw [if_neg (fun q => absurd ((nI_leI (by omega) (by omega)).mp q) (by omega))]
      obtain ⟨acc', h1, h2⟩ := m_led18 (fu := fu) (z := z) (X := X) (y := y) hT hw hc (s := s) (by omega) (gm_X6_led_6 fu n) (gs_S T) fu 0 acc (by omega) (by omega)
      rw [show (0 : Int32) = nI 0 from rfl, h1]
      obtain ⟨r, h3, h4⟩ := m_led6 hT hw hc hfu (d - 1) n (s + 1) acc' (by omega) (by omega)
      refine ⟨r, h3, fun t => ?_⟩
      rw [h4, h2]
      constructor
      · rintro ((h | h) | ⟨u, h⟩)
        · exact Or.inl h
        · exact Or.inr ⟨s, by omega, by omega, h.1, h.2.2.1, h.2.2.2⟩
        · exact Or.inr ⟨u, by omega, h.2.1, h.2.2.1, h.2.2.2.1, h.2.2.2.2⟩
      · rintro (h | ⟨u, h⟩)
        · exact Or.inl (Or.inl h)
        · by_cases e2 : u = s
          · subst e2
            exact Or.inl (Or.inr ⟨h.2.2.1, by omega, h.2.2.2.1, h.2.2.2.2⟩)
          · exact Or.inr ⟨u, by omega, h.2.1, h.2.2.1, h.2.2.2.1, h.2.2.2.2⟩
theorem m_led (hT : rm_T T M) (hw : gs_wf T) (hc : c < 16) (hfu : 100 ≤ fu) : ∃ r, gm_X6_led fu z y (nI c) (go_k 6 z M X) = some (r, go_k 6 z M X) ∧ ∀ t, gb r t = true ↔ gs_led T c (fun u => gb y u = true) t := by
  have h60 := hw.2.1
  obtain ⟨r, h1, h2⟩ := m_led6 (fu := fu) (z := z) (X := X) (y := y) hT hw hc hfu (gs_S T) fu 0 0 (by omega) (by omega)
  refine ⟨r, h1, fun t => ?_⟩
  rw [h2, gb_0]
  constructor
  · rintro (h | ⟨u, -, h1, h2, h3, h4⟩)
    · cases h
    · exact ⟨h3, u, h1, h2, h4⟩
  · rintro ⟨h3, u, h1, h2, h4⟩
    exact Or.inr ⟨u, by omega, h1, h2, h3, h4⟩
end MLed
/-! join, and what a row of joins does -/
def jn (M : go_O) (fld k : Nat) (v : Int64) : go_O := if (ml M fld k ||| v) = ml M fld k then M else go_si (go_al M fld k (ml M fld k ||| v)) 18 1
theorem m_join {fu z k o n fld : Nat} {v : Int64} {M : go_O} {X : gx_H} (h0 : 0 < o) (hz : o < go_z 6) (hf : go_f 6 o = fld) (hd : go_d 6 fld = (4, o, 1, n)) (hn : n < 2 ^ 31) (hk : k < n) : gm_X6_join fu z (z + o) (nI k) v (go_k 6 z M X) = some (go_k 6 z (jn M fld k v) X) := by
  unfold gm_X6_join jn
  simp only [go_ral h0 hz hf hd hn hk, Option.bind_some]
  by_cases e : (ml M fld k ||| v) = ml M fld k
  · rw [if_pos (gb_cmp.mpr e), if_pos e]
  · rw [if_neg (fun q => e (gb_cmp.mp q)), if_neg e]
    simp only [go_wal h0 hz go_cs6 hf hd hn hk, Option.bind_some, gq_6]
theorem m_join14 {fu z k : Nat} {v : Int64} {M : go_O} {X : gx_H} (hk : k < 3200) : gm_X6_join fu z (z + 12) (nI k) v (go_k 6 z M X) = some (go_k 6 z (jn M 14 k v) X) := m_join (by decide) (by decide) rfl rfl (by decide) hk
theorem m_join15 {fu z k : Nat} {v : Int64} {M : go_O} {X : gx_H} (hk : k < 16) : gm_X6_join fu z (z + 13) (nI k) v (go_k 6 z M X) = some (go_k 6 z (jn M 15 k v) X) := m_join (by decide) (by decide) rfl rfl (by decide) hk
theorem m_join16 {fu z k : Nat} {v : Int64} {M : go_O} {X : gx_H} (hk : k < 16) : gm_X6_join fu z (z + 14) (nI k) v (go_k 6 z M X) = some (go_k 6 z (jn M 16 k v) X) := m_join (by decide) (by decide) rfl rfl (by decide) hk
theorem m_join17 {fu z k : Nat} {v : Int64} {M : go_O} {X : gx_H} (hk : k < 16) : gm_X6_join fu z (z + 15) (nI k) v (go_k 6 z M X) = some (go_k 6 z (jn M 17 k v) X) := m_join (by decide) (by decide) rfl rfl (by decide) hk
/-- the rows are within the least sets -/
def jw (q : Nat) (T : sT) (P : sP) (M : go_O) : Prop :=
  (∀ f i s, f < gp_c P → i < gp_l P f → gb (ml M 14 (1600 * q + 200 * f + i)) s = true → gl_m T P f i s) ∧ (∀ f s, f < gp_c P → gb (ml M 15 (8 * q + f)) s = true → gl_e T P f s) ∧
  (∀ f s, f < gp_c P → gb (ml M 16 (8 * q + f)) s = true → gl_x T P f s) ∧ ∀ f s, f < gp_c P → gb (ml M 17 (8 * q + f)) s = true → gl_a T P f s
def jm (M : go_O) : Nat := gn_s (fun k => gb_u (ml M 14 k)) 3200 + gn_s (fun k => gb_u (ml M 15 k)) 16 + gn_s (fun k => gb_u (ml M 16 k)) 16 + gn_s (fun k => gb_u (ml M 17 k)) 16
def jj (q : Nat) (T : sT) (P : sP) (M M' : go_O) : Prop :=
  ((∀ k i, mi M' k i = mi M k i) ∧ ∀ j, j ≠ 18 → M'.1 j = M.1 j) ∧ (∀ k i s, gb (ml M k i) s = true → gb (ml M' k i) s = true) ∧ (jw q T P M → jw q T P M') ∧ (M' = M ∨ (M'.1 18 = 1 ∧ jm M' < jm M)) ∧
  ∀ k i, (k = 14 → i < 1600 * q ∨ 1600 * q + 1600 ≤ i) → (k ≠ 14 → i < 8 * q ∨ 8 * q + 8 ≤ i) → ml M' k i = ml M k i
theorem jj.rf {q : Nat} {T : sT} {P : sP} {M : go_O} : jj q T P M M := ⟨⟨fun _ _ => rfl, fun _ _ => rfl⟩, fun _ _ _ h => h, id, Or.inl rfl, fun _ _ _ _ => rfl⟩
theorem jj.tr {q : Nat} {T : sT} {P : sP} {M M' M'' : go_O} (h1 : jj q T P M M') (h2 : jj q T P M' M'') : jj q T P M M'' := by
  refine ⟨⟨fun k i => (h2.1.1 k i).trans (h1.1.1 k i), fun j hj => (h2.1.2 j hj).trans (h1.1.2 j hj)⟩, fun k i s h => h2.2.1 k i s (h1.2.1 k i s h), fun h => h2.2.2.1 (h1.2.2.1 h), ?_, fun k i a b => (h2.2.2.2.2 k i a b).trans (h1.2.2.2.2 k i a b)⟩
  rcases h2.2.2.2.1 with e2 | ⟨a2, b2⟩
  · rw [e2]
    exact h1.2.2.2.1
  · rcases h1.2.2.2.1 with e1 | ⟨a1, b1⟩
    · rw [e1] at b2
      exact Or.inr ⟨a2, b2⟩
    · exact Or.inr ⟨a2, by omega⟩
theorem jn_in (M : go_O) (fld k : Nat) (v : Int64) {s : Nat} (h : gb v s = true) : gb (ml (jn M fld k v) fld k) s = true := by
  unfold jn
  by_cases e : (ml M fld k ||| v) = ml M fld k
  · rw [if_pos e]
    exact gb_sub.mp e s h
  · rw [if_neg e]
    show gb (go_w (ml M) fld k (ml M fld k ||| v) fld k) s = true
    rw [go_w_s, go_u_s, gb_or, h, Bool.or_true]
theorem jn_at (M : go_O) (fld k : Nat) (v : Int64) (k' i : Nat) (s : Nat) : gb (ml (jn M fld k v) k' i) s = true ↔ (gb (ml M k' i) s = true ∨ (k' = fld ∧ i = k ∧ gb v s = true)) := by
  unfold jn
  by_cases e : (ml M fld k ||| v) = ml M fld k
  · rw [if_pos e]
    refine ⟨Or.inl, fun h => h.elim id fun ⟨h1, h2, h3⟩ => ?_⟩
    subst h1; subst h2
    exact gb_sub.mp e s h3
  · rw [if_neg e]
    show gb (go_w (ml M) fld k (ml M fld k ||| v) k' i) s = true ↔ _
    by_cases e1 : k' = fld
    · subst e1
      rw [go_w_s]
      by_cases e2 : i = k
      · subst e2
        rw [go_u_s, gb_or, Bool.or_eq_true_iff]
        simp
      · rw [go_u_n e2]
        simp [e2]
    · rw [go_w_n e1]
      simp [e1]
theorem jn_ne (M : go_O) (fld k : Nat) (v : Int64) {k' i : Nat} (h : k' ≠ fld ∨ i ≠ k) : ml (jn M fld k v) k' i = ml M k' i := by
  unfold jn
  by_cases e : (ml M fld k ||| v) = ml M fld k
  · rw [if_pos e]
  · rw [if_neg e]
    show go_w (ml M) fld k (ml M fld k ||| v) k' i = _
    by_cases e1 : k' = fld
    · subst e1
      rw [go_w_s, go_u_n (h.elim (fun h => absurd rfl h) id)]
    · rw [go_w_n e1]
theorem jn_same (M : go_O) (fld k : Nat) (v : Int64) : (∀ a i, mi (jn M fld k v) a i = mi M a i) ∧ ∀ j, j ≠ 18 → (jn M fld k v).1 j = M.1 j := by
  unfold jn
  by_cases e : (ml M fld k ||| v) = ml M fld k
  · rw [if_pos e]
    exact ⟨fun _ _ => rfl, fun _ _ => rfl⟩
  · rw [if_neg e]
    refine ⟨fun _ _ => rfl, fun j hj => ?_⟩
    show go_u M.1 18 1 j = _
    rw [go_u_n hj]
theorem jn_flag (M : go_O) {fld k : Nat} (v : Int64) (hf : (fld = 14 ∧ k < 3200) ∨ ((fld = 15 ∨ fld = 16 ∨ fld = 17) ∧ k < 16)) : jn M fld k v = M ∨ ((jn M fld k v).1 18 = 1 ∧ jm (jn M fld k v) < jm M) := by
  by_cases e : (ml M fld k ||| v) = ml M fld k
  · left
    unfold jn
    rw [if_pos e]
  · right
    have ej : jn M fld k v = go_si (go_al M fld k (ml M fld k ||| v)) 18 1 := by
      unfold jn
      rw [if_neg e]
    have hk : ml (jn M fld k v) fld k = (ml M fld k ||| v) := by
      rw [ej]
      show go_w (ml M) fld k (ml M fld k ||| v) fld k = _
      rw [go_w_s, go_u_s]
    refine ⟨by rw [ej]; show go_u M.1 18 1 18 = 1; rw [go_u_s], ?_⟩
    have le : ∀ a i, gb_u (ml (jn M fld k v) a i) ≤ gb_u (ml M a i) := fun a i => by
      by_cases e1 : a = fld ∧ i = k
      · rw [e1.1, e1.2, hk]
        exact gb_u_le _ _
      · rw [jn_ne M fld k v (by omega)]
        exact Nat.le_refl _
    have lt : gb_u (ml (jn M fld k v) fld k) < gb_u (ml M fld k) := by
      rw [hk]
      exact gb_u_lt e
    have s14 := gn_le (f := fun k' => gb_u (ml (jn M fld k v) 14 k')) (g := fun k' => gb_u (ml M 14 k')) 3200 (fun i _ => le 14 i)
    have s15 := gn_le (f := fun k' => gb_u (ml (jn M fld k v) 15 k')) (g := fun k' => gb_u (ml M 15 k')) 16 (fun i _ => le 15 i)
    have s16 := gn_le (f := fun k' => gb_u (ml (jn M fld k v) 16 k')) (g := fun k' => gb_u (ml M 16 k')) 16 (fun i _ => le 16 i)
    have s17 := gn_le (f := fun k' => gb_u (ml (jn M fld k v) 17 k')) (g := fun k' => gb_u (ml M 17 k')) 16 (fun i _ => le 17 i)
    unfold jm
    rcases hf with ⟨rfl, hk2⟩ | ⟨rfl | rfl | rfl, hk2⟩
    · have := gn_lt (f := fun k' => gb_u (ml (jn M 14 k v) 14 k')) (g := fun k' => gb_u (ml M 14 k')) 3200 k hk2 (fun i _ => le 14 i) lt
      omega
    · have := gn_lt (f := fun k' => gb_u (ml (jn M 15 k v) 15 k')) (g := fun k' => gb_u (ml M 15 k')) 16 k hk2 (fun i _ => le 15 i) lt
      omega
    · have := gn_lt (f := fun k' => gb_u (ml (jn M 16 k v) 16 k')) (g := fun k' => gb_u (ml M 16 k')) 16 k hk2 (fun i _ => le 16 i) lt
      omega
    · have := gn_lt (f := fun k' => gb_u (ml (jn M 17 k v) 17 k')) (g := fun k' => gb_u (ml M 17 k')) 16 k hk2 (fun i _ => le 17 i) lt
      omega
section MJ
variable {q f i : Nat} {T : sT} {P : sP} {M : go_O} {v : Int64}
theorem jj_14 (hq : q < 2) (hw : gp_wf P) (hf : f < gp_c P) (hi : i < gp_l P f) (hv : jw q T P M → ∀ s, gb v s = true → gl_m T P f i s) : jj q T P M (jn M 14 (1600 * q + 200 * f + i) v) := by
  have hc := hw.1
  have hl := (hw.2 f hf).1.2
  refine ⟨jn_same M _ _ v, fun k a s h => (jn_at M _ _ v k a s).mpr (Or.inl h), fun hW => ⟨fun f' i' s hf' hi' h => ?_, fun f' s hf' h => ?_, fun f' s hf' h => ?_, fun f' s hf' h => ?_⟩, jn_flag M v (Or.inl ⟨rfl, by omega⟩), fun k a h1 h2 => jn_ne M _ _ v (by omega)⟩
  · rcases (jn_at M _ _ v _ _ s).mp h with h | ⟨-, h1, hg⟩
    · exact hW.1 f' i' s hf' hi' h
    · have hl' := (hw.2 f' hf').1.2
      have e1 : f' = f := by omega
      subst e1
      have e2 : i' = i := by omega
      subst e2
      exact hv hW s hg
  · rcases (jn_at M _ _ v _ _ s).mp h with h | ⟨h, -⟩
    · exact hW.2.1 f' s hf' h
    · omega
  · rcases (jn_at M _ _ v _ _ s).mp h with h | ⟨h, -⟩
    · exact hW.2.2.1 f' s hf' h
    · omega
  · rcases (jn_at M _ _ v _ _ s).mp h with h | ⟨h, -⟩
    · exact hW.2.2.2 f' s hf' h
    · omega
theorem jj_15 (hq : q < 2) (hw : gp_wf P) (hf : f < gp_c P) (hv : jw q T P M → ∀ s, gb v s = true → gl_e T P f s) : jj q T P M (jn M 15 (8 * q + f) v) := by
  have hc := hw.1
  refine ⟨jn_same M _ _ v, fun k a s h => (jn_at M _ _ v k a s).mpr (Or.inl h), fun hW => ⟨fun f' i' s hf' hi' h => ?_, fun f' s hf' h => ?_, fun f' s hf' h => ?_, fun f' s hf' h => ?_⟩, jn_flag M v (Or.inr ⟨Or.inl rfl, by omega⟩), fun k a h1 h2 => jn_ne M _ _ v (by omega)⟩
  · rcases (jn_at M _ _ v _ _ s).mp h with h | ⟨h, -⟩
    · exact hW.1 f' i' s hf' hi' h
    · omega
  · rcases (jn_at M _ _ v _ _ s).mp h with h | ⟨-, h1, hg⟩
    · exact hW.2.1 f' s hf' h
    · have e1 : f' = f := by omega
      subst e1
      exact hv hW s hg
  · rcases (jn_at M _ _ v _ _ s).mp h with h | ⟨h, -⟩
    · exact hW.2.2.1 f' s hf' h
    · omega
  · rcases (jn_at M _ _ v _ _ s).mp h with h | ⟨h, -⟩
    · exact hW.2.2.2 f' s hf' h
    · omega
theorem jj_16 (hq : q < 2) (hw : gp_wf P) (hf : f < gp_c P) (hv : jw q T P M → ∀ s, gb v s = true → gl_x T P f s) : jj q T P M (jn M 16 (8 * q + f) v) := by
  have hc := hw.1
  refine ⟨jn_same M _ _ v, fun k a s h => (jn_at M _ _ v k a s).mpr (Or.inl h), fun hW => ⟨fun f' i' s hf' hi' h => ?_, fun f' s hf' h => ?_, fun f' s hf' h => ?_, fun f' s hf' h => ?_⟩, jn_flag M v (Or.inr ⟨Or.inr (Or.inl rfl), by omega⟩), fun k a h1 h2 => jn_ne M _ _ v (by omega)⟩
  · rcases (jn_at M _ _ v _ _ s).mp h with h | ⟨h, -⟩
    · exact hW.1 f' i' s hf' hi' h
    · omega
  · rcases (jn_at M _ _ v _ _ s).mp h with h | ⟨h, -⟩
    · exact hW.2.1 f' s hf' h
    · omega
  · rcases (jn_at M _ _ v _ _ s).mp h with h | ⟨-, h1, hg⟩
    · exact hW.2.2.1 f' s hf' h
    · have e1 : f' = f := by omega
      subst e1
      exact hv hW s hg
  · rcases (jn_at M _ _ v _ _ s).mp h with h | ⟨h, -⟩
    · exact hW.2.2.2 f' s hf' h
    · omega
theorem jj_17 (hq : q < 2) (hw : gp_wf P) (hf : f < gp_c P) (hv : jw q T P M → ∀ s, gb v s = true → gl_a T P f s) : jj q T P M (jn M 17 (8 * q + f) v) := by
  have hc := hw.1
  refine ⟨jn_same M _ _ v, fun k a s h => (jn_at M _ _ v k a s).mpr (Or.inl h), fun hW => ⟨fun f' i' s hf' hi' h => ?_, fun f' s hf' h => ?_, fun f' s hf' h => ?_, fun f' s hf' h => ?_⟩, jn_flag M v (Or.inr ⟨Or.inr (Or.inr rfl), by omega⟩), fun k a h1 h2 => jn_ne M _ _ v (by omega)⟩
  · rcases (jn_at M _ _ v _ _ s).mp h with h | ⟨h, -⟩
    · exact hW.1 f' i' s hf' hi' h
    · omega
  · rcases (jn_at M _ _ v _ _ s).mp h with h | ⟨h, -⟩
    · exact hW.2.1 f' s hf' h
    · omega
  · rcases (jn_at M _ _ v _ _ s).mp h with h | ⟨h, -⟩
    · exact hW.2.2.1 f' s hf' h
    · omega
  · rcases (jn_at M _ _ v _ _ s).mp h with h | ⟨-, h1, hg⟩
    · exact hW.2.2.2 f' s hf' h
    · have e1 : f' = f := by omega
      subst e1
      exact hv hW s hg
theorem jj.rP {M' : go_O} (h : jj q T P M M') {p : Nat} {R : sP} (hR : rm_P p R M) : rm_P p R M' := by
  unfold rm_P at hR ⊢
  simp only [h.1.1]
  exact hR
theorem jj.rT {M' : go_O} (h : jj q T P M M') {R : sT} (hR : rm_T R M) : rm_T R M' := by
  unfold rm_T at hR ⊢
  rw [h.1.2 1 (by omega)]
  simp only [h.1.1]
  exact hR
end MJ
