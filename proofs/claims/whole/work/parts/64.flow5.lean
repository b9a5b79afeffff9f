/-! Flow: one step -/
section FT
variable {W0 : gw_T} {ip aF aT aP : Nat} {ad : Nat → Nat} {B : Nat → go_O} {F : go_O} {X : gx_H} {fu f i t : Nat} {T : sT} {P : sP}
theorem gx_nls {α : Type} (a : Nat) (k0 : Option α) (k1 : Nat → Option α) : gx_nl (some a) k0 k1 = k1 a := rfl
theorem gx_nln {α : Type} (k0 : Option α) (k1 : Nat → Option α) : gx_nl none k0 k1 = k0 := rfl
def fend (T : sT) (P : sP) (f i : Nat) (B' : Nat → go_O) : Prop := ¬ fWt B' f i = 0 ∨ gp_rule T P (bm P B') (be P B') (bx P B') (bl P B') f i ∨ (gp_k P f i = 3 ∧ gp_n P f i < gp_c P ∧ ¬ fGr B' (gp_n P f i) = 0)
set_option maxHeartbeats 4000000 in
/-- from behind the flag's clearing on: the state (B, F, t) has the flag down -/
theorem f_step78 (hip : 4 ≤ ip) (hw : gp_wf P) (hTw : gs_wf T) (hfu : 100 ≤ fu) (hC : fc W0 T P ip aT aP ad) (h : gw_D (fw W0 ip (gp_c P) aF ad B F) X) (I : fi T P aT B F t) (hf : f < gp_c P) (hi : i < gp_l P f) (hne : ¬ fMy B f i = 0) (o : Option Nat) (ho : (gp_k P f i = 3 ∧ gp_n P f i < gp_c P ∧ o = some (ad (gp_n P f i))) ∨ (¬ (gp_k P f i = 3 ∧ gp_n P f i < gp_c P) ∧ o = none)) :
    ∃ X' B' F' t', gm_X1_step_78 fu aF (some (ad f)) (nI i) (nI (gp_k P f i)) (fMy B f i) o X = some X' ∧ gw_D (fw W0 ip (gp_c P) aF ad B' F') X' ∧ fi T P aT B' F' t' ∧ fr P B F t B' F' t' ∧ (fe P B → fe P B') ∧ fend T P f i B' := by
  obtain ⟨⟨-, hl2⟩, h6, hIw, hHw⟩ := hw.2 f hf
  have k8 := (hIw i hi).1
  have rule := (gl_cl T P).2.2 f hf i hi
  have hsm : ∀ s, gb (fMy B f i) s = true → gl_m T P f i s := fun s hs => I.2.2.2.2.2.2.1.1 f i s hf hi hs
  obtain ⟨u, hu⟩ := gb_nz.mp hne
  generalize hh : fMy B f i = hv at hsm hu hne ⊢
  -- from 109 on: ENTRY of what is called has been seen to; ins is what was ALL of it
  have b109 : ∀ (ins : Int64) (X2 : gx_H) (B2 : Nat → go_O) (F2 : go_O) (t2 : Nat), gw_D (fw W0 ip (gp_c P) aF ad B2 F2) X2 → fi T P aT B2 F2 t2 → fr P B F t B2 F2 t2 → (fe P B → fe P B2) → ((gp_k P f i = 3 ∧ gp_n P f i < gp_c P) → (∀ s, gb hv s = true → gb (fEn B2 (gp_n P f i)) s = true) ∧ ins = fAl B (gp_n P f i)) → (¬ (gp_k P f i = 3 ∧ gp_n P f i < gp_c P) → ins = 0) →
      ∃ X' B' F' t', gm_X1_step_109 fu aF (some (ad f)) (nI i) (nI (gp_k P f i)) hv o ins X2 = some X' ∧ gw_D (fw W0 ip (gp_c P) aF ad B' F') X' ∧ fi T P aT B' F' t' ∧ fr P B F t B' F' t' ∧ (fe P B → fe P B') ∧ fend T P f i B' := by
    intro ins X2 B2 F2 t2 d2 i2 s2 e2 hcall hncall
    have hne2 : ¬ fMy B2 f i = 0 := gb_nz.mpr ⟨u, s2.1 f i u (by rw [hh]; exact hu)⟩
    obtain ⟨af, a1, a2⟩ := f_afterOf (fu := fu) hip hw hTw hfu hC d2 i2 hf hi hne2 o ho
    have asnd : ∀ s, gb af s = true → gp_after T P (gl_m T P) (gl_x T P) f i s := fun s hs => gp_after_mono (fun s q => i2.2.2.2.2.2.2.1.1 f i s q.1 q.2.1 q.2.2) (fun g s q => i2.2.2.2.2.2.2.1.2.2.1 g s q.1 q.2) ((a2 s).mp hs)
    have isnd : ∀ s, gb ins s = true → (gp_k P f i = 3 ∧ gp_n P f i < gp_c P) ∧ gl_a T P (gp_n P f i) s := fun s hs => by
      by_cases c : gp_k P f i = 3 ∧ gp_n P f i < gp_c P
      · refine ⟨c, I.2.2.2.2.2.2.1.2.2.2 _ s c.2 ?_⟩
        rw [← (hcall c).2]
        exact hs
      · rw [hncall c, gb_0] at hs
        cases hs
    have xs : ∀ x : Int64, ((gp_k P f i = 6 ∧ x = hv) ∨ (¬ gp_k P f i = 6 ∧ x = 0)) → ∀ s, gb x s = true → gl_x T P f s := fun x hx s hs => by
      rcases hx with ⟨k6, rfl⟩ | ⟨-, rfl⟩
      · exact (rule.2.1 s (hsm s hs)).2.1 k6
      · rw [gb_0] at hs
        cases hs
    have b135 : ∀ x : Int64, ((gp_k P f i = 6 ∧ x = hv) ∨ (¬ gp_k P f i = 6 ∧ x = 0)) → ∃ X' B' F' t', gm_X1_step_135 fu aF (some (ad f)) (nI i) (nI (gp_k P f i)) hv ins af aF (some (ad f)) x X2 = some X' ∧ gw_D (fw W0 ip (gp_c P) aF ad B' F') X' ∧ fi T P aT B' F' t' ∧ fr P B F t B' F' t' ∧ (fe P B → fe P B') ∧ fend T P f i B' := by
      intro x hx
      unfold gm_X1_step_135
      simp only [Option.bind_some]
      rw [gx_obT (kF d2)]
      obtain ⟨X3, B3, F3, g1, g2, g3, g4, g5, g6, g7, g8⟩ := f_growSummary (fu := fu) (x := x) (a := ((hv ||| af) ||| ins)) hip hw d2 i2 hf (xs x hx) (fun s hs => by
        rw [gb_or, gb_or] at hs
        rcases Bool.or_eq_true_iff.mp hs with hs | hs
        · rcases Bool.or_eq_true_iff.mp hs with hs | hs
          · exact (rule.2.1 s (hsm s hs)).1
          · exact (rule.1 s (asnd s hs)).2.2
        · obtain ⟨c, ha⟩ := isnd s hs
          exact (rule.2.2 s u c.1 (hsm u hu) c.2 ha).1)
      rw [g1, Option.bind_some, gx_obT (kF g2)]
      obtain ⟨X4, B4, F4, t4, p1, p2, p3, p4, p5, p6, p7, p8, p9⟩ := f_passOn (fu := fu) hip hw g2 g3 hf hi asnd
      rw [p1, Option.bind_some]
      have s4 := s2.tr (g4.tr p4)
      have e4 : fe P B → fe P B4 := fun q g hg s hs => by
        rw [p7, g8] at hs
        exact p4.1 g 0 s (by rw [g7]; exact e2 q g hg s hs)
      -- the end, from a state in which the handlers have been seen to
      have fin : ∀ (B5 : Nat → go_O) (F5 : go_O) (t5 : Nat), fr P B4 F4 t4 B5 F5 t5 → ((gp_k P f i = 3 ∨ gp_k P f i = 7 ∨ gp_k P f i = 8) → ∀ h', h' < gp_h P f → gp_a P f h' ≤ i → i < gp_b P f h' → ∀ s, (gb hv s = true ∨ gb ins s = true) → gb (fMy B5 f (gp_g P f h')) s = true) → fend T P f i B5 := by
        intro B5 F5 t5 s45 hdl
        have s5 := s4.tr s45
        unfold fend
        by_cases w0 : fWt B5 f i = 0
        · right
          by_cases gg : gp_k P f i = 3 ∧ gp_n P f i < gp_c P ∧ ¬ fGr B5 (gp_n P f i) = 0
          · exact Or.inr gg
          · left
            have m5 : fMy B5 f i = hv := by
              rcases s5.2.2.2.2.1 f i hf hi with q | q
              · exact q.trans hh
              · exact absurd w0 q
            have m2 : ∀ s, gb (fMy B5 f i) s = true → gb (fMy B2 f i) s = true := fun s hs => s2.1 f i s (by rw [hh, ← m5]; exact hs)
            have xa : gp_k P f i = 3 → gp_n P f i < gp_c P → fEx B5 (gp_n P f i) = fEx B (gp_n P f i) ∧ fAl B5 (gp_n P f i) = fAl B (gp_n P f i) := fun k3 hn => by
              rcases s5.2.2.2.2.2.2.1 _ hn with q | q
              · exact q
              · exact absurd ⟨k3, hn, q⟩ gg
            have aft : ∀ s, gp_after T P (bm P B5) (bx P B5) f i s → gb af s = true := fun s hs => by
              rw [a2]
              rcases hs with ⟨q1, ⟨v, q2⟩, q3, q4⟩ | ⟨q1, q2⟩ | ⟨q1, q2, q3, q4⟩
              · refine Or.inl ⟨q1, ⟨v, hf, hi, m2 v q2.2.2⟩, q3, q3, ?_⟩
                have := q4.2
                rw [(xa q1 q3).1] at this
                exact s2.2.2.1 _ s this
              · exact Or.inr (Or.inl ⟨q1, gs_led_mono (fun v q => ⟨hf, hi, m2 v q.2.2⟩) q2⟩)
              · exact Or.inr (Or.inr ⟨q1, q2, q3, hf, hi, m2 s q4.2.2⟩)
            have inA : ∀ s, (gb hv s = true ∨ gb af s = true ∨ gb ins s = true) → gb (fAl B5 f) s = true := fun s hs => s45.2.2.2.1 f s (p4.2.2.2.1 f s (g6 s (by
              rw [gb_or, gb_or]
              rcases hs with hs | hs | hs
              · rw [hs]; rfl
              · rw [hs]; simp
              · rw [hs]; simp)))
            refine ⟨fun s hs => ⟨fun k => ⟨hf, (hIw i hi).2.1 k, s45.1 _ _ s (p5 k s (aft s hs))⟩, fun k hl => ⟨hf, hl, s45.1 _ _ s (p6 k hl s (aft s hs))⟩, hf, inA s (Or.inr (Or.inl (aft s hs)))⟩, fun s hs => ?_, fun s v k3 hv3 hn ha => ?_⟩
            · have hs' : gb hv s = true := by rw [← m5]; exact hs.2.2
              refine ⟨⟨hf, inA s (Or.inl hs')⟩, fun k6 => ⟨hf, s45.2.2.1 f s (p4.2.2.1 f s (g5 s ?_))⟩, fun k3 hn => ⟨hn, s45.2.1 _ s (p4.2.1 _ s (g4.2.1 _ s ((hcall ⟨k3, hn⟩).1 s hs')))⟩, fun k h' hh' b1 b2 => ⟨hf, (hHw h' hh').2.2, hdl k h' hh' b1 b2 s (Or.inl hs')⟩⟩
              rcases hx with ⟨-, rfl⟩ | ⟨q, -⟩
              · exact hs'
              · exact absurd k6 q
            · have ha' : gb ins s = true := by
                rw [(hcall ⟨k3, hn⟩).2, ← (xa k3 hn).2]
                exact ha.2
              exact ⟨⟨hf, inA s (Or.inr (Or.inr ha'))⟩, fun h' hh' b1 b2 => ⟨hf, (hHw h' hh').2.2, hdl (Or.inl k3) h' hh' b1 b2 s (Or.inr ha')⟩⟩
        · exact Or.inl w0
      have b175 : (gp_k P f i = 3 ∨ gp_k P f i = 7 ∨ gp_k P f i = 8) → ∃ X' B' F' t', gm_X1_step_175 fu aF (some (ad f)) (nI i) hv ins X4 = some X' ∧ gw_D (fw W0 ip (gp_c P) aF ad B' F') X' ∧ fi T P aT B' F' t' ∧ fr P B F t B' F' t' ∧ (fe P B → fe P B') ∧ fend T P f i B' := by
        intro k378
        unfold gm_X1_step_175 gm_X1_passToHandlers
        simp only [Option.bind_some]
        rw [gx_obT (kF p2)]
        obtain ⟨X5, B5, F5, t5, n1, n2, n3, n4, n5, n6, n7, n8⟩ := f_pth3 (fu := fu) (v := hv ||| ins) hip hw hf hi (fun h' hh' b1 b2 s hs => by
          rw [gb_or] at hs
          rcases Bool.or_eq_true_iff.mp hs with hs | hs
          · exact (rule.2.1 s (hsm s hs)).2.2.2 k378 h' hh' b1 b2
          · obtain ⟨c, ha⟩ := isnd s hs
            exact (rule.2.2 s u c.1 (hsm u hu) c.2 ha).2 h' hh' b1 b2) (gp_h P f) fu 0 X4 B4 F4 t4 p2 p3 (by omega) (by omega)
        rw [show (0 : Int32) = nI 0 from rfl, n1, Option.bind_some]
        refine ⟨X5, B5, F5, t5, rfl, n2, n3, s4.tr n4, fun q g hg s hs => n4.1 g 0 s (e4 q g hg s (by rw [← n6]; exact hs)), fin B5 F5 t5 n4 fun _ h' hh' b1 b2 s hs => n5 h' (by omega) hh' b1 b2 s ?_⟩
        rw [gb_or]
        exact Bool.or_eq_true_iff.mpr hs
      by_cases k3 : gp_k P f i = 3
      · rw [if_pos (by rw [k3]; rfl)]
        exact b175 (Or.inl k3)
      · rw [if_neg (nI_nl 3 (x := 3) rfl (by omega) (by omega) k3)]
        by_cases k7 : gp_k P f i = 7
        · rw [if_pos (by rw [k7]; rfl)]
          exact b175 (Or.inr (Or.inl k7))
        · rw [if_neg (nI_nl 7 (x := 7) rfl (by omega) (by omega) k7)]
          by_cases k8' : gp_k P f i = 8
          · rw [if_pos (by rw [k8']; rfl)]
            exact b175 (Or.inr (Or.inr k8'))
          · rw [if_neg (nI_nl 8 (x := 8) rfl (by omega) (by omega) k8')]
            exact ⟨X4, B4, F4, t4, rfl, p2, p3, s4, e4, fin B4 F4 t4 fr.rf fun q => by omega⟩
    unfold gm_X1_step_109
    simp only [Option.bind_some]
    rw [gx_obT (kF d2), a1, gx_b2s]
    by_cases k6 : gp_k P f i = 6
    · rw [if_pos (by rw [k6]; rfl)]
      exact b135 hv (Or.inl ⟨k6, rfl⟩)
    · rw [if_neg (nI_nl 6 (x := 6) rfl (by omega) (by omega) k6)]
      exact b135 0 (Or.inr ⟨k6, rfl⟩)
  unfold gm_X1_step_78 gm_X1_step_94
  rcases ho with ⟨k3, hn, rfl⟩ | ⟨hno, rfl⟩
  · have q2 := gq_0 (ad (gp_n P f i)) (B (gp_n P f i)) X
    rw [kB hip h hn] at q2
    simp only [gx_nls, q2, Option.bind_some]
    rw [gx_obT (kF h)]
    obtain ⟨X2, B2, F2, t2, g1, g2, g3, g4, g5, g6, g7, g8, g9, g10⟩ := f_growEntry (fu := fu) (f := gp_n P f i) (v := hv) hip hw h I hn (fun s hs => (rule.2.1 s (hsm s hs)).2.2.1 k3 hn)
    rw [g1, Option.bind_some]
    exact b109 _ X2 B2 F2 t2 g2 g3 g4 g6 (fun _ => ⟨g5, rfl⟩) (fun q => absurd ⟨k3, hn⟩ q)
  · simp only [gx_nln]
    exact b109 0 X B F t h I fr.rf id (fun q => absurd q hno) (fun _ => rfl)
end FT
