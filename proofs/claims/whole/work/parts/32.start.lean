/-! the tables' numbers at the law's start -/
theorem gz_K0 {s : State} {b : Nat} (hts : ∀ w ∈ lw_tbl, w.before #[Value.ref b] s = true) : ∃ D : gx_D, D.2.2 = s.heap.size ∧ gx_K D gz_cl gz_at gz_tb gz_nb s := by
  obtain ⟨cX0, iX0, kX0⟩ := u_known (C := RX0) (T := TX0) (N := 15) (n := 15) hts (fun w hw => (List.mem_filter.mp (kcX0.2.1 w hw)).1) (hts _ (List.mem_filter.mp wl_174).1)
  obtain ⟨cX1, iX1, kX1⟩ := u_known (C := RX1) (T := TX1) (N := 4) (n := 4) hts (fun w hw => (List.mem_filter.mp (kcX1.2.1 w hw)).1) (hts _ (List.mem_filter.mp wl_42).1)
  obtain ⟨cX2, iX2, kX2⟩ := u_known (C := RX2) (T := TX2) (N := 2) (n := 2) hts (fun w hw => (List.mem_filter.mp (kcX2.2.1 w hw)).1) (hts _ (List.mem_filter.mp wl_62).1)
  obtain ⟨cX3, iX3, kX3⟩ := u_known (C := RX3) (T := TX3) (N := 3) (n := 3) hts (fun w hw => (List.mem_filter.mp (kcX3.2.1 w hw)).1) (hts _ (List.mem_filter.mp wl_75).1)
  obtain ⟨cX4, iX4, kX4⟩ := u_known (C := RX4) (T := TX4) (N := 4) (n := 4) hts (fun w hw => (List.mem_filter.mp (kcX4.2.1 w hw)).1) (hts _ (List.mem_filter.mp wl_18).1)
  obtain ⟨cX5, iX5, kX5⟩ := u_known (C := RX5) (T := TX5) (N := 6) (n := 6) hts (fun w hw => (List.mem_filter.mp (kcX5.2.1 w hw)).1) (hts _ (List.mem_filter.mp wl_10).1)
  obtain ⟨cX6, iX6, kX6⟩ := u_known (C := RX6) (T := TX6) (N := 20) (n := 20) hts (fun w hw => (List.mem_filter.mp (kcX6.2.1 w hw)).1) (hts _ (List.mem_filter.mp wl_491).1)
  obtain ⟨a0, ka0, co0, fa0, ga0, ha0⟩ := Cond.arrayClass_spec (hts _ (List.mem_filter.mp wl_60).1)
  obtain ⟨a1, ka1, co1, fa1, ga1, ha1⟩ := Cond.arrayClass_spec (hts _ (List.mem_filter.mp wl_40).1)
  obtain ⟨a2, ka2, co2, fa2, ga2, ha2⟩ := Cond.arrayClass_spec (hts _ (List.mem_filter.mp wl_39).1)
  obtain ⟨co3, a3, ka3, ua3, -, ga3, ha3, fa3⟩ := Cond.arrayOver_spec (hts _ (List.mem_filter.mp wn_81).1)
  refine ⟨((fun k => match k with
    | 0 => cX0
    | 1 => cX1
    | 2 => cX2
    | 3 => cX3
    | 4 => cX4
    | 5 => cX5
    | _ => cX6, fun k => match k with
    | 0 => iX0
    | 1 => iX1
    | 2 => iX2
    | 3 => iX3
    | 4 => iX4
    | 5 => iX5
    | _ => iX6), fun t => match t with
    | 0 => a0
    | 1 => a1
    | 2 => a2
    | _ => a3, s.heap.size), rfl, ?_⟩
  refine ⟨fun c q hq => ?_, fun t ty ht => ?_, fun w hw a => word_at (State.WarmedH.refl s) (good_of_word (List.mem_filter.mp hw).2) (hts w (List.mem_filter.mp hw).1), fun w hw => ?_, fun w hw => (List.mem_filter.mp hw).2, fun w hw => (List.mem_filter.mp hw).2⟩
  · match c, hq with
    | 0, hq => cases hq; exact kX0
    | 1, hq => cases hq; exact kX1
    | 2, hq => cases hq; exact kX2
    | 3, hq => cases hq; exact kX3
    | 4, hq => cases hq; exact kX4
    | 5, hq => cases hq; exact kX5
    | 6, hq => cases hq; exact kX6
    | c + 7, hq => simp [gz_cl] at hq
  · match t, ht with
    | 0, ht => cases ht; exact ⟨fun n z => ⟨fun k h => (by cases h), ka0, ga0, co0, ha0⟩, fa0⟩
    | 1, ht => cases ht; exact ⟨fun n z => ⟨fun k h => (by cases h), ka1, ga1, co1, ha1⟩, fa1⟩
    | 2, ht => cases ht; exact ⟨fun n z => ⟨fun k h => (by cases h), ka2, ga2, co2, ha2⟩, fa2⟩
    | 3, ht => cases ht; exact ⟨fun n z => ⟨fun k h => (by cases h), ka3, ga3, co3, ha3⟩, ka3, co3, ga3, ha3, ua3, fa3⟩
    | t + 4, ht => simp [gz_at] at ht
  · have g := (List.mem_filter.mp hw).2
    have z := hts w (List.mem_filter.mp hw).1
    cases w with
    | fieldLinkNest => exact va_Nw.of rfl z
    | methodLinkNest => exact va_Nw.of rfl z
    | arrayOver ty =>
      cases ty with
      | object C => exact va_AO.of z
      | _ => simp [gx_nest] at g
    | _ => simp [gx_nest] at g
