/-! what the Statement gives at the start: classes, array classes, static arrays, String constants (wip/whole/setup.py) -/
section AMSET
variable {s : State} {args : Array Value}
abbrev am_A0 (s : State) : Nat → Prop := fun q => s.heap.size ≤ q
theorem am_A0_out : ∀ a : Nat, a < s.heap.size → ¬ am_A0 s a := fun a h h2 => absurd h2 (Nat.not_le.mpr h)
theorem am_kn0 (hts : ∀ w ∈ lw_tbl, w.before args s = true) : ∃ z : ClassId × (Nat → Nat), u_Kn s RX0 TX0 1 z.1 z.2 := by
  obtain ⟨cC, iS, h⟩ := u_known (C := RX0) (T := TX0) (N := 1) (n := 1) hts (fun w hw => (List.mem_filter.mp (am_inX0 w hw)).1) (hts (Cond.instantiable RX0 1) (List.mem_append_right _ (List.mem_of_getElem? (i := 244) (by decide +kernel))))
  exact ⟨(cC, iS), h⟩
theorem am_kn1 (hts : ∀ w ∈ lw_tbl, w.before args s = true) : ∃ z : ClassId × (Nat → Nat), u_Kn s RX1 TX1 15 z.1 z.2 := by
  obtain ⟨cC, iS, h⟩ := u_known (C := RX1) (T := TX1) (N := 15) (n := 15) hts (fun w hw => (List.mem_filter.mp (am_inX1 w hw)).1) (hts (Cond.instantiable RX1 15) (List.mem_append_right _ (List.mem_of_getElem? (i := 66) (by decide +kernel))))
  exact ⟨(cC, iS), h⟩
theorem am_kn2 (hts : ∀ w ∈ lw_tbl, w.before args s = true) : ∃ z : ClassId × (Nat → Nat), u_Kn s RX2 TX2 3 z.1 z.2 := by
  obtain ⟨cC, iS, h⟩ := u_known (C := RX2) (T := TX2) (N := 3) (n := 3) hts (fun w hw => (List.mem_filter.mp (am_inX2 w hw)).1) (hts (Cond.instantiable RX2 3) (List.mem_append_right _ (List.mem_of_getElem? (i := 291) (by decide +kernel))))
  exact ⟨(cC, iS), h⟩
theorem am_kn3 (hts : ∀ w ∈ lw_tbl, w.before args s = true) : ∃ z : ClassId × (Nat → Nat), u_Kn s RX3 TX3 3 z.1 z.2 := by
  obtain ⟨cC, iS, h⟩ := u_known (C := RX3) (T := TX3) (N := 3) (n := 3) hts (fun w hw => (List.mem_filter.mp (am_inX3 w hw)).1) (hts (Cond.instantiable RX3 3) (List.mem_append_right _ (List.mem_of_getElem? (i := 224) (by decide +kernel))))
  exact ⟨(cC, iS), h⟩
theorem am_kn4 (hts : ∀ w ∈ lw_tbl, w.before args s = true) : ∃ z : ClassId × (Nat → Nat), u_Kn s RX4 TX4 4 z.1 z.2 := by
  obtain ⟨cC, iS, h⟩ := u_known (C := RX4) (T := TX4) (N := 4) (n := 4) hts (fun w hw => (List.mem_filter.mp (am_inX4 w hw)).1) (hts (Cond.instantiable RX4 4) (List.mem_append_right _ (List.mem_of_getElem? (i := 204) (by decide +kernel))))
  exact ⟨(cC, iS), h⟩
theorem am_kn5 (hts : ∀ w ∈ lw_tbl, w.before args s = true) : ∃ z : ClassId × (Nat → Nat), u_Kn s RX5 TX5 1 z.1 z.2 := by
  obtain ⟨cC, iS, h⟩ := u_known (C := RX5) (T := TX5) (N := 1) (n := 1) hts (fun w hw => (List.mem_filter.mp (am_inX5 w hw)).1) (hts (Cond.instantiable RX5 1) (List.mem_append_right _ (List.mem_of_getElem? (i := 322) (by decide +kernel))))
  exact ⟨(cC, iS), h⟩
theorem am_kn6 (hts : ∀ w ∈ lw_tbl, w.before args s = true) : ∃ z : ClassId × (Nat → Nat), u_Kn s RX6 TX6 2 z.1 z.2 := by
  obtain ⟨cC, iS, h⟩ := u_known (C := RX6) (T := TX6) (N := 2) (n := 2) hts (fun w hw => (List.mem_filter.mp (am_inX6 w hw)).1) (hts (Cond.instantiable RX6 2) (List.mem_append_right _ (List.mem_of_getElem? (i := 309) (by decide +kernel))))
  exact ⟨(cC, iS), h⟩
theorem am_kn7 (hts : ∀ w ∈ lw_tbl, w.before args s = true) : ∃ z : ClassId × (Nat → Nat), u_Kn s RX7 TX7 7 z.1 z.2 := by
  obtain ⟨cC, iS, h⟩ := u_known (C := RX7) (T := TX7) (N := 7) (n := 7) hts (fun w hw => (List.mem_filter.mp (am_inX7 w hw)).1) (hts (Cond.instantiable RX7 7) (List.mem_append_right _ (List.mem_of_getElem? (i := 254) (by decide +kernel))))
  exact ⟨(cC, iS), h⟩
theorem am_kn8 (hts : ∀ w ∈ lw_tbl, w.before args s = true) : ∃ z : ClassId × (Nat → Nat), u_Kn s RX8 TX8 3 z.1 z.2 := by
  obtain ⟨cC, iS, h⟩ := u_known (C := RX8) (T := TX8) (N := 3) (n := 3) hts (fun w hw => (List.mem_filter.mp (am_inX8 w hw)).1) (hts (Cond.instantiable RX8 3) (List.mem_append_right _ (List.mem_of_getElem? (i := 148) (by decide +kernel))))
  exact ⟨(cC, iS), h⟩
theorem am_kn9 (hts : ∀ w ∈ lw_tbl, w.before args s = true) : ∃ z : ClassId × (Nat → Nat), u_Kn s RX9 TX9 5 z.1 z.2 := by
  obtain ⟨cC, iS, h⟩ := u_known (C := RX9) (T := TX9) (N := 5) (n := 5) hts (fun w hw => (List.mem_filter.mp (am_inX9 w hw)).1) (hts (Cond.instantiable RX9 5) (List.mem_append_right _ (List.mem_of_getElem? (i := 168) (by decide +kernel))))
  exact ⟨(cC, iS), h⟩
theorem am_kn10 (hts : ∀ w ∈ lw_tbl, w.before args s = true) : ∃ z : ClassId × (Nat → Nat), u_Kn s RX10 TX10 4 z.1 z.2 := by
  obtain ⟨cC, iS, h⟩ := u_known (C := RX10) (T := TX10) (N := 4) (n := 4) hts (fun w hw => (List.mem_filter.mp (am_inX10 w hw)).1) (hts (Cond.instantiable RX10 4) (List.mem_append_right _ (List.mem_of_getElem? (i := 40) (by decide +kernel))))
  exact ⟨(cC, iS), h⟩
theorem am_kn11 (hts : ∀ w ∈ lw_tbl, w.before args s = true) : ∃ z : ClassId × (Nat → Nat), u_Kn s RX11 TX11 19 z.1 z.2 := by
  obtain ⟨cC, iS, h⟩ := u_known (C := RX11) (T := TX11) (N := 19) (n := 19) hts (fun w hw => (List.mem_filter.mp (am_inX11 w hw)).1) (hts (Cond.instantiable RX11 19) (List.mem_append_right _ (List.mem_of_getElem? (i := 32) (by decide +kernel))))
  exact ⟨(cC, iS), h⟩
theorem am_kn12 (hts : ∀ w ∈ lw_tbl, w.before args s = true) : ∃ z : ClassId × (Nat → Nat), u_Kn s RX12 TX12 30 z.1 z.2 := by
  obtain ⟨cC, iS, h⟩ := u_known (C := RX12) (T := TX12) (N := 30) (n := 30) hts (fun w hw => (List.mem_filter.mp (am_inX12 w hw)).1) (hts (Cond.instantiable RX12 30) (List.mem_append_right _ (List.mem_of_getElem? (i := 1314) (by decide +kernel))))
  exact ⟨(cC, iS), h⟩
theorem am_classes (hts : ∀ w ∈ lw_tbl, w.before args s = true) : ∃ D : va_G, ∀ (c : Nat) (q : vw_C), vwCl[c]? = some q → u_Kn s q.1 q.2.1 q.2.2 (D.1 c) (D.2 c) := by
  have h : ∀ c : Nat, ∃ z : ClassId × (Nat → Nat), ∀ q : vw_C, vwCl[c]? = some q → u_Kn s q.1 q.2.1 q.2.2 z.1 z.2 := by
    intro c
    match c with
    | 0 => obtain ⟨z, hz⟩ := am_kn0 hts; exact ⟨z, fun q hq => by cases hq; exact hz⟩
    | 1 => obtain ⟨z, hz⟩ := am_kn1 hts; exact ⟨z, fun q hq => by cases hq; exact hz⟩
    | 2 => obtain ⟨z, hz⟩ := am_kn2 hts; exact ⟨z, fun q hq => by cases hq; exact hz⟩
    | 3 => obtain ⟨z, hz⟩ := am_kn3 hts; exact ⟨z, fun q hq => by cases hq; exact hz⟩
    | 4 => obtain ⟨z, hz⟩ := am_kn4 hts; exact ⟨z, fun q hq => by cases hq; exact hz⟩
    | 5 => obtain ⟨z, hz⟩ := am_kn5 hts; exact ⟨z, fun q hq => by cases hq; exact hz⟩
    | 6 => obtain ⟨z, hz⟩ := am_kn6 hts; exact ⟨z, fun q hq => by cases hq; exact hz⟩
    | 7 => obtain ⟨z, hz⟩ := am_kn7 hts; exact ⟨z, fun q hq => by cases hq; exact hz⟩
    | 8 => obtain ⟨z, hz⟩ := am_kn8 hts; exact ⟨z, fun q hq => by cases hq; exact hz⟩
    | 9 => obtain ⟨z, hz⟩ := am_kn9 hts; exact ⟨z, fun q hq => by cases hq; exact hz⟩
    | 10 => obtain ⟨z, hz⟩ := am_kn10 hts; exact ⟨z, fun q hq => by cases hq; exact hz⟩
    | 11 => obtain ⟨z, hz⟩ := am_kn11 hts; exact ⟨z, fun q hq => by cases hq; exact hz⟩
    | 12 => obtain ⟨z, hz⟩ := am_kn12 hts; exact ⟨z, fun q hq => by cases hq; exact hz⟩
    | c + 13 => exact ⟨(0, fun _ => 0), fun q hq => by simp [vwCl] at hq⟩
  obtain ⟨f, hf⟩ := Classical.axiomOfChoice h
  exact ⟨(fun c => (f c).1, fun c => (f c).2), fun c q hq => hf c q hq⟩
theorem am_prim {ty : FieldType} (hn : ∀ C, ty ≠ .object C) (h : (Cond.arrayClass ty).before args s = true) : ∃ cA : ClassId, ArrOfT s cA ty ∧ va_RA s cA ty := by
  obtain ⟨c, k, comp, h1, h2, h3⟩ := Cond.arrayClass_spec h
  refine ⟨c, fun n z => ⟨(fun k h => by cases h), k, h2, comp, h3⟩, ?_⟩
  cases ty with
  | object C => exact absurd rfl (hn C)
  | _ => exact h1
theorem am_objarr {C : String} (h : (Cond.arrayOver (.object C)).before args s = true) : ∃ cA : ClassId, ArrOfT s cA (.object C) ∧ va_RA s cA (.object C) := by
  obtain ⟨comp, c, k, h1, -, h2, h3, h4⟩ := Cond.arrayOver_spec h
  exact ⟨c, fun n z => ⟨(fun k h => by cases h), k, h2, comp, h3⟩, k, comp, h2, h3, h1, h4⟩
theorem am_arrs (hts : ∀ w ∈ lw_tbl, w.before args s = true) : ∃ cy : Nat → ClassId, ∀ (k : Nat) (q : ClassId × FieldType), ([(cy 0, .char), (cy 1, .float), (cy 2, .int), (cy 3, .long), (cy 4, .object "BurstPeeler$Script"), (cy 5, .object "BurstPeeler$State")] : List (ClassId × FieldType))[k]? = some q → ArrOfT s q.1 q.2 ∧ va_RA s q.1 q.2 := by
  obtain ⟨c0, h0⟩ := am_prim (ty := .char) (fun _ h => by cases h) (hts (Cond.arrayClass .char) (List.mem_append_right _ (List.mem_of_getElem? (i := 64) (by decide +kernel))))
  obtain ⟨c1, h1⟩ := am_prim (ty := .float) (fun _ h => by cases h) (hts (Cond.arrayClass .float) (List.mem_append_right _ (List.mem_of_getElem? (i := 289) (by decide +kernel))))
  obtain ⟨c2, h2⟩ := am_prim (ty := .int) (fun _ h => by cases h) (hts (Cond.arrayClass .int) (List.mem_append_right _ (List.mem_of_getElem? (i := 146) (by decide +kernel))))
  obtain ⟨c3, h3⟩ := am_prim (ty := .long) (fun _ h => by cases h) (hts (Cond.arrayClass .long) (List.mem_append_right _ (List.mem_of_getElem? (i := 202) (by decide +kernel))))
  obtain ⟨c4, h4⟩ := am_objarr (C := "BurstPeeler$Script") (hts (Cond.arrayOver (.object "BurstPeeler$Script")) (List.mem_append_right _ (List.mem_of_getElem? (i := 166) (by decide +kernel))))
  obtain ⟨c5, h5⟩ := am_objarr (C := "BurstPeeler$State") (hts (Cond.arrayOver (.object "BurstPeeler$State")) (List.mem_append_right _ (List.mem_of_getElem? (i := 230) (by decide +kernel))))
  refine ⟨fun t => match t with | 0 => c0 | 1 => c1 | 2 => c2 | 3 => c3 | 4 => c4 | _ => c5, fun k q hq => ?_⟩
  match k, hq with
  | 0, hq => cases hq; exact h0
  | 1, hq => cases hq; exact h1
  | 2, hq => cases hq; exact h2
  | 3, hq => cases hq; exact h3
  | 4, hq => cases hq; exact h4
  | 5, hq => cases hq; exact h5
  | k + 6, hq => simp at hq
theorem am_sa0 (hts : ∀ w ∈ lw_tbl, w.before args s = true) (hs : ∀ c ∈ flatC (Jvm.Cond.and given_1 narrow_1), c.before args s = true) : ∃ t : Nat, va_Z "BurstPeeler$Field" "RULE_USUAL" "[I" (.ref t) (am_A0 s) s s.heap ∧ va_T .int t 4 (fun i => .int (am_sv 0 i)) (am_A0 s) s s.heap := by
  have hel : ∀ j : Nat, j < 4 → (Term.elem (.static "BurstPeeler$Field" "RULE_USUAL" "[I") (.int (Int32.ofNat j))).eval args s none [] s = some (.int (am_sv 0 j)) := by
    intro j hj
    rcases (show j = 0 ∨ j = 1 ∨ j = 2 ∨ j = 3 by omega) with rfl | rfl | rfl | rfl
    · exact va_eqt (z := 8) (hs (Cond.eq (.elem (.static "BurstPeeler$Field" "RULE_USUAL" "[I") (.int 0)) (.int 8)) (by decide +kernel))
    · exact va_eqt (z := 1) (hs (Cond.eq (.elem (.static "BurstPeeler$Field" "RULE_USUAL" "[I") (.int 1)) (.int 1)) (by decide +kernel))
    · exact va_eqt (z := 0) (hs (Cond.eq (.elem (.static "BurstPeeler$Field" "RULE_USUAL" "[I") (.int 2)) (.int 0)) (by decide +kernel))
    · exact va_eqt (z := 0) (hs (Cond.eq (.elem (.static "BurstPeeler$Field" "RULE_USUAL" "[I") (.int 3)) (.int 0)) (by decide +kernel))
  obtain ⟨t, h1, h2⟩ := va_Tof (tm := (.static "BurstPeeler$Field" "RULE_USUAL" "[I")) (ty := .int) (N := 4) (f := fun i => .int (am_sv 0 i)) (A := am_A0 s) (by decide) (hs (Cond.arrayOf (.static "BurstPeeler$Field" "RULE_USUAL" "[I") .int) (by decide +kernel)) (va_eqt (hs (Cond.eq (.length (.static "BurstPeeler$Field" "RULE_USUAL" "[I")) (.int 4)) (by decide +kernel))) hel am_A0_out
  exact ⟨t, va_Zof (hts (Cond.laysStatic "BurstPeeler$Field" "RULE_USUAL" "[I") (List.mem_append_right _ (List.mem_of_getElem? (i := 417) (by decide +kernel)))) (hts (Cond.initialized "BurstPeeler$Field") (List.mem_append_right _ (List.mem_of_getElem? (i := 3) (by decide +kernel)))) h1 am_A0_out, h2⟩
theorem am_sa1 (hts : ∀ w ∈ lw_tbl, w.before args s = true) (hs : ∀ c ∈ flatC (Jvm.Cond.and given_1 narrow_1), c.before args s = true) : ∃ t : Nat, va_Z "BurstPeeler$Field" "RULE_LOW" "[I" (.ref t) (am_A0 s) s s.heap ∧ va_T .int t 4 (fun i => .int (am_sv 1 i)) (am_A0 s) s s.heap := by
  have hel : ∀ j : Nat, j < 4 → (Term.elem (.static "BurstPeeler$Field" "RULE_LOW" "[I") (.int (Int32.ofNat j))).eval args s none [] s = some (.int (am_sv 1 j)) := by
    intro j hj
    rcases (show j = 0 ∨ j = 1 ∨ j = 2 ∨ j = 3 by omega) with rfl | rfl | rfl | rfl
    · exact va_eqt (z := 2) (hs (Cond.eq (.elem (.static "BurstPeeler$Field" "RULE_LOW" "[I") (.int 0)) (.int 2)) (by decide +kernel))
    · exact va_eqt (z := 1) (hs (Cond.eq (.elem (.static "BurstPeeler$Field" "RULE_LOW" "[I") (.int 1)) (.int 1)) (by decide +kernel))
    · exact va_eqt (z := 0) (hs (Cond.eq (.elem (.static "BurstPeeler$Field" "RULE_LOW" "[I") (.int 2)) (.int 0)) (by decide +kernel))
    · exact va_eqt (z := 0) (hs (Cond.eq (.elem (.static "BurstPeeler$Field" "RULE_LOW" "[I") (.int 3)) (.int 0)) (by decide +kernel))
  obtain ⟨t, h1, h2⟩ := va_Tof (tm := (.static "BurstPeeler$Field" "RULE_LOW" "[I")) (ty := .int) (N := 4) (f := fun i => .int (am_sv 1 i)) (A := am_A0 s) (by decide) (hs (Cond.arrayOf (.static "BurstPeeler$Field" "RULE_LOW" "[I") .int) (by decide +kernel)) (va_eqt (hs (Cond.eq (.length (.static "BurstPeeler$Field" "RULE_LOW" "[I")) (.int 4)) (by decide +kernel))) hel am_A0_out
  exact ⟨t, va_Zof (hts (Cond.laysStatic "BurstPeeler$Field" "RULE_LOW" "[I") (List.mem_append_right _ (List.mem_of_getElem? (i := 435) (by decide +kernel)))) (hts (Cond.initialized "BurstPeeler$Field") (List.mem_append_right _ (List.mem_of_getElem? (i := 3) (by decide +kernel)))) h1 am_A0_out, h2⟩
theorem am_sa2 (hts : ∀ w ∈ lw_tbl, w.before args s = true) (hs : ∀ c ∈ flatC (Jvm.Cond.and given_1 narrow_1), c.before args s = true) : ∃ t : Nat, va_Z "BurstPeeler$Field" "RULE_HIGH" "[I" (.ref t) (am_A0 s) s s.heap ∧ va_T .int t 4 (fun i => .int (am_sv 2 i)) (am_A0 s) s s.heap := by
  have hel : ∀ j : Nat, j < 4 → (Term.elem (.static "BurstPeeler$Field" "RULE_HIGH" "[I") (.int (Int32.ofNat j))).eval args s none [] s = some (.int (am_sv 2 j)) := by
    intro j hj
    rcases (show j = 0 ∨ j = 1 ∨ j = 2 ∨ j = 3 by omega) with rfl | rfl | rfl | rfl
    · exact va_eqt (z := 12) (hs (Cond.eq (.elem (.static "BurstPeeler$Field" "RULE_HIGH" "[I") (.int 0)) (.int 12)) (by decide +kernel))
    · exact va_eqt (z := 4) (hs (Cond.eq (.elem (.static "BurstPeeler$Field" "RULE_HIGH" "[I") (.int 1)) (.int 4)) (by decide +kernel))
    · exact va_eqt (z := 99) (hs (Cond.eq (.elem (.static "BurstPeeler$Field" "RULE_HIGH" "[I") (.int 2)) (.int 99)) (by decide +kernel))
    · exact va_eqt (z := 99) (hs (Cond.eq (.elem (.static "BurstPeeler$Field" "RULE_HIGH" "[I") (.int 3)) (.int 99)) (by decide +kernel))
  obtain ⟨t, h1, h2⟩ := va_Tof (tm := (.static "BurstPeeler$Field" "RULE_HIGH" "[I")) (ty := .int) (N := 4) (f := fun i => .int (am_sv 2 i)) (A := am_A0 s) (by decide) (hs (Cond.arrayOf (.static "BurstPeeler$Field" "RULE_HIGH" "[I") .int) (by decide +kernel)) (va_eqt (hs (Cond.eq (.length (.static "BurstPeeler$Field" "RULE_HIGH" "[I")) (.int 4)) (by decide +kernel))) hel am_A0_out
  exact ⟨t, va_Zof (hts (Cond.laysStatic "BurstPeeler$Field" "RULE_HIGH" "[I") (List.mem_append_right _ (List.mem_of_getElem? (i := 437) (by decide +kernel)))) (hts (Cond.initialized "BurstPeeler$Field") (List.mem_append_right _ (List.mem_of_getElem? (i := 3) (by decide +kernel)))) h1 am_A0_out, h2⟩
theorem am_sa3 (hts : ∀ w ∈ lw_tbl, w.before args s = true) (hs : ∀ c ∈ flatC (Jvm.Cond.and given_1 narrow_1), c.before args s = true) : ∃ t : Nat, va_Z "BurstPeeler$Field" "USER_LOW" "[I" (.ref t) (am_A0 s) s s.heap ∧ va_T .int t 5 (fun i => .int (am_sv 3 i)) (am_A0 s) s s.heap := by
  have hel : ∀ j : Nat, j < 5 → (Term.elem (.static "BurstPeeler$Field" "USER_LOW" "[I") (.int (Int32.ofNat j))).eval args s none [] s = some (.int (am_sv 3 j)) := by
    intro j hj
    rcases (show j = 0 ∨ j = 1 ∨ j = 2 ∨ j = 3 ∨ j = 4 by omega) with rfl | rfl | rfl | rfl | rfl
    · exact va_eqt (z := 1) (hs (Cond.eq (.elem (.static "BurstPeeler$Field" "USER_LOW" "[I") (.int 0)) (.int 1)) (by decide +kernel))
    · exact va_eqt (z := 1) (hs (Cond.eq (.elem (.static "BurstPeeler$Field" "USER_LOW" "[I") (.int 1)) (.int 1)) (by decide +kernel))
    · exact va_eqt (z := 0) (hs (Cond.eq (.elem (.static "BurstPeeler$Field" "USER_LOW" "[I") (.int 2)) (.int 0)) (by decide +kernel))
    · exact va_eqt (z := 0) (hs (Cond.eq (.elem (.static "BurstPeeler$Field" "USER_LOW" "[I") (.int 3)) (.int 0)) (by decide +kernel))
    · exact va_eqt (z := 0) (hs (Cond.eq (.elem (.static "BurstPeeler$Field" "USER_LOW" "[I") (.int 4)) (.int 0)) (by decide +kernel))
  obtain ⟨t, h1, h2⟩ := va_Tof (tm := (.static "BurstPeeler$Field" "USER_LOW" "[I")) (ty := .int) (N := 5) (f := fun i => .int (am_sv 3 i)) (A := am_A0 s) (by decide) (hs (Cond.arrayOf (.static "BurstPeeler$Field" "USER_LOW" "[I") .int) (by decide +kernel)) (va_eqt (hs (Cond.eq (.length (.static "BurstPeeler$Field" "USER_LOW" "[I")) (.int 5)) (by decide +kernel))) hel am_A0_out
  exact ⟨t, va_Zof (hts (Cond.laysStatic "BurstPeeler$Field" "USER_LOW" "[I") (List.mem_append_right _ (List.mem_of_getElem? (i := 543) (by decide +kernel)))) (hts (Cond.initialized "BurstPeeler$Field") (List.mem_append_right _ (List.mem_of_getElem? (i := 3) (by decide +kernel)))) h1 am_A0_out, h2⟩
theorem am_sa4 (hts : ∀ w ∈ lw_tbl, w.before args s = true) (hs : ∀ c ∈ flatC (Jvm.Cond.and given_1 narrow_1), c.before args s = true) : ∃ t : Nat, va_Z "BurstPeeler$Field" "USER_HIGH" "[I" (.ref t) (am_A0 s) s s.heap ∧ va_T .int t 5 (fun i => .int (am_sv 4 i)) (am_A0 s) s s.heap := by
  have hel : ∀ j : Nat, j < 5 → (Term.elem (.static "BurstPeeler$Field" "USER_HIGH" "[I") (.int (Int32.ofNat j))).eval args s none [] s = some (.int (am_sv 4 j)) := by
    intro j hj
    rcases (show j = 0 ∨ j = 1 ∨ j = 2 ∨ j = 3 ∨ j = 4 by omega) with rfl | rfl | rfl | rfl | rfl
    · exact va_eqt (z := 99) (hs (Cond.eq (.elem (.static "BurstPeeler$Field" "USER_HIGH" "[I") (.int 0)) (.int 99)) (by decide +kernel))
    · exact va_eqt (z := 9) (hs (Cond.eq (.elem (.static "BurstPeeler$Field" "USER_HIGH" "[I") (.int 1)) (.int 9)) (by decide +kernel))
    · exact va_eqt (z := 3) (hs (Cond.eq (.elem (.static "BurstPeeler$Field" "USER_HIGH" "[I") (.int 2)) (.int 3)) (by decide +kernel))
    · exact va_eqt (z := 4095) (hs (Cond.eq (.elem (.static "BurstPeeler$Field" "USER_HIGH" "[I") (.int 3)) (.int 4095)) (by decide +kernel))
    · exact va_eqt (z := 4095) (hs (Cond.eq (.elem (.static "BurstPeeler$Field" "USER_HIGH" "[I") (.int 4)) (.int 4095)) (by decide +kernel))
  obtain ⟨t, h1, h2⟩ := va_Tof (tm := (.static "BurstPeeler$Field" "USER_HIGH" "[I")) (ty := .int) (N := 5) (f := fun i => .int (am_sv 4 i)) (A := am_A0 s) (by decide) (hs (Cond.arrayOf (.static "BurstPeeler$Field" "USER_HIGH" "[I") .int) (by decide +kernel)) (va_eqt (hs (Cond.eq (.length (.static "BurstPeeler$Field" "USER_HIGH" "[I")) (.int 5)) (by decide +kernel))) hel am_A0_out
  exact ⟨t, va_Zof (hts (Cond.laysStatic "BurstPeeler$Field" "USER_HIGH" "[I") (List.mem_append_right _ (List.mem_of_getElem? (i := 545) (by decide +kernel)))) (hts (Cond.initialized "BurstPeeler$Field") (List.mem_append_right _ (List.mem_of_getElem? (i := 3) (by decide +kernel)))) h1 am_A0_out, h2⟩
theorem am_sa5 (hts : ∀ w ∈ lw_tbl, w.before args s = true) (hs : ∀ c ∈ flatC (Jvm.Cond.and given_1 narrow_1), c.before args s = true) : ∃ t : Nat, va_Z "BurstPeeler$Field" "USER_USUAL" "[I" (.ref t) (am_A0 s) s s.heap ∧ va_T .int t 5 (fun i => .int (am_sv 5 i)) (am_A0 s) s s.heap := by
  have hel : ∀ j : Nat, j < 5 → (Term.elem (.static "BurstPeeler$Field" "USER_USUAL" "[I") (.int (Int32.ofNat j))).eval args s none [] s = some (.int (am_sv 5 j)) := by
    intro j hj
    rcases (show j = 0 ∨ j = 1 ∨ j = 2 ∨ j = 3 ∨ j = 4 by omega) with rfl | rfl | rfl | rfl | rfl
    · exact va_eqt (z := 10) (hs (Cond.eq (.elem (.static "BurstPeeler$Field" "USER_USUAL" "[I") (.int 0)) (.int 10)) (by decide +kernel))
    · exact va_eqt (z := 1) (hs (Cond.eq (.elem (.static "BurstPeeler$Field" "USER_USUAL" "[I") (.int 1)) (.int 1)) (by decide +kernel))
    · exact va_eqt (z := 0) (hs (Cond.eq (.elem (.static "BurstPeeler$Field" "USER_USUAL" "[I") (.int 2)) (.int 0)) (by decide +kernel))
    · exact va_eqt (z := 0) (hs (Cond.eq (.elem (.static "BurstPeeler$Field" "USER_USUAL" "[I") (.int 3)) (.int 0)) (by decide +kernel))
    · exact va_eqt (z := 0) (hs (Cond.eq (.elem (.static "BurstPeeler$Field" "USER_USUAL" "[I") (.int 4)) (.int 0)) (by decide +kernel))
  obtain ⟨t, h1, h2⟩ := va_Tof (tm := (.static "BurstPeeler$Field" "USER_USUAL" "[I")) (ty := .int) (N := 5) (f := fun i => .int (am_sv 5 i)) (A := am_A0 s) (by decide) (hs (Cond.arrayOf (.static "BurstPeeler$Field" "USER_USUAL" "[I") .int) (by decide +kernel)) (va_eqt (hs (Cond.eq (.length (.static "BurstPeeler$Field" "USER_USUAL" "[I")) (.int 5)) (by decide +kernel))) hel am_A0_out
  exact ⟨t, va_Zof (hts (Cond.laysStatic "BurstPeeler$Field" "USER_USUAL" "[I") (List.mem_append_right _ (List.mem_of_getElem? (i := 547) (by decide +kernel)))) (hts (Cond.initialized "BurstPeeler$Field") (List.mem_append_right _ (List.mem_of_getElem? (i := 3) (by decide +kernel)))) h1 am_A0_out, h2⟩
theorem am_sa6 (hts : ∀ w ∈ lw_tbl, w.before args s = true) (hs : ∀ c ∈ flatC (Jvm.Cond.and given_1 narrow_1), c.before args s = true) : ∃ t : Nat, va_Z "BurstPeeler$Field" "DEGREE_LOW" "[I" (.ref t) (am_A0 s) s s.heap ∧ va_T .int t 2 (fun i => .int (am_sv 6 i)) (am_A0 s) s s.heap := by
  have hel : ∀ j : Nat, j < 2 → (Term.elem (.static "BurstPeeler$Field" "DEGREE_LOW" "[I") (.int (Int32.ofNat j))).eval args s none [] s = some (.int (am_sv 6 j)) := by
    intro j hj
    rcases (show j = 0 ∨ j = 1 by omega) with rfl | rfl
    · exact va_eqt (z := 1) (hs (Cond.eq (.elem (.static "BurstPeeler$Field" "DEGREE_LOW" "[I") (.int 0)) (.int 1)) (by decide +kernel))
    · exact va_eqt (z := 1) (hs (Cond.eq (.elem (.static "BurstPeeler$Field" "DEGREE_LOW" "[I") (.int 1)) (.int 1)) (by decide +kernel))
  obtain ⟨t, h1, h2⟩ := va_Tof (tm := (.static "BurstPeeler$Field" "DEGREE_LOW" "[I")) (ty := .int) (N := 2) (f := fun i => .int (am_sv 6 i)) (A := am_A0 s) (by decide) (hs (Cond.arrayOf (.static "BurstPeeler$Field" "DEGREE_LOW" "[I") .int) (by decide +kernel)) (va_eqt (hs (Cond.eq (.length (.static "BurstPeeler$Field" "DEGREE_LOW" "[I")) (.int 2)) (by decide +kernel))) hel am_A0_out
  exact ⟨t, va_Zof (hts (Cond.laysStatic "BurstPeeler$Field" "DEGREE_LOW" "[I") (List.mem_append_right _ (List.mem_of_getElem? (i := 554) (by decide +kernel)))) (hts (Cond.initialized "BurstPeeler$Field") (List.mem_append_right _ (List.mem_of_getElem? (i := 3) (by decide +kernel)))) h1 am_A0_out, h2⟩
theorem am_sa7 (hts : ∀ w ∈ lw_tbl, w.before args s = true) (hs : ∀ c ∈ flatC (Jvm.Cond.and given_1 narrow_1), c.before args s = true) : ∃ t : Nat, va_Z "BurstPeeler$Field" "DEGREE_HIGH" "[I" (.ref t) (am_A0 s) s s.heap ∧ va_T .int t 2 (fun i => .int (am_sv 7 i)) (am_A0 s) s s.heap := by
  have hel : ∀ j : Nat, j < 2 → (Term.elem (.static "BurstPeeler$Field" "DEGREE_HIGH" "[I") (.int (Int32.ofNat j))).eval args s none [] s = some (.int (am_sv 7 j)) := by
    intro j hj
    rcases (show j = 0 ∨ j = 1 by omega) with rfl | rfl
    · exact va_eqt (z := 6) (hs (Cond.eq (.elem (.static "BurstPeeler$Field" "DEGREE_HIGH" "[I") (.int 0)) (.int 6)) (by decide +kernel))
    · exact va_eqt (z := 99) (hs (Cond.eq (.elem (.static "BurstPeeler$Field" "DEGREE_HIGH" "[I") (.int 1)) (.int 99)) (by decide +kernel))
  obtain ⟨t, h1, h2⟩ := va_Tof (tm := (.static "BurstPeeler$Field" "DEGREE_HIGH" "[I")) (ty := .int) (N := 2) (f := fun i => .int (am_sv 7 i)) (A := am_A0 s) (by decide) (hs (Cond.arrayOf (.static "BurstPeeler$Field" "DEGREE_HIGH" "[I") .int) (by decide +kernel)) (va_eqt (hs (Cond.eq (.length (.static "BurstPeeler$Field" "DEGREE_HIGH" "[I")) (.int 2)) (by decide +kernel))) hel am_A0_out
  exact ⟨t, va_Zof (hts (Cond.laysStatic "BurstPeeler$Field" "DEGREE_HIGH" "[I") (List.mem_append_right _ (List.mem_of_getElem? (i := 556) (by decide +kernel)))) (hts (Cond.initialized "BurstPeeler$Field") (List.mem_append_right _ (List.mem_of_getElem? (i := 3) (by decide +kernel)))) h1 am_A0_out, h2⟩
theorem am_sa8 (hts : ∀ w ∈ lw_tbl, w.before args s = true) (hs : ∀ c ∈ flatC (Jvm.Cond.and given_1 narrow_1), c.before args s = true) : ∃ t : Nat, va_Z "BurstPeeler$Field" "DEGREE_USUAL" "[I" (.ref t) (am_A0 s) s s.heap ∧ va_T .int t 2 (fun i => .int (am_sv 8 i)) (am_A0 s) s s.heap := by
  have hel : ∀ j : Nat, j < 2 → (Term.elem (.static "BurstPeeler$Field" "DEGREE_USUAL" "[I") (.int (Int32.ofNat j))).eval args s none [] s = some (.int (am_sv 8 j)) := by
    intro j hj
    rcases (show j = 0 ∨ j = 1 by omega) with rfl | rfl
    · exact va_eqt (z := 1) (hs (Cond.eq (.elem (.static "BurstPeeler$Field" "DEGREE_USUAL" "[I") (.int 0)) (.int 1)) (by decide +kernel))
    · exact va_eqt (z := 1) (hs (Cond.eq (.elem (.static "BurstPeeler$Field" "DEGREE_USUAL" "[I") (.int 1)) (.int 1)) (by decide +kernel))
  obtain ⟨t, h1, h2⟩ := va_Tof (tm := (.static "BurstPeeler$Field" "DEGREE_USUAL" "[I")) (ty := .int) (N := 2) (f := fun i => .int (am_sv 8 i)) (A := am_A0 s) (by decide) (hs (Cond.arrayOf (.static "BurstPeeler$Field" "DEGREE_USUAL" "[I") .int) (by decide +kernel)) (va_eqt (hs (Cond.eq (.length (.static "BurstPeeler$Field" "DEGREE_USUAL" "[I")) (.int 2)) (by decide +kernel))) hel am_A0_out
  exact ⟨t, va_Zof (hts (Cond.laysStatic "BurstPeeler$Field" "DEGREE_USUAL" "[I") (List.mem_append_right _ (List.mem_of_getElem? (i := 558) (by decide +kernel)))) (hts (Cond.initialized "BurstPeeler$Field") (List.mem_append_right _ (List.mem_of_getElem? (i := 3) (by decide +kernel)))) h1 am_A0_out, h2⟩
theorem am_sa9 (hts : ∀ w ∈ lw_tbl, w.before args s = true) (hs : ∀ c ∈ flatC (Jvm.Cond.and given_1 narrow_1), c.before args s = true) : ∃ t : Nat, va_Z "BurstPeeler$Script" "SORTS" "[I" (.ref t) (am_A0 s) s s.heap ∧ va_T .int t 6 (fun i => .int (am_sv 9 i)) (am_A0 s) s s.heap := by
  have hel : ∀ j : Nat, j < 6 → (Term.elem (.static "BurstPeeler$Script" "SORTS" "[I") (.int (Int32.ofNat j))).eval args s none [] s = some (.int (am_sv 9 j)) := by
    intro j hj
    rcases (show j = 0 ∨ j = 1 ∨ j = 2 ∨ j = 3 ∨ j = 4 ∨ j = 5 by omega) with rfl | rfl | rfl | rfl | rfl | rfl
    · exact va_eqt (z := 0) (hs (Cond.eq (.elem (.static "BurstPeeler$Script" "SORTS" "[I") (.int 0)) (.int 0)) (by decide +kernel))
    · exact va_eqt (z := 1) (hs (Cond.eq (.elem (.static "BurstPeeler$Script" "SORTS" "[I") (.int 1)) (.int 1)) (by decide +kernel))
    · exact va_eqt (z := 2) (hs (Cond.eq (.elem (.static "BurstPeeler$Script" "SORTS" "[I") (.int 2)) (.int 2)) (by decide +kernel))
    · exact va_eqt (z := 3) (hs (Cond.eq (.elem (.static "BurstPeeler$Script" "SORTS" "[I") (.int 3)) (.int 3)) (by decide +kernel))
    · exact va_eqt (z := 6) (hs (Cond.eq (.elem (.static "BurstPeeler$Script" "SORTS" "[I") (.int 4)) (.int 6)) (by decide +kernel))
    · exact va_eqt (z := 5) (hs (Cond.eq (.elem (.static "BurstPeeler$Script" "SORTS" "[I") (.int 5)) (.int 5)) (by decide +kernel))
  obtain ⟨t, h1, h2⟩ := va_Tof (tm := (.static "BurstPeeler$Script" "SORTS" "[I")) (ty := .int) (N := 6) (f := fun i => .int (am_sv 9 i)) (A := am_A0 s) (by decide) (hs (Cond.arrayOf (.static "BurstPeeler$Script" "SORTS" "[I") .int) (by decide +kernel)) (va_eqt (hs (Cond.eq (.length (.static "BurstPeeler$Script" "SORTS" "[I")) (.int 6)) (by decide +kernel))) hel am_A0_out
  exact ⟨t, va_Zof (hts (Cond.laysStatic "BurstPeeler$Script" "SORTS" "[I") (List.mem_append_right _ (List.mem_of_getElem? (i := 1183) (by decide +kernel)))) (hts (Cond.initialized "BurstPeeler$Script") (List.mem_append_right _ (List.mem_of_getElem? (i := 4) (by decide +kernel)))) h1 am_A0_out, h2⟩
end AMSET
