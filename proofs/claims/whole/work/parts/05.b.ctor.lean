theorem am_q37 : Cond.instanceMethod objectInit ∈ am_T := am_in 37 (by decide +kernel) (by decide +kernel)
theorem am_q38 : Cond.code objectInit ⟨#[0xb1]⟩ 1 none ∈ am_T := am_in 38 (by decide +kernel) (by decide +kernel)
theorem am_q44 : Cond.methodLink RX10 3 objectInit ∈ am_T := am_in 44 (by decide +kernel) (by decide +kernel)
theorem am_q64 : Cond.arrayClass .char ∈ am_T := am_in 64 (by decide +kernel) (by decide +kernel)
theorem am_q70 : Cond.methodLink RX1 3 objectInit ∈ am_T := am_in 70 (by decide +kernel) (by decide +kernel)
theorem am_q146 : Cond.arrayClass .int ∈ am_T := am_in 146 (by decide +kernel) (by decide +kernel)
theorem am_q152 : Cond.methodLink RX8 3 objectInit ∈ am_T := am_in 152 (by decide +kernel) (by decide +kernel)
theorem am_q172 : Cond.methodLink RX9 3 objectInit ∈ am_T := am_in 172 (by decide +kernel) (by decide +kernel)
theorem am_q202 : Cond.arrayClass .long ∈ am_T := am_in 202 (by decide +kernel) (by decide +kernel)
theorem am_q208 : Cond.methodLink RX4 5 objectInit ∈ am_T := am_in 208 (by decide +kernel) (by decide +kernel)
theorem am_q248 : Cond.methodLink RX0 3 objectInit ∈ am_T := am_in 248 (by decide +kernel) (by decide +kernel)
theorem am_q258 : Cond.methodLink RX7 3 objectInit ∈ am_T := am_in 258 (by decide +kernel) (by decide +kernel)
theorem am_q289 : Cond.arrayClass .float ∈ am_T := am_in 289 (by decide +kernel) (by decide +kernel)
theorem am_q313 : Cond.methodLink RX6 3 objectInit ∈ am_T := am_in 313 (by decide +kernel) (by decide +kernel)
theorem am_q326 : Cond.methodLink RX5 3 objectInit ∈ am_T := am_in 326 (by decide +kernel) (by decide +kernel)
/-! constructors, by program (wip/whole/ctor.py) -/
def am_cells_X10 (G : am_G) (q : Nat) : List va_E := [.inr (10, [.ref (G.1 + (q + 1)), .int 0, .int 0, .int 0]), .inl (G.2.1 0, 240, .inl (fun _ => 0))]
set_option maxRecDepth 100000 in
set_option maxHeartbeats 8000000 in
theorem kI_X10 {G : am_G} {l : Launch} {pre : List va_E} : am_MI G l yX10_init (Cond.code yX10_init cX10_init 1 none :: am_T) { frames := 1, cells := 1, slots := 240, locals := 64 } [.ref (G.1 + (pre.length + 0))] (pre ++ [.inr (10, [.null, .int 0, .int 0, .int 0])]) (pre ++ am_cells_X10 G pre.length) 1 240 := by
  refine Met.ofW (cc := cX10_init) (maxL := 1) (ret := none) (by decide) rfl ?_
  intro p e s m args below meth c s₁ B hml hv
  obtain ⟨rfl, hx, hb, hr, hts, hown, hlocks, hin, hK, hX, hN⟩ := am_beginN B hv
  have hown : s.vm.findClass RX10 = some m.cls := hown
  have hin : meth.name = "<init>" := hin
  show W p l e { frames := 1, cells := 1, slots := 240, locals := 64 } s m _ below meth c s.heap [] 0 0 _ _
  refine am_enter (lv := [(0, .ref (G.1 + (pre.length + 0)))]) (Nat.le_of_ble_eq_true rfl) rfl (fun ls hl => ?_)
  refine lv_aload_n hx hb dX10_init_0 rfl (lv_at hl 0 rfl) ?_
  refine W.objInit hx hb hown (hts _ am_q44) (hts _ am_q37) (hts _ am_q38) rfl (by rw [hml]; exact hl.1) rfl dX10_init_1 (Nat.le_of_ble_eq_true rfl) (Nat.le_of_ble_eq_true rfl) ?_
  show W _ _ _ _ _ _ _ _ _ _ _ _ _ _ _ (F0 m 4 ls [])
  refine lv_aload_n hx hb dX10_init_4 rfl (lv_at hl 0 rfl) ?_
  refine lv_sipush (v := 240) hx hb dX10_init_5 (by decide) ?_
  refine am_nnewa (L := [.inr (10, [.null, .int 0, .int 0, .int 0])]) (L' := [.inr (10, [.null, .int 0, .int 0, .int 0]), .inl (G.2.1 0, 240, .inl (fun _ => 0))]) (q := 1) (N' := 240) (t := 0) (atype := .char) hx hb hts hK hN am_q64 rfl (fun _ => rfl) (by decide) (by decide) (by decide) (Nat.le_of_ble_eq_true rfl) (Nat.le_of_ble_eq_true rfl) rfl rfl dX10_init_8 (fun H hN => ?_)
  refine am_nput (L := [.inr (10, [.null, .int 0, .int 0, .int 0]), .inl (G.2.1 0, 240, .inl (fun _ => 0))]) (L' := [.inr (10, [.ref (G.1 + (pre.length + 1)), .int 0, .int 0, .int 0]), .inl (G.2.1 0, 240, .inl (fun _ => 0))]) hx hb hts hK hown hN 0 rfl rfl am_inX10 tyX10 tyX10_ok nmX10 0 (by decide) am_q45 rfl hin rfl rfl rfl (Nat.le_of_ble_eq_true rfl) rfl dX10_init_10 (fun H locs hN => ?_)
  exact am_retN hx hb hr hlocks hN rfl dX10_init_13
def am_cells_X1 (G : am_G) (q : Nat) : List va_E := [.inr (1, [.ref (G.1 + (q + 1)), .ref (G.1 + (q + 2)), .ref (G.1 + (q + 3)), .ref (G.1 + (q + 4)), .ref (G.1 + (q + 5)), .ref (G.1 + (q + 6)), .ref (G.1 + (q + 7)), .int 0, .int 0, .int 0, .int 0, .int 0, .int 0, .int 0, .int 0]), .inl (G.2.1 2, 5, .inl (fun _ => 0)), .inl (G.2.1 2, 10, .inl (fun _ => 0)), .inl (G.2.1 2, 10, .inl (fun _ => 0)), .inl (G.2.1 2, 10, .inl (fun _ => 0)), .inl (G.2.1 2, 10, .inl (fun _ => 0)), .inl (G.2.1 2, 10, .inl (fun _ => 0)), .inl (G.2.1 2, 7, .inl (fun _ => 0))]
set_option maxRecDepth 100000 in
set_option maxHeartbeats 8000000 in
theorem kI_X1 {G : am_G} {l : Launch} {pre : List va_E} : am_MI G l yX1_init (Cond.code yX1_init cX1_init 1 none :: am_T) { frames := 1, cells := 7, slots := 62, locals := 64 } [.ref (G.1 + (pre.length + 0))] (pre ++ [.inr (1, [.null, .null, .null, .null, .null, .null, .null, .int 0, .int 0, .int 0, .int 0, .int 0, .int 0, .int 0, .int 0])]) (pre ++ am_cells_X1 G pre.length) 7 62 := by
  refine Met.ofW (cc := cX1_init) (maxL := 1) (ret := none) (by decide) rfl ?_
  intro p e s m args below meth c s₁ B hml hv
  obtain ⟨rfl, hx, hb, hr, hts, hown, hlocks, hin, hK, hX, hN⟩ := am_beginN B hv
  have hown : s.vm.findClass RX1 = some m.cls := hown
  have hin : meth.name = "<init>" := hin
  show W p l e { frames := 1, cells := 7, slots := 62, locals := 64 } s m _ below meth c s.heap [] 0 0 _ _
  refine am_enter (lv := [(0, .ref (G.1 + (pre.length + 0)))]) (Nat.le_of_ble_eq_true rfl) rfl (fun ls hl => ?_)
  refine lv_aload_n hx hb dX1_init_0 rfl (lv_at hl 0 rfl) ?_
  refine W.objInit hx hb hown (hts _ am_q70) (hts _ am_q37) (hts _ am_q38) rfl (by rw [hml]; exact hl.1) rfl dX1_init_1 (Nat.le_of_ble_eq_true rfl) (Nat.le_of_ble_eq_true rfl) ?_
  show W _ _ _ _ _ _ _ _ _ _ _ _ _ _ _ (F0 m 4 ls [])
  refine lv_aload_n hx hb dX1_init_4 rfl (lv_at hl 0 rfl) ?_
  refine lv_iconst (v := 5) hx hb dX1_init_5 (by decide) ?_
  refine am_nnewa (L := [.inr (1, [.null, .null, .null, .null, .null, .null, .null, .int 0, .int 0, .int 0, .int 0, .int 0, .int 0, .int 0, .int 0])]) (L' := [.inr (1, [.null, .null, .null, .null, .null, .null, .null, .int 0, .int 0, .int 0, .int 0, .int 0, .int 0, .int 0, .int 0]), .inl (G.2.1 2, 5, .inl (fun _ => 0))]) (q := 1) (N' := 5) (t := 2) (atype := .int) hx hb hts hK hN am_q146 rfl (fun _ => rfl) (by decide) (by decide) (by decide) (Nat.le_of_ble_eq_true rfl) (Nat.le_of_ble_eq_true rfl) rfl rfl dX1_init_6 (fun H hN => ?_)
  refine am_nput (L := [.inr (1, [.null, .null, .null, .null, .null, .null, .null, .int 0, .int 0, .int 0, .int 0, .int 0, .int 0, .int 0, .int 0]), .inl (G.2.1 2, 5, .inl (fun _ => 0))]) (L' := [.inr (1, [.ref (G.1 + (pre.length + 1)), .null, .null, .null, .null, .null, .null, .int 0, .int 0, .int 0, .int 0, .int 0, .int 0, .int 0, .int 0]), .inl (G.2.1 2, 5, .inl (fun _ => 0))]) hx hb hts hK hown hN 0 rfl rfl am_inX1 tyX1 tyX1_ok nmX1 0 (by decide) am_q71 rfl hin rfl rfl rfl (Nat.le_of_ble_eq_true rfl) rfl dX1_init_8 (fun H locs hN => ?_)
  refine lv_aload_n hx hb dX1_init_11 rfl (lv_at hl 0 rfl) ?_
  refine lv_bipush (v := 10) hx hb dX1_init_12 (by decide) ?_
  refine am_nnewa (L := [.inr (1, [.ref (G.1 + (pre.length + 1)), .null, .null, .null, .null, .null, .null, .int 0, .int 0, .int 0, .int 0, .int 0, .int 0, .int 0, .int 0]), .inl (G.2.1 2, 5, .inl (fun _ => 0))]) (L' := [.inr (1, [.ref (G.1 + (pre.length + 1)), .null, .null, .null, .null, .null, .null, .int 0, .int 0, .int 0, .int 0, .int 0, .int 0, .int 0, .int 0]), .inl (G.2.1 2, 5, .inl (fun _ => 0)), .inl (G.2.1 2, 10, .inl (fun _ => 0))]) (q := 2) (N' := 10) (t := 2) (atype := .int) hx hb hts hK hN am_q146 rfl (fun _ => rfl) (by decide) (by decide) (by decide) (Nat.le_of_ble_eq_true rfl) (Nat.le_of_ble_eq_true rfl) rfl rfl dX1_init_14 (fun H hN => ?_)
  refine am_nput (L := [.inr (1, [.ref (G.1 + (pre.length + 1)), .null, .null, .null, .null, .null, .null, .int 0, .int 0, .int 0, .int 0, .int 0, .int 0, .int 0, .int 0]), .inl (G.2.1 2, 5, .inl (fun _ => 0)), .inl (G.2.1 2, 10, .inl (fun _ => 0))]) (L' := [.inr (1, [.ref (G.1 + (pre.length + 1)), .ref (G.1 + (pre.length + 2)), .null, .null, .null, .null, .null, .int 0, .int 0, .int 0, .int 0, .int 0, .int 0, .int 0, .int 0]), .inl (G.2.1 2, 5, .inl (fun _ => 0)), .inl (G.2.1 2, 10, .inl (fun _ => 0))]) hx hb hts hK hown hN 0 rfl rfl am_inX1 tyX1 tyX1_ok nmX1 1 (by decide) am_q72 rfl hin rfl rfl rfl (Nat.le_of_ble_eq_true rfl) rfl dX1_init_16 (fun H locs hN => ?_)
  refine lv_aload_n hx hb dX1_init_19 rfl (lv_at hl 0 rfl) ?_
  refine lv_bipush (v := 10) hx hb dX1_init_20 (by decide) ?_
  refine am_nnewa (L := [.inr (1, [.ref (G.1 + (pre.length + 1)), .ref (G.1 + (pre.length + 2)), .null, .null, .null, .null, .null, .int 0, .int 0, .int 0, .int 0, .int 0, .int 0, .int 0, .int 0]), .inl (G.2.1 2, 5, .inl (fun _ => 0)), .inl (G.2.1 2, 10, .inl (fun _ => 0))]) (L' := [.inr (1, [.ref (G.1 + (pre.length + 1)), .ref (G.1 + (pre.length + 2)), .null, .null, .null, .null, .null, .int 0, .int 0, .int 0, .int 0, .int 0, .int 0, .int 0, .int 0]), .inl (G.2.1 2, 5, .inl (fun _ => 0)), .inl (G.2.1 2, 10, .inl (fun _ => 0)), .inl (G.2.1 2, 10, .inl (fun _ => 0))]) (q := 3) (N' := 10) (t := 2) (atype := .int) hx hb hts hK hN am_q146 rfl (fun _ => rfl) (by decide) (by decide) (by decide) (Nat.le_of_ble_eq_true rfl) (Nat.le_of_ble_eq_true rfl) rfl rfl dX1_init_22 (fun H hN => ?_)
  refine am_nput (L := [.inr (1, [.ref (G.1 + (pre.length + 1)), .ref (G.1 + (pre.length + 2)), .null, .null, .null, .null, .null, .int 0, .int 0, .int 0, .int 0, .int 0, .int 0, .int 0, .int 0]), .inl (G.2.1 2, 5, .inl (fun _ => 0)), .inl (G.2.1 2, 10, .inl (fun _ => 0)), .inl (G.2.1 2, 10, .inl (fun _ => 0))]) (L' := [.inr (1, [.ref (G.1 + (pre.length + 1)), .ref (G.1 + (pre.length + 2)), .ref (G.1 + (pre.length + 3)), .null, .null, .null, .null, .int 0, .int 0, .int 0, .int 0, .int 0, .int 0, .int 0, .int 0]), .inl (G.2.1 2, 5, .inl (fun _ => 0)), .inl (G.2.1 2, 10, .inl (fun _ => 0)), .inl (G.2.1 2, 10, .inl (fun _ => 0))]) hx hb hts hK hown hN 0 rfl rfl am_inX1 tyX1 tyX1_ok nmX1 2 (by decide) am_q75 rfl hin rfl rfl rfl (Nat.le_of_ble_eq_true rfl) rfl dX1_init_24 (fun H locs hN => ?_)
  refine lv_aload_n hx hb dX1_init_27 rfl (lv_at hl 0 rfl) ?_
  refine lv_bipush (v := 10) hx hb dX1_init_28 (by decide) ?_
  refine am_nnewa (L := [.inr (1, [.ref (G.1 + (pre.length + 1)), .ref (G.1 + (pre.length + 2)), .ref (G.1 + (pre.length + 3)), .null, .null, .null, .null, .int 0, .int 0, .int 0, .int 0, .int 0, .int 0, .int 0, .int 0]), .inl (G.2.1 2, 5, .inl (fun _ => 0)), .inl (G.2.1 2, 10, .inl (fun _ => 0)), .inl (G.2.1 2, 10, .inl (fun _ => 0))]) (L' := [.inr (1, [.ref (G.1 + (pre.length + 1)), .ref (G.1 + (pre.length + 2)), .ref (G.1 + (pre.length + 3)), .null, .null, .null, .null, .int 0, .int 0, .int 0, .int 0, .int 0, .int 0, .int 0, .int 0]), .inl (G.2.1 2, 5, .inl (fun _ => 0)), .inl (G.2.1 2, 10, .inl (fun _ => 0)), .inl (G.2.1 2, 10, .inl (fun _ => 0)), .inl (G.2.1 2, 10, .inl (fun _ => 0))]) (q := 4) (N' := 10) (t := 2) (atype := .int) hx hb hts hK hN am_q146 rfl (fun _ => rfl) (by decide) (by decide) (by decide) (Nat.le_of_ble_eq_true rfl) (Nat.le_of_ble_eq_true rfl) rfl rfl dX1_init_30 (fun H hN => ?_)
  refine am_nput (L := [.inr (1, [.ref (G.1 + (pre.length + 1)), .ref (G.1 + (pre.length + 2)), .ref (G.1 + (pre.length + 3)), .null, .null, .null, .null, .int 0, .int 0, .int 0, .int 0, .int 0, .int 0, .int 0, .int 0]), .inl (G.2.1 2, 5, .inl (fun _ => 0)), .inl (G.2.1 2, 10, .inl (fun _ => 0)), .inl (G.2.1 2, 10, .inl (fun _ => 0)), .inl (G.2.1 2, 10, .inl (fun _ => 0))]) (L' := [.inr (1, [.ref (G.1 + (pre.length + 1)), .ref (G.1 + (pre.length + 2)), .ref (G.1 + (pre.length + 3)), .ref (G.1 + (pre.length + 4)), .null, .null, .null, .int 0, .int 0, .int 0, .int 0, .int 0, .int 0, .int 0, .int 0]), .inl (G.2.1 2, 5, .inl (fun _ => 0)), .inl (G.2.1 2, 10, .inl (fun _ => 0)), .inl (G.2.1 2, 10, .inl (fun _ => 0)), .inl (G.2.1 2, 10, .inl (fun _ => 0))]) hx hb hts hK hown hN 0 rfl rfl am_inX1 tyX1 tyX1_ok nmX1 3 (by decide) am_q78 rfl hin rfl rfl rfl (Nat.le_of_ble_eq_true rfl) rfl dX1_init_32 (fun H locs hN => ?_)
  refine lv_aload_n hx hb dX1_init_35 rfl (lv_at hl 0 rfl) ?_
  refine lv_bipush (v := 10) hx hb dX1_init_36 (by decide) ?_
  refine am_nnewa (L := [.inr (1, [.ref (G.1 + (pre.length + 1)), .ref (G.1 + (pre.length + 2)), .ref (G.1 + (pre.length + 3)), .ref (G.1 + (pre.length + 4)), .null, .null, .null, .int 0, .int 0, .int 0, .int 0, .int 0, .int 0, .int 0, .int 0]), .inl (G.2.1 2, 5, .inl (fun _ => 0)), .inl (G.2.1 2, 10, .inl (fun _ => 0)), .inl (G.2.1 2, 10, .inl (fun _ => 0)), .inl (G.2.1 2, 10, .inl (fun _ => 0))]) (L' := [.inr (1, [.ref (G.1 + (pre.length + 1)), .ref (G.1 + (pre.length + 2)), .ref (G.1 + (pre.length + 3)), .ref (G.1 + (pre.length + 4)), .null, .null, .null, .int 0, .int 0, .int 0, .int 0, .int 0, .int 0, .int 0, .int 0]), .inl (G.2.1 2, 5, .inl (fun _ => 0)), .inl (G.2.1 2, 10, .inl (fun _ => 0)), .inl (G.2.1 2, 10, .inl (fun _ => 0)), .inl (G.2.1 2, 10, .inl (fun _ => 0)), .inl (G.2.1 2, 10, .inl (fun _ => 0))]) (q := 5) (N' := 10) (t := 2) (atype := .int) hx hb hts hK hN am_q146 rfl (fun _ => rfl) (by decide) (by decide) (by decide) (Nat.le_of_ble_eq_true rfl) (Nat.le_of_ble_eq_true rfl) rfl rfl dX1_init_38 (fun H hN => ?_)
  refine am_nput (L := [.inr (1, [.ref (G.1 + (pre.length + 1)), .ref (G.1 + (pre.length + 2)), .ref (G.1 + (pre.length + 3)), .ref (G.1 + (pre.length + 4)), .null, .null, .null, .int 0, .int 0, .int 0, .int 0, .int 0, .int 0, .int 0, .int 0]), .inl (G.2.1 2, 5, .inl (fun _ => 0)), .inl (G.2.1 2, 10, .inl (fun _ => 0)), .inl (G.2.1 2, 10, .inl (fun _ => 0)), .inl (G.2.1 2, 10, .inl (fun _ => 0)), .inl (G.2.1 2, 10, .inl (fun _ => 0))]) (L' := [.inr (1, [.ref (G.1 + (pre.length + 1)), .ref (G.1 + (pre.length + 2)), .ref (G.1 + (pre.length + 3)), .ref (G.1 + (pre.length + 4)), .ref (G.1 + (pre.length + 5)), .null, .null, .int 0, .int 0, .int 0, .int 0, .int 0, .int 0, .int 0, .int 0]), .inl (G.2.1 2, 5, .inl (fun _ => 0)), .inl (G.2.1 2, 10, .inl (fun _ => 0)), .inl (G.2.1 2, 10, .inl (fun _ => 0)), .inl (G.2.1 2, 10, .inl (fun _ => 0)), .inl (G.2.1 2, 10, .inl (fun _ => 0))]) hx hb hts hK hown hN 0 rfl rfl am_inX1 tyX1 tyX1_ok nmX1 4 (by decide) am_q81 rfl hin rfl rfl rfl (Nat.le_of_ble_eq_true rfl) rfl dX1_init_40 (fun H locs hN => ?_)
  refine lv_aload_n hx hb dX1_init_43 rfl (lv_at hl 0 rfl) ?_
  refine lv_bipush (v := 10) hx hb dX1_init_44 (by decide) ?_
  refine am_nnewa (L := [.inr (1, [.ref (G.1 + (pre.length + 1)), .ref (G.1 + (pre.length + 2)), .ref (G.1 + (pre.length + 3)), .ref (G.1 + (pre.length + 4)), .ref (G.1 + (pre.length + 5)), .null, .null, .int 0, .int 0, .int 0, .int 0, .int 0, .int 0, .int 0, .int 0]), .inl (G.2.1 2, 5, .inl (fun _ => 0)), .inl (G.2.1 2, 10, .inl (fun _ => 0)), .inl (G.2.1 2, 10, .inl (fun _ => 0)), .inl (G.2.1 2, 10, .inl (fun _ => 0)), .inl (G.2.1 2, 10, .inl (fun _ => 0))]) (L' := [.inr (1, [.ref (G.1 + (pre.length + 1)), .ref (G.1 + (pre.length + 2)), .ref (G.1 + (pre.length + 3)), .ref (G.1 + (pre.length + 4)), .ref (G.1 + (pre.length + 5)), .null, .null, .int 0, .int 0, .int 0, .int 0, .int 0, .int 0, .int 0, .int 0]), .inl (G.2.1 2, 5, .inl (fun _ => 0)), .inl (G.2.1 2, 10, .inl (fun _ => 0)), .inl (G.2.1 2, 10, .inl (fun _ => 0)), .inl (G.2.1 2, 10, .inl (fun _ => 0)), .inl (G.2.1 2, 10, .inl (fun _ => 0)), .inl (G.2.1 2, 10, .inl (fun _ => 0))]) (q := 6) (N' := 10) (t := 2) (atype := .int) hx hb hts hK hN am_q146 rfl (fun _ => rfl) (by decide) (by decide) (by decide) (Nat.le_of_ble_eq_true rfl) (Nat.le_of_ble_eq_true rfl) rfl rfl dX1_init_46 (fun H hN => ?_)
  refine am_nput (L := [.inr (1, [.ref (G.1 + (pre.length + 1)), .ref (G.1 + (pre.length + 2)), .ref (G.1 + (pre.length + 3)), .ref (G.1 + (pre.length + 4)), .ref (G.1 + (pre.length + 5)), .null, .null, .int 0, .int 0, .int 0, .int 0, .int 0, .int 0, .int 0, .int 0]), .inl (G.2.1 2, 5, .inl (fun _ => 0)), .inl (G.2.1 2, 10, .inl (fun _ => 0)), .inl (G.2.1 2, 10, .inl (fun _ => 0)), .inl (G.2.1 2, 10, .inl (fun _ => 0)), .inl (G.2.1 2, 10, .inl (fun _ => 0)), .inl (G.2.1 2, 10, .inl (fun _ => 0))]) (L' := [.inr (1, [.ref (G.1 + (pre.length + 1)), .ref (G.1 + (pre.length + 2)), .ref (G.1 + (pre.length + 3)), .ref (G.1 + (pre.length + 4)), .ref (G.1 + (pre.length + 5)), .ref (G.1 + (pre.length + 6)), .null, .int 0, .int 0, .int 0, .int 0, .int 0, .int 0, .int 0, .int 0]), .inl (G.2.1 2, 5, .inl (fun _ => 0)), .inl (G.2.1 2, 10, .inl (fun _ => 0)), .inl (G.2.1 2, 10, .inl (fun _ => 0)), .inl (G.2.1 2, 10, .inl (fun _ => 0)), .inl (G.2.1 2, 10, .inl (fun _ => 0)), .inl (G.2.1 2, 10, .inl (fun _ => 0))]) hx hb hts hK hown hN 0 rfl rfl am_inX1 tyX1 tyX1_ok nmX1 5 (by decide) am_q83 rfl hin rfl rfl rfl (Nat.le_of_ble_eq_true rfl) rfl dX1_init_48 (fun H locs hN => ?_)
  refine lv_aload_n hx hb dX1_init_51 rfl (lv_at hl 0 rfl) ?_
  refine lv_bipush (v := 7) hx hb dX1_init_52 (by decide) ?_
  refine am_nnewa (L := [.inr (1, [.ref (G.1 + (pre.length + 1)), .ref (G.1 + (pre.length + 2)), .ref (G.1 + (pre.length + 3)), .ref (G.1 + (pre.length + 4)), .ref (G.1 + (pre.length + 5)), .ref (G.1 + (pre.length + 6)), .null, .int 0, .int 0, .int 0, .int 0, .int 0, .int 0, .int 0, .int 0]), .inl (G.2.1 2, 5, .inl (fun _ => 0)), .inl (G.2.1 2, 10, .inl (fun _ => 0)), .inl (G.2.1 2, 10, .inl (fun _ => 0)), .inl (G.2.1 2, 10, .inl (fun _ => 0)), .inl (G.2.1 2, 10, .inl (fun _ => 0)), .inl (G.2.1 2, 10, .inl (fun _ => 0))]) (L' := [.inr (1, [.ref (G.1 + (pre.length + 1)), .ref (G.1 + (pre.length + 2)), .ref (G.1 + (pre.length + 3)), .ref (G.1 + (pre.length + 4)), .ref (G.1 + (pre.length + 5)), .ref (G.1 + (pre.length + 6)), .null, .int 0, .int 0, .int 0, .int 0, .int 0, .int 0, .int 0, .int 0]), .inl (G.2.1 2, 5, .inl (fun _ => 0)), .inl (G.2.1 2, 10, .inl (fun _ => 0)), .inl (G.2.1 2, 10, .inl (fun _ => 0)), .inl (G.2.1 2, 10, .inl (fun _ => 0)), .inl (G.2.1 2, 10, .inl (fun _ => 0)), .inl (G.2.1 2, 10, .inl (fun _ => 0)), .inl (G.2.1 2, 7, .inl (fun _ => 0))]) (q := 7) (N' := 7) (t := 2) (atype := .int) hx hb hts hK hN am_q146 rfl (fun _ => rfl) (by decide) (by decide) (by decide) (Nat.le_of_ble_eq_true rfl) (Nat.le_of_ble_eq_true rfl) rfl rfl dX1_init_54 (fun H hN => ?_)
  refine am_nput (L := [.inr (1, [.ref (G.1 + (pre.length + 1)), .ref (G.1 + (pre.length + 2)), .ref (G.1 + (pre.length + 3)), .ref (G.1 + (pre.length + 4)), .ref (G.1 + (pre.length + 5)), .ref (G.1 + (pre.length + 6)), .null, .int 0, .int 0, .int 0, .int 0, .int 0, .int 0, .int 0, .int 0]), .inl (G.2.1 2, 5, .inl (fun _ => 0)), .inl (G.2.1 2, 10, .inl (fun _ => 0)), .inl (G.2.1 2, 10, .inl (fun _ => 0)), .inl (G.2.1 2, 10, .inl (fun _ => 0)), .inl (G.2.1 2, 10, .inl (fun _ => 0)), .inl (G.2.1 2, 10, .inl (fun _ => 0)), .inl (G.2.1 2, 7, .inl (fun _ => 0))]) (L' := [.inr (1, [.ref (G.1 + (pre.length + 1)), .ref (G.1 + (pre.length + 2)), .ref (G.1 + (pre.length + 3)), .ref (G.1 + (pre.length + 4)), .ref (G.1 + (pre.length + 5)), .ref (G.1 + (pre.length + 6)), .ref (G.1 + (pre.length + 7)), .int 0, .int 0, .int 0, .int 0, .int 0, .int 0, .int 0, .int 0]), .inl (G.2.1 2, 5, .inl (fun _ => 0)), .inl (G.2.1 2, 10, .inl (fun _ => 0)), .inl (G.2.1 2, 10, .inl (fun _ => 0)), .inl (G.2.1 2, 10, .inl (fun _ => 0)), .inl (G.2.1 2, 10, .inl (fun _ => 0)), .inl (G.2.1 2, 10, .inl (fun _ => 0)), .inl (G.2.1 2, 7, .inl (fun _ => 0))]) hx hb hts hK hown hN 0 rfl rfl am_inX1 tyX1 tyX1_ok nmX1 6 (by decide) am_q85 rfl hin rfl rfl rfl (Nat.le_of_ble_eq_true rfl) rfl dX1_init_56 (fun H locs hN => ?_)
  exact am_retN hx hb hr hlocks hN rfl dX1_init_59
def am_cells_X8 (G : am_G) (q : Nat) : List va_E := [.inr (8, [.ref (G.1 + (q + 1)), .ref (G.1 + (q + 2)), .int 0]), .inl (G.2.1 2, 16, .inl (fun _ => 0)), .inl (G.2.1 2, 16, .inl (fun _ => 0))]
set_option maxRecDepth 100000 in
set_option maxHeartbeats 8000000 in
theorem kI_X8 {G : am_G} {l : Launch} {pre : List va_E} : am_MI G l yX8_init (Cond.code yX8_init cX8_init 1 none :: am_T) { frames := 1, cells := 2, slots := 32, locals := 64 } [.ref (G.1 + (pre.length + 0))] (pre ++ [.inr (8, [.null, .null, .int 0])]) (pre ++ am_cells_X8 G pre.length) 2 32 := by
  refine Met.ofW (cc := cX8_init) (maxL := 1) (ret := none) (by decide) rfl ?_
  intro p e s m args below meth c s₁ B hml hv
  obtain ⟨rfl, hx, hb, hr, hts, hown, hlocks, hin, hK, hX, hN⟩ := am_beginN B hv
  have hown : s.vm.findClass RX8 = some m.cls := hown
  have hin : meth.name = "<init>" := hin
  show W p l e { frames := 1, cells := 2, slots := 32, locals := 64 } s m _ below meth c s.heap [] 0 0 _ _
  refine am_enter (lv := [(0, .ref (G.1 + (pre.length + 0)))]) (Nat.le_of_ble_eq_true rfl) rfl (fun ls hl => ?_)
  refine lv_aload_n hx hb dX8_init_0 rfl (lv_at hl 0 rfl) ?_
  refine W.objInit hx hb hown (hts _ am_q152) (hts _ am_q37) (hts _ am_q38) rfl (by rw [hml]; exact hl.1) rfl dX8_init_1 (Nat.le_of_ble_eq_true rfl) (Nat.le_of_ble_eq_true rfl) ?_
  show W _ _ _ _ _ _ _ _ _ _ _ _ _ _ _ (F0 m 4 ls [])
  refine lv_aload_n hx hb dX8_init_4 rfl (lv_at hl 0 rfl) ?_
  refine lv_bipush (v := 16) hx hb dX8_init_5 (by decide) ?_
  refine am_nnewa (L := [.inr (8, [.null, .null, .int 0])]) (L' := [.inr (8, [.null, .null, .int 0]), .inl (G.2.1 2, 16, .inl (fun _ => 0))]) (q := 1) (N' := 16) (t := 2) (atype := .int) hx hb hts hK hN am_q146 rfl (fun _ => rfl) (by decide) (by decide) (by decide) (Nat.le_of_ble_eq_true rfl) (Nat.le_of_ble_eq_true rfl) rfl rfl dX8_init_7 (fun H hN => ?_)
  refine am_nput (L := [.inr (8, [.null, .null, .int 0]), .inl (G.2.1 2, 16, .inl (fun _ => 0))]) (L' := [.inr (8, [.ref (G.1 + (pre.length + 1)), .null, .int 0]), .inl (G.2.1 2, 16, .inl (fun _ => 0))]) hx hb hts hK hown hN 0 rfl rfl am_inX8 tyX8 tyX8_ok nmX8 0 (by decide) am_q153 rfl hin rfl rfl rfl (Nat.le_of_ble_eq_true rfl) rfl dX8_init_9 (fun H locs hN => ?_)
  refine lv_aload_n hx hb dX8_init_12 rfl (lv_at hl 0 rfl) ?_
  refine lv_bipush (v := 16) hx hb dX8_init_13 (by decide) ?_
  refine am_nnewa (L := [.inr (8, [.ref (G.1 + (pre.length + 1)), .null, .int 0]), .inl (G.2.1 2, 16, .inl (fun _ => 0))]) (L' := [.inr (8, [.ref (G.1 + (pre.length + 1)), .null, .int 0]), .inl (G.2.1 2, 16, .inl (fun _ => 0)), .inl (G.2.1 2, 16, .inl (fun _ => 0))]) (q := 2) (N' := 16) (t := 2) (atype := .int) hx hb hts hK hN am_q146 rfl (fun _ => rfl) (by decide) (by decide) (by decide) (Nat.le_of_ble_eq_true rfl) (Nat.le_of_ble_eq_true rfl) rfl rfl dX8_init_15 (fun H hN => ?_)
  refine am_nput (L := [.inr (8, [.ref (G.1 + (pre.length + 1)), .null, .int 0]), .inl (G.2.1 2, 16, .inl (fun _ => 0)), .inl (G.2.1 2, 16, .inl (fun _ => 0))]) (L' := [.inr (8, [.ref (G.1 + (pre.length + 1)), .ref (G.1 + (pre.length + 2)), .int 0]), .inl (G.2.1 2, 16, .inl (fun _ => 0)), .inl (G.2.1 2, 16, .inl (fun _ => 0))]) hx hb hts hK hown hN 0 rfl rfl am_inX8 tyX8 tyX8_ok nmX8 1 (by decide) am_q155 rfl hin rfl rfl rfl (Nat.le_of_ble_eq_true rfl) rfl dX8_init_17 (fun H locs hN => ?_)
  exact am_retN hx hb hr hlocks hN rfl dX8_init_20
def am_cells_X9 (G : am_G) (q : Nat) : List va_E := [.inr (9, [.ref (G.1 + (q + 1)), .ref (G.1 + (q + 2)), .ref (G.1 + (q + 3)), .ref (G.1 + (q + 4)), .int 0]), .inl (G.2.1 2, 10, .inl (fun _ => 0)), .inl (G.2.1 3, 10, .inr (.inl (fun _ => 0))), .inl (G.2.1 2, 30, .inl (fun _ => 0)), .inl (G.2.1 2, 3, .inl (fun _ => 0))]
set_option maxRecDepth 100000 in
set_option maxHeartbeats 8000000 in
theorem kI_X9 {G : am_G} {l : Launch} {pre : List va_E} : am_MI G l yX9_init (Cond.code yX9_init cX9_init 1 none :: am_T) { frames := 1, cells := 4, slots := 53, locals := 64 } [.ref (G.1 + (pre.length + 0))] (pre ++ [.inr (9, [.null, .null, .null, .null, .int 0])]) (pre ++ am_cells_X9 G pre.length) 4 53 := by
  refine Met.ofW (cc := cX9_init) (maxL := 1) (ret := none) (by decide) rfl ?_
  intro p e s m args below meth c s₁ B hml hv
  obtain ⟨rfl, hx, hb, hr, hts, hown, hlocks, hin, hK, hX, hN⟩ := am_beginN B hv
  have hown : s.vm.findClass RX9 = some m.cls := hown
  have hin : meth.name = "<init>" := hin
  show W p l e { frames := 1, cells := 4, slots := 53, locals := 64 } s m _ below meth c s.heap [] 0 0 _ _
  refine am_enter (lv := [(0, .ref (G.1 + (pre.length + 0)))]) (Nat.le_of_ble_eq_true rfl) rfl (fun ls hl => ?_)
  refine lv_aload_n hx hb dX9_init_0 rfl (lv_at hl 0 rfl) ?_
  refine W.objInit hx hb hown (hts _ am_q172) (hts _ am_q37) (hts _ am_q38) rfl (by rw [hml]; exact hl.1) rfl dX9_init_1 (Nat.le_of_ble_eq_true rfl) (Nat.le_of_ble_eq_true rfl) ?_
  show W _ _ _ _ _ _ _ _ _ _ _ _ _ _ _ (F0 m 4 ls [])
  refine lv_aload_n hx hb dX9_init_4 rfl (lv_at hl 0 rfl) ?_
  refine lv_bipush (v := 10) hx hb dX9_init_5 (by decide) ?_
  refine am_nnewa (L := [.inr (9, [.null, .null, .null, .null, .int 0])]) (L' := [.inr (9, [.null, .null, .null, .null, .int 0]), .inl (G.2.1 2, 10, .inl (fun _ => 0))]) (q := 1) (N' := 10) (t := 2) (atype := .int) hx hb hts hK hN am_q146 rfl (fun _ => rfl) (by decide) (by decide) (by decide) (Nat.le_of_ble_eq_true rfl) (Nat.le_of_ble_eq_true rfl) rfl rfl dX9_init_7 (fun H hN => ?_)
  refine am_nput (L := [.inr (9, [.null, .null, .null, .null, .int 0]), .inl (G.2.1 2, 10, .inl (fun _ => 0))]) (L' := [.inr (9, [.ref (G.1 + (pre.length + 1)), .null, .null, .null, .int 0]), .inl (G.2.1 2, 10, .inl (fun _ => 0))]) hx hb hts hK hown hN 0 rfl rfl am_inX9 tyX9 tyX9_ok nmX9 0 (by decide) am_q173 rfl hin rfl rfl rfl (Nat.le_of_ble_eq_true rfl) rfl dX9_init_9 (fun H locs hN => ?_)
  refine lv_aload_n hx hb dX9_init_12 rfl (lv_at hl 0 rfl) ?_
  refine lv_bipush (v := 10) hx hb dX9_init_13 (by decide) ?_
  refine am_nnewa (L := [.inr (9, [.ref (G.1 + (pre.length + 1)), .null, .null, .null, .int 0]), .inl (G.2.1 2, 10, .inl (fun _ => 0))]) (L' := [.inr (9, [.ref (G.1 + (pre.length + 1)), .null, .null, .null, .int 0]), .inl (G.2.1 2, 10, .inl (fun _ => 0)), .inl (G.2.1 3, 10, .inr (.inl (fun _ => 0)))]) (q := 2) (N' := 10) (t := 3) (atype := .long) hx hb hts hK hN am_q202 rfl (fun _ => rfl) (by decide) (by decide) (by decide) (Nat.le_of_ble_eq_true rfl) (Nat.le_of_ble_eq_true rfl) rfl rfl dX9_init_15 (fun H hN => ?_)
  refine am_nput (L := [.inr (9, [.ref (G.1 + (pre.length + 1)), .null, .null, .null, .int 0]), .inl (G.2.1 2, 10, .inl (fun _ => 0)), .inl (G.2.1 3, 10, .inr (.inl (fun _ => 0)))]) (L' := [.inr (9, [.ref (G.1 + (pre.length + 1)), .ref (G.1 + (pre.length + 2)), .null, .null, .int 0]), .inl (G.2.1 2, 10, .inl (fun _ => 0)), .inl (G.2.1 3, 10, .inr (.inl (fun _ => 0)))]) hx hb hts hK hown hN 0 rfl rfl am_inX9 tyX9 tyX9_ok nmX9 1 (by decide) am_q177 rfl hin rfl rfl rfl (Nat.le_of_ble_eq_true rfl) rfl dX9_init_17 (fun H locs hN => ?_)
  refine lv_aload_n hx hb dX9_init_20 rfl (lv_at hl 0 rfl) ?_
  refine lv_bipush (v := 30) hx hb dX9_init_21 (by decide) ?_
  refine am_nnewa (L := [.inr (9, [.ref (G.1 + (pre.length + 1)), .ref (G.1 + (pre.length + 2)), .null, .null, .int 0]), .inl (G.2.1 2, 10, .inl (fun _ => 0)), .inl (G.2.1 3, 10, .inr (.inl (fun _ => 0)))]) (L' := [.inr (9, [.ref (G.1 + (pre.length + 1)), .ref (G.1 + (pre.length + 2)), .null, .null, .int 0]), .inl (G.2.1 2, 10, .inl (fun _ => 0)), .inl (G.2.1 3, 10, .inr (.inl (fun _ => 0))), .inl (G.2.1 2, 30, .inl (fun _ => 0))]) (q := 3) (N' := 30) (t := 2) (atype := .int) hx hb hts hK hN am_q146 rfl (fun _ => rfl) (by decide) (by decide) (by decide) (Nat.le_of_ble_eq_true rfl) (Nat.le_of_ble_eq_true rfl) rfl rfl dX9_init_23 (fun H hN => ?_)
  refine am_nput (L := [.inr (9, [.ref (G.1 + (pre.length + 1)), .ref (G.1 + (pre.length + 2)), .null, .null, .int 0]), .inl (G.2.1 2, 10, .inl (fun _ => 0)), .inl (G.2.1 3, 10, .inr (.inl (fun _ => 0))), .inl (G.2.1 2, 30, .inl (fun _ => 0))]) (L' := [.inr (9, [.ref (G.1 + (pre.length + 1)), .ref (G.1 + (pre.length + 2)), .ref (G.1 + (pre.length + 3)), .null, .int 0]), .inl (G.2.1 2, 10, .inl (fun _ => 0)), .inl (G.2.1 3, 10, .inr (.inl (fun _ => 0))), .inl (G.2.1 2, 30, .inl (fun _ => 0))]) hx hb hts hK hown hN 0 rfl rfl am_inX9 tyX9 tyX9_ok nmX9 2 (by decide) am_q181 rfl hin rfl rfl rfl (Nat.le_of_ble_eq_true rfl) rfl dX9_init_25 (fun H locs hN => ?_)
  refine lv_aload_n hx hb dX9_init_28 rfl (lv_at hl 0 rfl) ?_
  refine lv_iconst (v := 3) hx hb dX9_init_29 (by decide) ?_
  refine am_nnewa (L := [.inr (9, [.ref (G.1 + (pre.length + 1)), .ref (G.1 + (pre.length + 2)), .ref (G.1 + (pre.length + 3)), .null, .int 0]), .inl (G.2.1 2, 10, .inl (fun _ => 0)), .inl (G.2.1 3, 10, .inr (.inl (fun _ => 0))), .inl (G.2.1 2, 30, .inl (fun _ => 0))]) (L' := [.inr (9, [.ref (G.1 + (pre.length + 1)), .ref (G.1 + (pre.length + 2)), .ref (G.1 + (pre.length + 3)), .null, .int 0]), .inl (G.2.1 2, 10, .inl (fun _ => 0)), .inl (G.2.1 3, 10, .inr (.inl (fun _ => 0))), .inl (G.2.1 2, 30, .inl (fun _ => 0)), .inl (G.2.1 2, 3, .inl (fun _ => 0))]) (q := 4) (N' := 3) (t := 2) (atype := .int) hx hb hts hK hN am_q146 rfl (fun _ => rfl) (by decide) (by decide) (by decide) (Nat.le_of_ble_eq_true rfl) (Nat.le_of_ble_eq_true rfl) rfl rfl dX9_init_30 (fun H hN => ?_)
  refine am_nput (L := [.inr (9, [.ref (G.1 + (pre.length + 1)), .ref (G.1 + (pre.length + 2)), .ref (G.1 + (pre.length + 3)), .null, .int 0]), .inl (G.2.1 2, 10, .inl (fun _ => 0)), .inl (G.2.1 3, 10, .inr (.inl (fun _ => 0))), .inl (G.2.1 2, 30, .inl (fun _ => 0)), .inl (G.2.1 2, 3, .inl (fun _ => 0))]) (L' := [.inr (9, [.ref (G.1 + (pre.length + 1)), .ref (G.1 + (pre.length + 2)), .ref (G.1 + (pre.length + 3)), .ref (G.1 + (pre.length + 4)), .int 0]), .inl (G.2.1 2, 10, .inl (fun _ => 0)), .inl (G.2.1 3, 10, .inr (.inl (fun _ => 0))), .inl (G.2.1 2, 30, .inl (fun _ => 0)), .inl (G.2.1 2, 3, .inl (fun _ => 0))]) hx hb hts hK hown hN 0 rfl rfl am_inX9 tyX9 tyX9_ok nmX9 3 (by decide) am_q184 rfl hin rfl rfl rfl (Nat.le_of_ble_eq_true rfl) rfl dX9_init_32 (fun H locs hN => ?_)
  exact am_retN hx hb hr hlocks hN rfl dX9_init_35
def am_cells_X4 (G : am_G) (q : Nat) : List va_E := [.inr (4, [.ref (G.1 + (q + 1)), .ref (G.1 + (q + 2)), .ref (G.1 + (q + 3)), .int 0]), .inl (G.2.1 2, 100, .inl (fun _ => 0)), .inl (G.2.1 2, 100, .inl (fun _ => 0)), .inl (G.2.1 2, 100, .inl (fun _ => 0))]
set_option maxRecDepth 100000 in
set_option maxHeartbeats 8000000 in
theorem kI_X4 {G : am_G} {l : Launch} {pre : List va_E} : am_MI G l yX4_init (Cond.code yX4_init cX4_init 1 none :: am_T) { frames := 1, cells := 3, slots := 300, locals := 64 } [.ref (G.1 + (pre.length + 0))] (pre ++ [.inr (4, [.null, .null, .null, .int 0])]) (pre ++ am_cells_X4 G pre.length) 3 300 := by
  refine Met.ofW (cc := cX4_init) (maxL := 1) (ret := none) (by decide) rfl ?_
  intro p e s m args below meth c s₁ B hml hv
  obtain ⟨rfl, hx, hb, hr, hts, hown, hlocks, hin, hK, hX, hN⟩ := am_beginN B hv
  have hown : s.vm.findClass RX4 = some m.cls := hown
  have hin : meth.name = "<init>" := hin
  show W p l e { frames := 1, cells := 3, slots := 300, locals := 64 } s m _ below meth c s.heap [] 0 0 _ _
  refine am_enter (lv := [(0, .ref (G.1 + (pre.length + 0)))]) (Nat.le_of_ble_eq_true rfl) rfl (fun ls hl => ?_)
  refine lv_aload_n hx hb dX4_init_0 rfl (lv_at hl 0 rfl) ?_
  refine W.objInit hx hb hown (hts _ am_q208) (hts _ am_q37) (hts _ am_q38) rfl (by rw [hml]; exact hl.1) rfl dX4_init_1 (Nat.le_of_ble_eq_true rfl) (Nat.le_of_ble_eq_true rfl) ?_
  show W _ _ _ _ _ _ _ _ _ _ _ _ _ _ _ (F0 m 4 ls [])
  refine lv_aload_n hx hb dX4_init_4 rfl (lv_at hl 0 rfl) ?_
  refine lv_bipush (v := 100) hx hb dX4_init_5 (by decide) ?_
  refine am_nnewa (L := [.inr (4, [.null, .null, .null, .int 0])]) (L' := [.inr (4, [.null, .null, .null, .int 0]), .inl (G.2.1 2, 100, .inl (fun _ => 0))]) (q := 1) (N' := 100) (t := 2) (atype := .int) hx hb hts hK hN am_q146 rfl (fun _ => rfl) (by decide) (by decide) (by decide) (Nat.le_of_ble_eq_true rfl) (Nat.le_of_ble_eq_true rfl) rfl rfl dX4_init_7 (fun H hN => ?_)
  refine am_nput (L := [.inr (4, [.null, .null, .null, .int 0]), .inl (G.2.1 2, 100, .inl (fun _ => 0))]) (L' := [.inr (4, [.ref (G.1 + (pre.length + 1)), .null, .null, .int 0]), .inl (G.2.1 2, 100, .inl (fun _ => 0))]) hx hb hts hK hown hN 0 rfl rfl am_inX4 tyX4 tyX4_ok nmX4 0 (by decide) am_q209 rfl hin rfl rfl rfl (Nat.le_of_ble_eq_true rfl) rfl dX4_init_9 (fun H locs hN => ?_)
  refine lv_aload_n hx hb dX4_init_12 rfl (lv_at hl 0 rfl) ?_
  refine lv_bipush (v := 100) hx hb dX4_init_13 (by decide) ?_
  refine am_nnewa (L := [.inr (4, [.ref (G.1 + (pre.length + 1)), .null, .null, .int 0]), .inl (G.2.1 2, 100, .inl (fun _ => 0))]) (L' := [.inr (4, [.ref (G.1 + (pre.length + 1)), .null, .null, .int 0]), .inl (G.2.1 2, 100, .inl (fun _ => 0)), .inl (G.2.1 2, 100, .inl (fun _ => 0))]) (q := 2) (N' := 100) (t := 2) (atype := .int) hx hb hts hK hN am_q146 rfl (fun _ => rfl) (by decide) (by decide) (by decide) (Nat.le_of_ble_eq_true rfl) (Nat.le_of_ble_eq_true rfl) rfl rfl dX4_init_15 (fun H hN => ?_)
  refine am_nput (L := [.inr (4, [.ref (G.1 + (pre.length + 1)), .null, .null, .int 0]), .inl (G.2.1 2, 100, .inl (fun _ => 0)), .inl (G.2.1 2, 100, .inl (fun _ => 0))]) (L' := [.inr (4, [.ref (G.1 + (pre.length + 1)), .ref (G.1 + (pre.length + 2)), .null, .int 0]), .inl (G.2.1 2, 100, .inl (fun _ => 0)), .inl (G.2.1 2, 100, .inl (fun _ => 0))]) hx hb hts hK hown hN 0 rfl rfl am_inX4 tyX4 tyX4_ok nmX4 1 (by decide) am_q210 rfl hin rfl rfl rfl (Nat.le_of_ble_eq_true rfl) rfl dX4_init_17 (fun H locs hN => ?_)
  refine lv_aload_n hx hb dX4_init_20 rfl (lv_at hl 0 rfl) ?_
  refine lv_bipush (v := 100) hx hb dX4_init_21 (by decide) ?_
  refine am_nnewa (L := [.inr (4, [.ref (G.1 + (pre.length + 1)), .ref (G.1 + (pre.length + 2)), .null, .int 0]), .inl (G.2.1 2, 100, .inl (fun _ => 0)), .inl (G.2.1 2, 100, .inl (fun _ => 0))]) (L' := [.inr (4, [.ref (G.1 + (pre.length + 1)), .ref (G.1 + (pre.length + 2)), .null, .int 0]), .inl (G.2.1 2, 100, .inl (fun _ => 0)), .inl (G.2.1 2, 100, .inl (fun _ => 0)), .inl (G.2.1 2, 100, .inl (fun _ => 0))]) (q := 3) (N' := 100) (t := 2) (atype := .int) hx hb hts hK hN am_q146 rfl (fun _ => rfl) (by decide) (by decide) (by decide) (Nat.le_of_ble_eq_true rfl) (Nat.le_of_ble_eq_true rfl) rfl rfl dX4_init_23 (fun H hN => ?_)
  refine am_nput (L := [.inr (4, [.ref (G.1 + (pre.length + 1)), .ref (G.1 + (pre.length + 2)), .null, .int 0]), .inl (G.2.1 2, 100, .inl (fun _ => 0)), .inl (G.2.1 2, 100, .inl (fun _ => 0)), .inl (G.2.1 2, 100, .inl (fun _ => 0))]) (L' := [.inr (4, [.ref (G.1 + (pre.length + 1)), .ref (G.1 + (pre.length + 2)), .ref (G.1 + (pre.length + 3)), .int 0]), .inl (G.2.1 2, 100, .inl (fun _ => 0)), .inl (G.2.1 2, 100, .inl (fun _ => 0)), .inl (G.2.1 2, 100, .inl (fun _ => 0))]) hx hb hts hK hown hN 0 rfl rfl am_inX4 tyX4 tyX4_ok nmX4 2 (by decide) am_q211 rfl hin rfl rfl rfl (Nat.le_of_ble_eq_true rfl) rfl dX4_init_25 (fun H locs hN => ?_)
  exact am_retN hx hb hr hlocks hN rfl dX4_init_28
def am_cells_X0 (G : am_G) (q : Nat) : List va_E := [.inr (0, [.long 0])]
set_option maxRecDepth 100000 in
set_option maxHeartbeats 8000000 in
theorem kI_X0 {G : am_G} {l : Launch} {pre : List va_E} : am_MI G l yX0_init (Cond.code yX0_init cX0_init 1 none :: am_T) { frames := 1, cells := 0, slots := 0, locals := 64 } [.ref (G.1 + (pre.length + 0))] (pre ++ [.inr (0, [.long 0])]) (pre ++ am_cells_X0 G pre.length) 0 0 := by
  refine Met.ofW (cc := cX0_init) (maxL := 1) (ret := none) (by decide) rfl ?_
  intro p e s m args below meth c s₁ B hml hv
  obtain ⟨rfl, hx, hb, hr, hts, hown, hlocks, hin, hK, hX, hN⟩ := am_beginN B hv
  have hown : s.vm.findClass RX0 = some m.cls := hown
  have hin : meth.name = "<init>" := hin
  show W p l e { frames := 1, cells := 0, slots := 0, locals := 64 } s m _ below meth c s.heap [] 0 0 _ _
  refine am_enter (lv := [(0, .ref (G.1 + (pre.length + 0)))]) (Nat.le_of_ble_eq_true rfl) rfl (fun ls hl => ?_)
  refine lv_aload_n hx hb dX0_init_0 rfl (lv_at hl 0 rfl) ?_
  refine W.objInit hx hb hown (hts _ am_q248) (hts _ am_q37) (hts _ am_q38) rfl (by rw [hml]; exact hl.1) rfl dX0_init_1 (Nat.le_of_ble_eq_true rfl) (Nat.le_of_ble_eq_true rfl) ?_
  show W _ _ _ _ _ _ _ _ _ _ _ _ _ _ _ (F0 m 4 ls [])
  exact am_retN hx hb hr hlocks hN rfl dX0_init_4
def am_cells_X7 (G : am_G) (q : Nat) (b1 : Nat) : List va_E := [.inr (7, [.ref b1, .ref (G.1 + (q + 1)), .ref (G.1 + (q + 2)), .ref (G.1 + (q + 3)), .ref (G.1 + (q + 4)), .int 0, .int 0]), .inl (G.2.1 1, 10, .inr (.inr (.inl (fun _ => 0)))), .inl (G.2.1 1, 1024, .inr (.inr (.inl (fun _ => 0)))), .inl (G.2.1 2, 1024, .inl (fun _ => 0)), .inl (G.2.1 2, 48, .inl (fun _ => 0))]
set_option maxRecDepth 100000 in
set_option maxHeartbeats 8000000 in
theorem kI_X7 {G : am_G} {l : Launch} {pre : List va_E} {b1 : Nat} : am_MI G l yX7_init (Cond.code yX7_init cX7_init 2 none :: am_T) { frames := 1, cells := 4, slots := 2106, locals := 64 } [.ref (G.1 + (pre.length + 0)), .ref b1] (pre ++ [.inr (7, [.null, .null, .null, .null, .null, .int 0, .int 0])]) (pre ++ am_cells_X7 G pre.length b1) 4 2106 := by
  refine Met.ofW (cc := cX7_init) (maxL := 2) (ret := none) (by decide) rfl ?_
  intro p e s m args below meth c s₁ B hml hv
  obtain ⟨rfl, hx, hb, hr, hts, hown, hlocks, hin, hK, hX, hN⟩ := am_beginN B hv
  have hown : s.vm.findClass RX7 = some m.cls := hown
  have hin : meth.name = "<init>" := hin
  show W p l e { frames := 1, cells := 4, slots := 2106, locals := 64 } s m _ below meth c s.heap [] 0 0 _ _
  refine am_enter (lv := [(0, .ref (G.1 + (pre.length + 0))), (1, .ref b1)]) (Nat.le_of_ble_eq_true rfl) rfl (fun ls hl => ?_)
  refine lv_aload_n hx hb dX7_init_0 rfl (lv_at hl 0 rfl) ?_
  refine W.objInit hx hb hown (hts _ am_q258) (hts _ am_q37) (hts _ am_q38) rfl (by rw [hml]; exact hl.1) rfl dX7_init_1 (Nat.le_of_ble_eq_true rfl) (Nat.le_of_ble_eq_true rfl) ?_
  show W _ _ _ _ _ _ _ _ _ _ _ _ _ _ _ (F0 m 4 ls [])
  refine lv_aload_n hx hb dX7_init_4 rfl (lv_at hl 0 rfl) ?_
  refine lv_bipush (v := 10) hx hb dX7_init_5 (by decide) ?_
  refine am_nnewa (L := [.inr (7, [.null, .null, .null, .null, .null, .int 0, .int 0])]) (L' := [.inr (7, [.null, .null, .null, .null, .null, .int 0, .int 0]), .inl (G.2.1 1, 10, .inr (.inr (.inl (fun _ => 0))))]) (q := 1) (N' := 10) (t := 1) (atype := .float) hx hb hts hK hN am_q289 rfl (fun _ => rfl) (by decide) (by decide) (by decide) (Nat.le_of_ble_eq_true rfl) (Nat.le_of_ble_eq_true rfl) rfl rfl dX7_init_7 (fun H hN => ?_)
  refine am_nput (L := [.inr (7, [.null, .null, .null, .null, .null, .int 0, .int 0]), .inl (G.2.1 1, 10, .inr (.inr (.inl (fun _ => 0))))]) (L' := [.inr (7, [.null, .ref (G.1 + (pre.length + 1)), .null, .null, .null, .int 0, .int 0]), .inl (G.2.1 1, 10, .inr (.inr (.inl (fun _ => 0))))]) hx hb hts hK hown hN 0 rfl rfl am_inX7 tyX7 tyX7_ok nmX7 1 (by decide) am_q260 rfl hin rfl rfl rfl (Nat.le_of_ble_eq_true rfl) rfl dX7_init_9 (fun H locs hN => ?_)
  refine lv_aload_n hx hb dX7_init_12 rfl (lv_at hl 0 rfl) ?_
  refine lv_sipush (v := 1024) hx hb dX7_init_13 (by decide) ?_
  refine am_nnewa (L := [.inr (7, [.null, .ref (G.1 + (pre.length + 1)), .null, .null, .null, .int 0, .int 0]), .inl (G.2.1 1, 10, .inr (.inr (.inl (fun _ => 0))))]) (L' := [.inr (7, [.null, .ref (G.1 + (pre.length + 1)), .null, .null, .null, .int 0, .int 0]), .inl (G.2.1 1, 10, .inr (.inr (.inl (fun _ => 0)))), .inl (G.2.1 1, 1024, .inr (.inr (.inl (fun _ => 0))))]) (q := 2) (N' := 1024) (t := 1) (atype := .float) hx hb hts hK hN am_q289 rfl (fun _ => rfl) (by decide) (by decide) (by decide) (Nat.le_of_ble_eq_true rfl) (Nat.le_of_ble_eq_true rfl) rfl rfl dX7_init_16 (fun H hN => ?_)
  refine am_nput (L := [.inr (7, [.null, .ref (G.1 + (pre.length + 1)), .null, .null, .null, .int 0, .int 0]), .inl (G.2.1 1, 10, .inr (.inr (.inl (fun _ => 0)))), .inl (G.2.1 1, 1024, .inr (.inr (.inl (fun _ => 0))))]) (L' := [.inr (7, [.null, .ref (G.1 + (pre.length + 1)), .ref (G.1 + (pre.length + 2)), .null, .null, .int 0, .int 0]), .inl (G.2.1 1, 10, .inr (.inr (.inl (fun _ => 0)))), .inl (G.2.1 1, 1024, .inr (.inr (.inl (fun _ => 0))))]) hx hb hts hK hown hN 0 rfl rfl am_inX7 tyX7 tyX7_ok nmX7 2 (by decide) am_q263 rfl hin rfl rfl rfl (Nat.le_of_ble_eq_true rfl) rfl dX7_init_18 (fun H locs hN => ?_)
  refine lv_aload_n hx hb dX7_init_21 rfl (lv_at hl 0 rfl) ?_
  refine lv_sipush (v := 1024) hx hb dX7_init_22 (by decide) ?_
  refine am_nnewa (L := [.inr (7, [.null, .ref (G.1 + (pre.length + 1)), .ref (G.1 + (pre.length + 2)), .null, .null, .int 0, .int 0]), .inl (G.2.1 1, 10, .inr (.inr (.inl (fun _ => 0)))), .inl (G.2.1 1, 1024, .inr (.inr (.inl (fun _ => 0))))]) (L' := [.inr (7, [.null, .ref (G.1 + (pre.length + 1)), .ref (G.1 + (pre.length + 2)), .null, .null, .int 0, .int 0]), .inl (G.2.1 1, 10, .inr (.inr (.inl (fun _ => 0)))), .inl (G.2.1 1, 1024, .inr (.inr (.inl (fun _ => 0)))), .inl (G.2.1 2, 1024, .inl (fun _ => 0))]) (q := 3) (N' := 1024) (t := 2) (atype := .int) hx hb hts hK hN am_q146 rfl (fun _ => rfl) (by decide) (by decide) (by decide) (Nat.le_of_ble_eq_true rfl) (Nat.le_of_ble_eq_true rfl) rfl rfl dX7_init_25 (fun H hN => ?_)
  refine am_nput (L := [.inr (7, [.null, .ref (G.1 + (pre.length + 1)), .ref (G.1 + (pre.length + 2)), .null, .null, .int 0, .int 0]), .inl (G.2.1 1, 10, .inr (.inr (.inl (fun _ => 0)))), .inl (G.2.1 1, 1024, .inr (.inr (.inl (fun _ => 0)))), .inl (G.2.1 2, 1024, .inl (fun _ => 0))]) (L' := [.inr (7, [.null, .ref (G.1 + (pre.length + 1)), .ref (G.1 + (pre.length + 2)), .ref (G.1 + (pre.length + 3)), .null, .int 0, .int 0]), .inl (G.2.1 1, 10, .inr (.inr (.inl (fun _ => 0)))), .inl (G.2.1 1, 1024, .inr (.inr (.inl (fun _ => 0)))), .inl (G.2.1 2, 1024, .inl (fun _ => 0))]) hx hb hts hK hown hN 0 rfl rfl am_inX7 tyX7 tyX7_ok nmX7 3 (by decide) am_q264 rfl hin rfl rfl rfl (Nat.le_of_ble_eq_true rfl) rfl dX7_init_27 (fun H locs hN => ?_)
  refine lv_aload_n hx hb dX7_init_30 rfl (lv_at hl 0 rfl) ?_
  refine lv_bipush (v := 48) hx hb dX7_init_31 (by decide) ?_
  refine am_nnewa (L := [.inr (7, [.null, .ref (G.1 + (pre.length + 1)), .ref (G.1 + (pre.length + 2)), .ref (G.1 + (pre.length + 3)), .null, .int 0, .int 0]), .inl (G.2.1 1, 10, .inr (.inr (.inl (fun _ => 0)))), .inl (G.2.1 1, 1024, .inr (.inr (.inl (fun _ => 0)))), .inl (G.2.1 2, 1024, .inl (fun _ => 0))]) (L' := [.inr (7, [.null, .ref (G.1 + (pre.length + 1)), .ref (G.1 + (pre.length + 2)), .ref (G.1 + (pre.length + 3)), .null, .int 0, .int 0]), .inl (G.2.1 1, 10, .inr (.inr (.inl (fun _ => 0)))), .inl (G.2.1 1, 1024, .inr (.inr (.inl (fun _ => 0)))), .inl (G.2.1 2, 1024, .inl (fun _ => 0)), .inl (G.2.1 2, 48, .inl (fun _ => 0))]) (q := 4) (N' := 48) (t := 2) (atype := .int) hx hb hts hK hN am_q146 rfl (fun _ => rfl) (by decide) (by decide) (by decide) (Nat.le_of_ble_eq_true rfl) (Nat.le_of_ble_eq_true rfl) rfl rfl dX7_init_33 (fun H hN => ?_)
  refine am_nput (L := [.inr (7, [.null, .ref (G.1 + (pre.length + 1)), .ref (G.1 + (pre.length + 2)), .ref (G.1 + (pre.length + 3)), .null, .int 0, .int 0]), .inl (G.2.1 1, 10, .inr (.inr (.inl (fun _ => 0)))), .inl (G.2.1 1, 1024, .inr (.inr (.inl (fun _ => 0)))), .inl (G.2.1 2, 1024, .inl (fun _ => 0)), .inl (G.2.1 2, 48, .inl (fun _ => 0))]) (L' := [.inr (7, [.null, .ref (G.1 + (pre.length + 1)), .ref (G.1 + (pre.length + 2)), .ref (G.1 + (pre.length + 3)), .ref (G.1 + (pre.length + 4)), .int 0, .int 0]), .inl (G.2.1 1, 10, .inr (.inr (.inl (fun _ => 0)))), .inl (G.2.1 1, 1024, .inr (.inr (.inl (fun _ => 0)))), .inl (G.2.1 2, 1024, .inl (fun _ => 0)), .inl (G.2.1 2, 48, .inl (fun _ => 0))]) hx hb hts hK hown hN 0 rfl rfl am_inX7 tyX7 tyX7_ok nmX7 4 (by decide) am_q265 rfl hin rfl rfl rfl (Nat.le_of_ble_eq_true rfl) rfl dX7_init_35 (fun H locs hN => ?_)
  refine lv_aload_n hx hb dX7_init_38 rfl (lv_at hl 0 rfl) ?_
  refine lv_aload_n hx hb dX7_init_39 rfl (lv_at hl 1 rfl) ?_
  refine am_nput (L := [.inr (7, [.null, .ref (G.1 + (pre.length + 1)), .ref (G.1 + (pre.length + 2)), .ref (G.1 + (pre.length + 3)), .ref (G.1 + (pre.length + 4)), .int 0, .int 0]), .inl (G.2.1 1, 10, .inr (.inr (.inl (fun _ => 0)))), .inl (G.2.1 1, 1024, .inr (.inr (.inl (fun _ => 0)))), .inl (G.2.1 2, 1024, .inl (fun _ => 0)), .inl (G.2.1 2, 48, .inl (fun _ => 0))]) (L' := [.inr (7, [.ref b1, .ref (G.1 + (pre.length + 1)), .ref (G.1 + (pre.length + 2)), .ref (G.1 + (pre.length + 3)), .ref (G.1 + (pre.length + 4)), .int 0, .int 0]), .inl (G.2.1 1, 10, .inr (.inr (.inl (fun _ => 0)))), .inl (G.2.1 1, 1024, .inr (.inr (.inl (fun _ => 0)))), .inl (G.2.1 2, 1024, .inl (fun _ => 0)), .inl (G.2.1 2, 48, .inl (fun _ => 0))]) hx hb hts hK hown hN 0 rfl rfl am_inX7 tyX7 tyX7_ok nmX7 0 (by decide) am_q259 rfl hin rfl rfl rfl (Nat.le_of_ble_eq_true rfl) rfl dX7_init_40 (fun H locs hN => ?_)
  exact am_retN hx hb hr hlocks hN rfl dX7_init_43
def am_cells_X6 (G : am_G) (q : Nat) (b1 : Nat) (b2 : Nat) : List va_E := [.inr (6, [.ref b1, .ref b2])]
set_option maxRecDepth 100000 in
set_option maxHeartbeats 8000000 in
theorem kI_X6 {G : am_G} {l : Launch} {pre : List va_E} {b1 : Nat} {b2 : Nat} : am_MI G l yX6_init (Cond.code yX6_init cX6_init 3 none :: am_T) { frames := 1, cells := 0, slots := 0, locals := 64 } [.ref (G.1 + (pre.length + 0)), .ref b1, .ref b2] (pre ++ [.inr (6, [.null, .null])]) (pre ++ am_cells_X6 G pre.length b1 b2) 0 0 := by
  refine Met.ofW (cc := cX6_init) (maxL := 3) (ret := none) (by decide) rfl ?_
  intro p e s m args below meth c s₁ B hml hv
  obtain ⟨rfl, hx, hb, hr, hts, hown, hlocks, hin, hK, hX, hN⟩ := am_beginN B hv
  have hown : s.vm.findClass RX6 = some m.cls := hown
  have hin : meth.name = "<init>" := hin
  show W p l e { frames := 1, cells := 0, slots := 0, locals := 64 } s m _ below meth c s.heap [] 0 0 _ _
  refine am_enter (lv := [(0, .ref (G.1 + (pre.length + 0))), (1, .ref b1), (2, .ref b2)]) (Nat.le_of_ble_eq_true rfl) rfl (fun ls hl => ?_)
  refine lv_aload_n hx hb dX6_init_0 rfl (lv_at hl 0 rfl) ?_
  refine W.objInit hx hb hown (hts _ am_q313) (hts _ am_q37) (hts _ am_q38) rfl (by rw [hml]; exact hl.1) rfl dX6_init_1 (Nat.le_of_ble_eq_true rfl) (Nat.le_of_ble_eq_true rfl) ?_
  show W _ _ _ _ _ _ _ _ _ _ _ _ _ _ _ (F0 m 4 ls [])
  refine lv_aload_n hx hb dX6_init_4 rfl (lv_at hl 0 rfl) ?_
  refine lv_aload_n hx hb dX6_init_5 rfl (lv_at hl 1 rfl) ?_
  refine am_nput (L := [.inr (6, [.null, .null])]) (L' := [.inr (6, [.ref b1, .null])]) hx hb hts hK hown hN 0 rfl rfl am_inX6 tyX6 tyX6_ok nmX6 0 (by decide) am_q314 rfl hin rfl rfl rfl (Nat.le_of_ble_eq_true rfl) rfl dX6_init_6 (fun H locs hN => ?_)
  refine lv_aload_n hx hb dX6_init_9 rfl (lv_at hl 0 rfl) ?_
  refine lv_aload_n hx hb dX6_init_10 rfl (lv_at hl 2 rfl) ?_
  refine am_nput (L := [.inr (6, [.ref b1, .null])]) (L' := [.inr (6, [.ref b1, .ref b2])]) hx hb hts hK hown hN 0 rfl rfl am_inX6 tyX6 tyX6_ok nmX6 1 (by decide) am_q315 rfl hin rfl rfl rfl (Nat.le_of_ble_eq_true rfl) rfl dX6_init_11 (fun H locs hN => ?_)
  exact am_retN hx hb hr hlocks hN rfl dX6_init_14
def am_cells_X5 (G : am_G) (q : Nat) (b1 : Nat) : List va_E := [.inr (5, [.ref b1])]
set_option maxRecDepth 100000 in
set_option maxHeartbeats 8000000 in
theorem kI_X5 {G : am_G} {l : Launch} {pre : List va_E} {b1 : Nat} : am_MI G l yX5_init (Cond.code yX5_init cX5_init 2 none :: am_T) { frames := 1, cells := 0, slots := 0, locals := 64 } [.ref (G.1 + (pre.length + 0)), .ref b1] (pre ++ [.inr (5, [.null])]) (pre ++ am_cells_X5 G pre.length b1) 0 0 := by
  refine Met.ofW (cc := cX5_init) (maxL := 2) (ret := none) (by decide) rfl ?_
  intro p e s m args below meth c s₁ B hml hv
  obtain ⟨rfl, hx, hb, hr, hts, hown, hlocks, hin, hK, hX, hN⟩ := am_beginN B hv
  have hown : s.vm.findClass RX5 = some m.cls := hown
  have hin : meth.name = "<init>" := hin
  show W p l e { frames := 1, cells := 0, slots := 0, locals := 64 } s m _ below meth c s.heap [] 0 0 _ _
  refine am_enter (lv := [(0, .ref (G.1 + (pre.length + 0))), (1, .ref b1)]) (Nat.le_of_ble_eq_true rfl) rfl (fun ls hl => ?_)
  refine lv_aload_n hx hb dX5_init_0 rfl (lv_at hl 0 rfl) ?_
  refine W.objInit hx hb hown (hts _ am_q326) (hts _ am_q37) (hts _ am_q38) rfl (by rw [hml]; exact hl.1) rfl dX5_init_1 (Nat.le_of_ble_eq_true rfl) (Nat.le_of_ble_eq_true rfl) ?_
  show W _ _ _ _ _ _ _ _ _ _ _ _ _ _ _ (F0 m 4 ls [])
  refine lv_aload_n hx hb dX5_init_4 rfl (lv_at hl 0 rfl) ?_
  refine lv_aload_n hx hb dX5_init_5 rfl (lv_at hl 1 rfl) ?_
  refine am_nput (L := [.inr (5, [.null])]) (L' := [.inr (5, [.ref b1])]) hx hb hts hK hown hN 0 rfl rfl am_inX5 tyX5 tyX5_ok nmX5 0 (by decide) am_q327 rfl hin rfl rfl rfl (Nat.le_of_ble_eq_true rfl) rfl dX5_init_6 (fun H locs hN => ?_)
  exact am_retN hx hb hr hlocks hN rfl dX5_init_9
