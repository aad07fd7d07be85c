/-! functions and contracts of methods, by program (wip/whole/gen.py) -/
def f_X12_lowestOf_2b (a0 : Int32) (x1 : Int32) (w : am_S) : Option ((Int32 × am_S) ⊕ (Int32 × am_S)) :=
  am_b2 (f_X12_has a0 x1 w) fun r_8 w_6 => if r_8 = 0 then (am_v (x1 + (1 : Int32)) fun (x1_11 : Int32) => some (.inr (x1_11, w_6))) else (am_x (some (x1, w_6)))
def f_X12_lowestOf_2 (a0 : Int32) (x1 : Int32) (w : am_S) : Option (Int32 × am_S) :=
  am_loop (fun (st : (Int32 × am_S)) => f_X12_lowestOf_2b a0 st.1 st.2) am_fuel (x1, w)
def f_X12_lowestOf (a0 : Int32) (w : am_S) : Option (Int32 × am_S) :=
  f_X12_lowestOf_2 a0 (0 : Int32) w
set_option maxRecDepth 100000 in
set_option maxHeartbeats 4000000 in
theorem k_X12_lowestOf {G : am_G} {l : Launch} {a0 : Int32}  {w : am_S} {rr : Int32} {ww : am_S} (hf : f_X12_lowestOf a0 w = some (rr, ww)) : am_Mi G l yX12_lowestOf (Cond.code yX12_lowestOf cX12_lowestOf 2 (some .int) :: am_T) { frames := 1, cells := 0, slots := 0, locals := 64 } [.int a0] w rr ww := by
  refine Met.ofW (cc := cX12_lowestOf) (maxL := 2) (ret := (some .int)) (by decide) rfl ?_
  intro p e s m args below meth c s₁ B hml hv
  obtain ⟨rfl, hx, hb, hr, hts, hown, hlocks, hK, hE, hH⟩ := am_begin B hv
  have hown : s.vm.findClass RX12 = some m.cls := hown
  show W p l e { frames := 1, cells := 0, slots := 0, locals := 64 } s m _ below meth c s.heap [] 0 0 _ _
  have P2 : ∀ (n1 : Nat) (x1 : Int32) (w : am_S) (H : Heap) (locs : List Loc) (ls : Array Slot), am_loop (fun (st : (Int32 × am_S)) => f_X12_lowestOf_2b a0 st.1 st.2) n1 (x1, w) = some (rr, ww) → am_H G w s H locs → lv_has ls 2 [(0, .int a0), (1, .int x1)] → W p l e { frames := 1, cells := 0, slots := 0, locals := 64 } s m [.int a0].toArray below meth c H locs 0 0 (MQ below (va_Qi (fun (x : Int32) (u : am_S) => x = rr ∧ u = ww) (am_U G) (am_A G)) [.int a0].toArray s 0 0 (am_A G)) (F0 m 2 ls []) := by
    intro n1
    induction n1 with
    | zero =>
      intro x1 w H locs ls hf hH hl
      exact (am_loop_zero hf).elim
    | succ n1 ih1 =>
      intro x1 w H locs ls hf hH hl
      obtain ⟨z1, hf, hk1⟩ := am_loop_succ hf
      have hf : f_X12_lowestOf_2b a0 x1 w = some z1 := hf
      unfold f_X12_lowestOf_2b at hf
      refine lv_iload_n hx hb dX12_lowestOf_2 rfl (lv_at hl 0 rfl) ?_
      refine lv_iload_n hx hb dX12_lowestOf_3 rfl (lv_at hl 1 rfl) ?_
      obtain ⟨r_8, w_6, hq_7, hf⟩ := am_b2_some hf
      refine am_calli (r := r_8) (w' := w_6) (am_runS (n := 2) (As := [.int a0, .int x1]) (rest := []) ⟨hx, hb, hml, hown, hts⟩ hK hE hH (k_X12_has hq_7) (am_gS am_q1454 am_q1455 am_q13 am_q1456) ⟨rfl, rfl⟩ (by decide +kernel) ⟨Nat.le_of_ble_eq_true rfl, Nat.le_of_ble_eq_true rfl⟩ rfl hl.1 rfl (Nat.le_of_ble_eq_true rfl) ⟨Nat.zero_le _, Nat.zero_le _⟩ dX12_lowestOf_4) hH (fun H locs hH => ?_)
      refine lv_if_ne (tgt := 16) hx hb dX12_lowestOf_7 (by decide) (fun hc_9 => ?_) (fun hc_9 => ?_)
      · have hf := (if_neg hc_9).symm.trans hf
        obtain ⟨y_10, hf, hzy_10⟩ := am_x_some hf
        rw [hzy_10] at hk1
        have hf := hf.trans (congrArg some (show y_10 = (rr, ww) from hk1))
        refine lv_iload_n hx hb dX12_lowestOf_16 rfl (lv_at hl 1 rfl) ?_
        exact am_reti hx hb hr hlocks hH hf dX12_lowestOf_17
      · have hf := (if_pos hc_9).symm.trans hf
        obtain ⟨x1_11, hx1_11, hf⟩ := am_v_some hf
        refine lv_iinc (v := x1_11) (lv' := [(1, .int x1_11), (0, .int a0)]) hx hb dX12_lowestOf_10 hl (k := 1) rfl (by rw [hx1_11]; rfl) (by decide) rfl (fun ls hl => ?_)
        refine lv_goto (tgt := 2) hx hb dX12_lowestOf_13 (by decide) ?_
        obtain rfl := Option.some.inj hf
        exact ih1 x1_11 w_6 H locs ls hk1 hH (lv_sub hl [1, 0] rfl)
  refine am_enter (lv := [(0, .int a0)]) (Nat.le_of_ble_eq_true rfl) rfl (fun ls hl => ?_)
  unfold f_X12_lowestOf at hf
  refine am_start hH (fun H locs hH => ?_)
  refine lv_iconst (v := 0) hx hb dX12_lowestOf_0 (by decide) ?_
  refine lv_istore_n (lv' := [(1, .int (0 : Int32)), (0, .int a0)]) hx hb dX12_lowestOf_1 rfl hl (by decide) rfl (fun ls hl => ?_)
  exact P2 am_fuel (0 : Int32) w H locs ls hf hH (lv_sub hl [1, 0] rfl)

def f_X12_peelNow (a1 : Int32) (a2 : Int32) (w : am_S) : Option (Int32 × am_S) :=
  am_b2 (f_X12_firstClear a1 a2 w) fun r_18 w_16 => if r_18 = (-1 : Int32) then (some ((-1 : Int32), w_16)) else (am_b2 (f_X12_clearIn r_18 w_16) fun r_22 w_20 => am_b2 (f_X12_lowestOf r_22 w_20) fun r_25 w_23 => am_b2 (f_X12_wayIn r_25 r_18 w_23) fun r_28 w_26 => am_chk ((0 : Int32) + r_25) 245 (am_v (am_pi w_26 281 ((0 : Int32) + r_25).toNatClampNeg r_28) fun (w_30 : am_S) => some (r_25, w_30)))
set_option maxRecDepth 100000 in
set_option maxHeartbeats 4000000 in
theorem k_X12_peelNow {G : am_G} {l : Launch} {a1 : Int32} {a2 : Int32}  {w : am_S} {rr : Int32} {ww : am_S} (hf : f_X12_peelNow a1 a2 w = some (rr, ww)) : am_Mi G l yX12_peelNow (Cond.code yX12_peelNow cX12_peelNow 5 (some .int) :: am_T) { frames := 7, cells := 0, slots := 0, locals := 448 } [.ref (G.1 + 271), .int a1, .int a2] w rr ww := by
  refine Met.ofW (cc := cX12_peelNow) (maxL := 5) (ret := (some .int)) (by decide) rfl ?_
  intro p e s m args below meth c s₁ B hml hv
  obtain ⟨rfl, hx, hb, hr, hts, hown, hlocks, hK, hE, hH⟩ := am_begin B hv
  have hown : s.vm.findClass RX12 = some m.cls := hown
  show W p l e { frames := 7, cells := 0, slots := 0, locals := 448 } s m _ below meth c s.heap [] 0 0 _ _
  refine am_enter (lv := [(0, .ref (G.1 + 271)), (1, .int a1), (2, .int a2)]) (Nat.le_of_ble_eq_true rfl) rfl (fun ls hl => ?_)
  unfold f_X12_peelNow at hf
  refine am_start hH (fun H locs hH => ?_)
  refine lv_aload_n hx hb dX12_peelNow_0 rfl (lv_at hl 0 rfl) ?_
  refine lv_iload_n hx hb dX12_peelNow_1 rfl (lv_at hl 1 rfl) ?_
  refine lv_iload_n hx hb dX12_peelNow_2 rfl (lv_at hl 2 rfl) ?_
  obtain ⟨r_18, w_16, hq_17, hf⟩ := am_b2_some hf
  refine am_calli (r := r_18) (w' := w_16) (am_runV (n := 2) (As := [.int a1, .int a2]) (rest := []) ⟨hx, hb, hml, hown, hts⟩ hK hE hH (k_X12_firstClear hq_17) (am_gV am_q1522 am_q1524 am_qs61 am_q13 am_q1525) (am_o12 (p := 271) (by decide +kernel)) rfl ⟨rfl, rfl⟩ (by decide +kernel) ⟨Nat.le_of_ble_eq_true rfl, Nat.le_of_ble_eq_true rfl⟩ rfl hl.1 rfl (Nat.le_of_ble_eq_true rfl) ⟨Nat.zero_le _, Nat.zero_le _⟩ dX12_peelNow_3) hH (fun H locs hH => ?_)
  refine lv_istore_n (lv' := [(3, .int r_18), (0, .ref (G.1 + 271)), (1, .int a1), (2, .int a2)]) hx hb dX12_peelNow_6 rfl hl (by decide) rfl (fun ls hl => ?_)
  refine lv_iload_n hx hb dX12_peelNow_7 rfl (lv_at hl 0 rfl) ?_
  refine lv_iconst (v := -1) hx hb dX12_peelNow_8 (by decide) ?_
  refine lv_icmp_ne (tgt := 14) hx hb dX12_peelNow_9 (by decide) (fun hc_19 => ?_) (fun hc_19 => ?_)
  · have hf := (if_neg hc_19).symm.trans hf
    refine lv_aload_n hx hb dX12_peelNow_14 rfl (lv_at hl 1 rfl) ?_
    refine lv_iload_n hx hb dX12_peelNow_15 rfl (lv_at hl 0 rfl) ?_
    obtain ⟨r_22, w_20, hq_21, hf⟩ := am_b2_some hf
    refine am_calli (r := r_22) (w' := w_20) (am_runV (n := 1) (As := [.int r_18]) (rest := []) ⟨hx, hb, hml, hown, hts⟩ hK hE hH (k_X12_clearIn hq_21) (am_gV am_q1526 am_q1528 am_qs62 am_q13 am_q1529) (am_o12 (p := 271) (by decide +kernel)) rfl ⟨rfl, rfl⟩ (by decide +kernel) ⟨Nat.le_of_ble_eq_true rfl, Nat.le_of_ble_eq_true rfl⟩ rfl hl.1 rfl (Nat.le_of_ble_eq_true rfl) ⟨Nat.zero_le _, Nat.zero_le _⟩ dX12_peelNow_16) hH (fun H locs hH => ?_)
    obtain ⟨r_25, w_23, hq_24, hf⟩ := am_b2_some hf
    refine am_calli (r := r_25) (w' := w_23) (am_runS (n := 1) (As := [.int r_22]) (rest := []) ⟨hx, hb, hml, hown, hts⟩ hK hE hH (k_X12_lowestOf hq_24) (am_gS am_q1610 am_q1611 am_q13 am_q1612) ⟨rfl, rfl⟩ (by decide +kernel) ⟨Nat.le_of_ble_eq_true rfl, Nat.le_of_ble_eq_true rfl⟩ rfl hl.1 rfl (Nat.le_of_ble_eq_true rfl) ⟨Nat.zero_le _, Nat.zero_le _⟩ dX12_peelNow_19) hH (fun H locs hH => ?_)
    refine lv_istore (lv' := [(4, .int r_25), (3, .int r_18), (0, .ref (G.1 + 271)), (1, .int a1), (2, .int a2)]) hx hb dX12_peelNow_22 hl (by decide) rfl (fun ls hl => ?_)
    refine lv_aload_n hx hb dX12_peelNow_24 rfl (lv_at hl 2 rfl) ?_
    refine am_get hx hb hts hK hown hH (am_o12 (p := 271) (by decide +kernel)) rfl am_inX12 17 (by decide) am_q1336 (v := .ref (G.1 + 281)) rfl dX12_peelNow_25 ?_
    refine lv_iconst (v := 0) hx hb dX12_peelNow_28 (by decide) ?_
    refine lv_iload hx hb dX12_peelNow_29 (lv_at hl 0 rfl) ?_
    refine lv_iadd hx hb dX12_peelNow_31 ?_
    refine lv_aload_n hx hb dX12_peelNow_32 rfl (lv_at hl 2 rfl) ?_
    refine lv_iload hx hb dX12_peelNow_33 (lv_at hl 0 rfl) ?_
    refine lv_iload_n hx hb dX12_peelNow_35 rfl (lv_at hl 1 rfl) ?_
    obtain ⟨r_28, w_26, hq_27, hf⟩ := am_b2_some hf
    refine am_calli (r := r_28) (w' := w_26) (am_runV (n := 2) (As := [.int r_25, .int r_18]) (rest := [.int ((0 : Int32) + r_25), .ref (G.1 + 281)]) ⟨hx, hb, hml, hown, hts⟩ hK hE hH (k_X12_wayIn hq_27) (am_gV am_q1613 am_q1615 am_qs83 am_q13 am_q1616) (am_o12 (p := 271) (by decide +kernel)) rfl ⟨rfl, rfl⟩ (by decide +kernel) ⟨Nat.le_of_ble_eq_true rfl, Nat.le_of_ble_eq_true rfl⟩ rfl hl.1 rfl (Nat.le_of_ble_eq_true rfl) ⟨Nat.zero_le _, Nat.zero_le _⟩ dX12_peelNow_36) hH (fun H locs hH => ?_)
    obtain ⟨hi_29, hf⟩ := am_chk_some hf
    obtain ⟨w_30, hw_30, hf⟩ := am_v_some hf
    refine am_iast hx hb hK hH (am_ai_of (N := 245) (by decide +kernel)) hi_29 dX12_peelNow_39 (fun H locs hH => ?_)
    rw [← hw_30] at hH
    refine lv_iload hx hb dX12_peelNow_40 (lv_at hl 0 rfl) ?_
    exact am_reti hx hb hr hlocks hH hf dX12_peelNow_42
  · have hf := (if_pos hc_19).symm.trans hf
    refine lv_iconst (v := -1) hx hb dX12_peelNow_12 (by decide) ?_
    exact am_reti hx hb hr hlocks hH hf dX12_peelNow_13

def f_X12_turnCopy_17 (a1 : Int32) (a2 : Int32) (s0 : Int32) (w : am_S) : Option am_S :=
  am_chk (s0 + a1) 245 (am_chk (s0 + a1) 245 (am_v (am_pi w 281 (s0 + a1).toNatClampNeg ((w.1 281 (s0 + a1).toNatClampNeg) ^^^ ((1 : Int32) <<< ((a2 - a2 / (24 : Int32) * (24 : Int32)) &&& 31)))) fun (w_7 : am_S) => some w_7))
def f_X12_turnCopy (a1 : Int32) (a2 : Int32) (w : am_S) : Option am_S :=
  if (24 : Int32) ≤ a2 then (f_X12_turnCopy_17 a1 a2 (20 : Int32) w) else (f_X12_turnCopy_17 a1 a2 (10 : Int32) w)
set_option maxRecDepth 100000 in
set_option maxHeartbeats 4000000 in
theorem k_X12_turnCopy {G : am_G} {l : Launch} {a1 : Int32} {a2 : Int32}  {w : am_S} {ww : am_S} (hf : f_X12_turnCopy a1 a2 w = some ww) : am_Mv G l yX12_turnCopy (Cond.code yX12_turnCopy cX12_turnCopy 3 none :: am_T) { frames := 0, cells := 0, slots := 0, locals := 0 } [.ref (G.1 + 271), .int a1, .int a2] w ww := by
  refine Met.ofW (cc := cX12_turnCopy) (maxL := 3) (ret := none) (by decide) rfl ?_
  intro p e s m args below meth c s₁ B hml hv
  obtain ⟨rfl, hx, hb, hr, hts, hown, hlocks, hK, hE, hH⟩ := am_begin B hv
  have hown : s.vm.findClass RX12 = some m.cls := hown
  show W p l e { frames := 0, cells := 0, slots := 0, locals := 0 } s m _ below meth c s.heap [] 0 0 _ _
  have P17 : ∀ (s0 : Int32) (w : am_S) (H : Heap) (locs : List Loc) (ls : Array Slot), f_X12_turnCopy_17 a1 a2 s0 w = some ww → am_H G w s H locs → lv_has ls 3 [(1, .int a1), (2, .int a2)] → W p l e { frames := 0, cells := 0, slots := 0, locals := 0 } s m [.ref (G.1 + 271), .int a1, .int a2].toArray below meth c H locs 0 0 (MQ below (va_Qv (fun (u : am_S) => u = ww) (am_U G) (am_A G)) [.ref (G.1 + 271), .int a1, .int a2].toArray s 0 0 (am_A G)) (F0 m 17 ls [.int s0, .ref (G.1 + 281)]) := by
    intro s0 w H locs ls hf hH hl
    unfold f_X12_turnCopy_17 at hf
    refine lv_iload_n hx hb dX12_turnCopy_17 rfl (lv_at hl 0 rfl) ?_
    refine lv_iadd hx hb dX12_turnCopy_18 ?_
    refine lv_dup2_11 hx hb dX12_turnCopy_19 rfl rfl ?_
    obtain ⟨hi_5, hf⟩ := am_chk_some hf
    refine am_iald hx hb hK hH (am_ai_of (N := 245) (by decide +kernel)) hi_5 dX12_turnCopy_20 ?_
    refine lv_iconst (v := 1) hx hb dX12_turnCopy_21 (by decide) ?_
    refine lv_iload_n hx hb dX12_turnCopy_22 rfl (lv_at hl 1 rfl) ?_
    refine lv_bipush (v := 24) hx hb dX12_turnCopy_23 (by decide) ?_
    refine lv_irem hx hb dX12_turnCopy_25 (by decide) ?_
    refine lv_ishl hx hb dX12_turnCopy_26 ?_
    refine lv_ixor hx hb dX12_turnCopy_27 ?_
    obtain ⟨hi_6, hf⟩ := am_chk_some hf
    obtain ⟨w_7, hw_7, hf⟩ := am_v_some hf
    refine am_iast hx hb hK hH (am_ai_of (N := 245) (by decide +kernel)) hi_6 dX12_turnCopy_28 (fun H locs hH => ?_)
    rw [← hw_7] at hH
    exact am_retv hx hb hr hlocks hH hf dX12_turnCopy_29
  refine am_enter (lv := [(0, .ref (G.1 + 271)), (1, .int a1), (2, .int a2)]) (Nat.le_of_ble_eq_true rfl) rfl (fun ls hl => ?_)
  unfold f_X12_turnCopy at hf
  refine am_start hH (fun H locs hH => ?_)
  refine lv_aload_n hx hb dX12_turnCopy_0 rfl (lv_at hl 0 rfl) ?_
  refine am_get hx hb hts hK hown hH (am_o12 (p := 271) (by decide +kernel)) rfl am_inX12 17 (by decide) am_q1336 (v := .ref (G.1 + 281)) rfl dX12_turnCopy_1 ?_
  refine lv_iload_n hx hb dX12_turnCopy_4 rfl (lv_at hl 2 rfl) ?_
  refine lv_bipush (v := 24) hx hb dX12_turnCopy_5 (by decide) ?_
  refine lv_icmp_ge (tgt := 15) hx hb dX12_turnCopy_7 (by decide) (fun hc_8 => ?_) (fun hc_8 => ?_)
  · have hf := (if_pos hc_8).symm.trans hf
    refine lv_bipush (v := 20) hx hb dX12_turnCopy_15 (by decide) ?_
    exact P17 (20 : Int32) w H locs ls hf hH (lv_sub hl [1, 2] rfl)
  · have hf := (if_neg hc_8).symm.trans hf
    refine lv_bipush (v := 10) hx hb dX12_turnCopy_10 (by decide) ?_
    refine lv_goto (tgt := 17) hx hb dX12_turnCopy_12 (by decide) ?_
    exact P17 (10 : Int32) w H locs ls hf hH (lv_sub hl [1, 2] rfl)

def f_X12_copyMany (a1 : Int32) (w : am_S) : Option (Int32 × am_S) :=
  am_chk ((10 : Int32) + a1) 245 (am_b2 (f_X12_bits (w.1 281 ((10 : Int32) + a1).toNatClampNeg) w) fun r_12 w_10 => am_chk ((20 : Int32) + a1) 245 (am_b2 (f_X12_bits (w_10.1 281 ((20 : Int32) + a1).toNatClampNeg) w_10) fun r_16 w_14 => some (r_12 + r_16, w_14)))
set_option maxRecDepth 100000 in
set_option maxHeartbeats 4000000 in
theorem k_X12_copyMany {G : am_G} {l : Launch} {a1 : Int32}  {w : am_S} {rr : Int32} {ww : am_S} (hf : f_X12_copyMany a1 w = some (rr, ww)) : am_Mi G l yX12_copyMany (Cond.code yX12_copyMany cX12_copyMany 2 (some .int) :: am_T) { frames := 1, cells := 0, slots := 0, locals := 64 } [.ref (G.1 + 271), .int a1] w rr ww := by
  refine Met.ofW (cc := cX12_copyMany) (maxL := 2) (ret := (some .int)) (by decide) rfl ?_
  intro p e s m args below meth c s₁ B hml hv
  obtain ⟨rfl, hx, hb, hr, hts, hown, hlocks, hK, hE, hH⟩ := am_begin B hv
  have hown : s.vm.findClass RX12 = some m.cls := hown
  show W p l e { frames := 1, cells := 0, slots := 0, locals := 64 } s m _ below meth c s.heap [] 0 0 _ _
  refine am_enter (lv := [(0, .ref (G.1 + 271)), (1, .int a1)]) (Nat.le_of_ble_eq_true rfl) rfl (fun ls hl => ?_)
  unfold f_X12_copyMany at hf
  refine am_start hH (fun H locs hH => ?_)
  refine lv_aload_n hx hb dX12_copyMany_0 rfl (lv_at hl 0 rfl) ?_
  refine am_get hx hb hts hK hown hH (am_o12 (p := 271) (by decide +kernel)) rfl am_inX12 17 (by decide) am_q1336 (v := .ref (G.1 + 281)) rfl dX12_copyMany_1 ?_
  refine lv_bipush (v := 10) hx hb dX12_copyMany_4 (by decide) ?_
  refine lv_iload_n hx hb dX12_copyMany_6 rfl (lv_at hl 1 rfl) ?_
  refine lv_iadd hx hb dX12_copyMany_7 ?_
  obtain ⟨hi_9, hf⟩ := am_chk_some hf
  refine am_iald hx hb hK hH (am_ai_of (N := 245) (by decide +kernel)) hi_9 dX12_copyMany_8 ?_
  obtain ⟨r_12, w_10, hq_11, hf⟩ := am_b2_some hf
  refine am_calli (r := r_12) (w' := w_10) (am_runS (n := 1) (As := [.int (w.1 281 ((10 : Int32) + a1).toNatClampNeg)]) (rest := []) ⟨hx, hb, hml, hown, hts⟩ hK hE hH (k_X12_bits hq_11) (am_gS am_q1629 am_q1630 am_q13 am_q1631) ⟨rfl, rfl⟩ (by decide +kernel) ⟨Nat.le_of_ble_eq_true rfl, Nat.le_of_ble_eq_true rfl⟩ rfl hl.1 rfl (Nat.le_of_ble_eq_true rfl) ⟨Nat.zero_le _, Nat.zero_le _⟩ dX12_copyMany_9) hH (fun H locs hH => ?_)
  refine lv_aload_n hx hb dX12_copyMany_12 rfl (lv_at hl 0 rfl) ?_
  refine am_get hx hb hts hK hown hH (am_o12 (p := 271) (by decide +kernel)) rfl am_inX12 17 (by decide) am_q1336 (v := .ref (G.1 + 281)) rfl dX12_copyMany_13 ?_
  refine lv_bipush (v := 20) hx hb dX12_copyMany_16 (by decide) ?_
  refine lv_iload_n hx hb dX12_copyMany_18 rfl (lv_at hl 1 rfl) ?_
  refine lv_iadd hx hb dX12_copyMany_19 ?_
  obtain ⟨hi_13, hf⟩ := am_chk_some hf
  refine am_iald hx hb hK hH (am_ai_of (N := 245) (by decide +kernel)) hi_13 dX12_copyMany_20 ?_
  obtain ⟨r_16, w_14, hq_15, hf⟩ := am_b2_some hf
  refine am_calli (r := r_16) (w' := w_14) (am_runS (n := 1) (As := [.int (w_10.1 281 ((20 : Int32) + a1).toNatClampNeg)]) (rest := [.int r_12]) ⟨hx, hb, hml, hown, hts⟩ hK hE hH (k_X12_bits hq_15) (am_gS am_q1629 am_q1630 am_q13 am_q1631) ⟨rfl, rfl⟩ (by decide +kernel) ⟨Nat.le_of_ble_eq_true rfl, Nat.le_of_ble_eq_true rfl⟩ rfl hl.1 rfl (Nat.le_of_ble_eq_true rfl) ⟨Nat.zero_le _, Nat.zero_le _⟩ dX12_copyMany_21) hH (fun H locs hH => ?_)
  refine lv_iadd hx hb dX12_copyMany_24 ?_
  exact am_reti hx hb hr hlocks hH hf dX12_copyMany_25

def f_X12_draw (a1 : Int32) (w : am_S) : Option (Int32 × am_S) :=
  am_v (am_pl w 271 24 (((w.2.1 271 24) * (6364136223846793005 : Int64)) + (1442695040888963407 : Int64))) fun (w_3 : am_S) => am_nzl (a1.toInt64) (some (((am_lushr (w_3.2.1 271 24) (33 : Int32)) - (am_lushr (w_3.2.1 271 24) (33 : Int32)) / (a1.toInt64) * (a1.toInt64)).toInt32, w_3))
set_option maxRecDepth 100000 in
set_option maxHeartbeats 4000000 in
theorem k_X12_draw {G : am_G} {l : Launch} {a1 : Int32}  {w : am_S} {rr : Int32} {ww : am_S} (hf : f_X12_draw a1 w = some (rr, ww)) : am_Mi G l yX12_draw (Cond.code yX12_draw cX12_draw 2 (some .int) :: am_T) { frames := 0, cells := 0, slots := 0, locals := 0 } [.ref (G.1 + 271), .int a1] w rr ww := by
  refine Met.ofW (cc := cX12_draw) (maxL := 2) (ret := (some .int)) (by decide) rfl ?_
  intro p e s m args below meth c s₁ B hml hv
  obtain ⟨rfl, hx, hb, hr, hts, hown, hlocks, hK, hE, hH⟩ := am_begin B hv
  have hown : s.vm.findClass RX12 = some m.cls := hown
  show W p l e { frames := 0, cells := 0, slots := 0, locals := 0 } s m _ below meth c s.heap [] 0 0 _ _
  refine am_enter (lv := [(0, .ref (G.1 + 271)), (1, .int a1)]) (Nat.le_of_ble_eq_true rfl) rfl (fun ls hl => ?_)
  unfold f_X12_draw at hf
  refine am_start hH (fun H locs hH => ?_)
  refine lv_aload_n hx hb dX12_draw_0 rfl (lv_at hl 0 rfl) ?_
  refine lv_aload_n hx hb dX12_draw_1 rfl (lv_at hl 0 rfl) ?_
  refine am_get hx hb hts hK hown hH (am_o12 (p := 271) (by decide +kernel)) rfl am_inX12 24 (by decide) am_q1343 (v := .long (w.2.1 271 24)) rfl dX12_draw_2 ?_
  refine lv_ldc2 (v := 6364136223846793005) hx hb hown (hts _ am_q1648) dX12_draw_5 ?_
  refine lv_lmul hx hb dX12_draw_8 ?_
  refine lv_ldc2 (v := 1442695040888963407) hx hb hown (hts _ am_q1649) dX12_draw_9 ?_
  refine lv_ladd hx hb dX12_draw_12 ?_
  obtain ⟨w_3, hw_3, hf⟩ := am_v_some hf
  refine am_putl hx hb hts hK hown hH (am_o12 (p := 271) (by decide +kernel)) rfl am_inX12 tyX12 tyX12_ok nmX12 24 (by decide) am_q1343 rfl rfl rfl (fun _ _ => Nat.le_of_ble_eq_true rfl) (fun _ _ _ => rfl) dX12_draw_13 (fun H locs hH => ?_)
  rw [← hw_3] at hH
  refine lv_aload_n hx hb dX12_draw_16 rfl (lv_at hl 0 rfl) ?_
  refine am_get hx hb hts hK hown hH (am_o12 (p := 271) (by decide +kernel)) rfl am_inX12 24 (by decide) am_q1343 (v := .long (w_3.2.1 271 24)) rfl dX12_draw_17 ?_
  refine lv_bipush (v := 33) hx hb dX12_draw_20 (by decide) ?_
  refine lv_lushr (v := am_lushr (w_3.2.1 271 24) (33 : Int32)) hx hb dX12_draw_22 rfl ?_
  refine lv_iload_n hx hb dX12_draw_23 rfl (lv_at hl 1 rfl) ?_
  refine lv_i2l hx hb dX12_draw_24 rfl ?_
  obtain ⟨hz_4, hf⟩ := am_nzl_some hf
  refine lv_lrem hx hb dX12_draw_25 hz_4 ?_
  refine lv_l2i hx hb dX12_draw_26 rfl ?_
  exact am_reti hx hb hr hlocks hH hf dX12_draw_27

def f_X12_drawDegree_11b  (x1 : Int32) (x2 : Int32) (w : am_S) : Option ((Int32 × am_S) ⊕ (Int32 × Int32 × am_S)) :=
  am_chk x2 7 (if x1 < (w.1 278 x2.toNatClampNeg) then (am_x (some (x2, w))) else (am_chk x2 7 (am_v (x1 - (w.1 278 x2.toNatClampNeg)) fun (x1_16 : Int32) => am_v (x2 + (1 : Int32)) fun (x2_17 : Int32) => some (.inr (x1_16, x2_17, w)))))
def f_X12_drawDegree_11  (x1 : Int32) (x2 : Int32) (w : am_S) : Option (Int32 × am_S) :=
  am_loop (fun (st : (Int32 × Int32 × am_S)) => f_X12_drawDegree_11b st.1 st.2.1 st.2.2) am_fuel (x1, x2, w)
def f_X12_drawDegree  (w : am_S) : Option (Int32 × am_S) :=
  am_b2 (f_X12_degreesOfAll w) fun r_20 w_18 => am_b2 (f_X12_draw r_20 w_18) fun r_23 w_21 => f_X12_drawDegree_11 r_23 (1 : Int32) w_21
set_option maxRecDepth 100000 in
set_option maxHeartbeats 4000000 in
theorem k_X12_drawDegree {G : am_G} {l : Launch}   {w : am_S} {rr : Int32} {ww : am_S} (hf : f_X12_drawDegree  w = some (rr, ww)) : am_Mi G l yX12_drawDegree (Cond.code yX12_drawDegree cX12_drawDegree 3 (some .int) :: am_T) { frames := 1, cells := 0, slots := 0, locals := 64 } [.ref (G.1 + 271)] w rr ww := by
  refine Met.ofW (cc := cX12_drawDegree) (maxL := 3) (ret := (some .int)) (by decide) rfl ?_
  intro p e s m args below meth c s₁ B hml hv
  obtain ⟨rfl, hx, hb, hr, hts, hown, hlocks, hK, hE, hH⟩ := am_begin B hv
  have hown : s.vm.findClass RX12 = some m.cls := hown
  show W p l e { frames := 1, cells := 0, slots := 0, locals := 64 } s m _ below meth c s.heap [] 0 0 _ _
  have P11 : ∀ (n1 : Nat) (x1 : Int32) (x2 : Int32) (w : am_S) (H : Heap) (locs : List Loc) (ls : Array Slot), am_loop (fun (st : (Int32 × Int32 × am_S)) => f_X12_drawDegree_11b st.1 st.2.1 st.2.2) n1 (x1, x2, w) = some (rr, ww) → am_H G w s H locs → lv_has ls 3 [(0, .ref (G.1 + 271)), (1, .int x1), (2, .int x2)] → W p l e { frames := 1, cells := 0, slots := 0, locals := 64 } s m [.ref (G.1 + 271)].toArray below meth c H locs 0 0 (MQ below (va_Qi (fun (x : Int32) (u : am_S) => x = rr ∧ u = ww) (am_U G) (am_A G)) [.ref (G.1 + 271)].toArray s 0 0 (am_A G)) (F0 m 11 ls []) := by
    intro n1
    induction n1 with
    | zero =>
      intro x1 x2 w H locs ls hf hH hl
      exact (am_loop_zero hf).elim
    | succ n1 ih1 =>
      intro x1 x2 w H locs ls hf hH hl
      obtain ⟨z1, hf, hk1⟩ := am_loop_succ hf
      have hf : f_X12_drawDegree_11b x1 x2 w = some z1 := hf
      unfold f_X12_drawDegree_11b at hf
      refine lv_iload_n hx hb dX12_drawDegree_11 rfl (lv_at hl 1 rfl) ?_
      refine lv_aload_n hx hb dX12_drawDegree_12 rfl (lv_at hl 0 rfl) ?_
      refine am_get hx hb hts hK hown hH (am_o12 (p := 271) (by decide +kernel)) rfl am_inX12 12 (by decide) am_q1331 (v := .ref (G.1 + 278)) rfl dX12_drawDegree_13 ?_
      refine lv_iload_n hx hb dX12_drawDegree_16 rfl (lv_at hl 2 rfl) ?_
      obtain ⟨hi_12, hf⟩ := am_chk_some hf
      refine am_iald hx hb hK hH (am_ai_of (N := 7) (by decide +kernel)) hi_12 dX12_drawDegree_17 ?_
      refine lv_icmp_lt (tgt := 36) hx hb dX12_drawDegree_18 (by decide) (fun hc_13 => ?_) (fun hc_13 => ?_)
      · have hf := (if_pos hc_13).symm.trans hf
        obtain ⟨y_14, hf, hzy_14⟩ := am_x_some hf
        rw [hzy_14] at hk1
        have hf := hf.trans (congrArg some (show y_14 = (rr, ww) from hk1))
        refine lv_iload_n hx hb dX12_drawDegree_36 rfl (lv_at hl 2 rfl) ?_
        exact am_reti hx hb hr hlocks hH hf dX12_drawDegree_37
      · have hf := (if_neg hc_13).symm.trans hf
        refine lv_iload_n hx hb dX12_drawDegree_21 rfl (lv_at hl 1 rfl) ?_
        refine lv_aload_n hx hb dX12_drawDegree_22 rfl (lv_at hl 0 rfl) ?_
        refine am_get hx hb hts hK hown hH (am_o12 (p := 271) (by decide +kernel)) rfl am_inX12 12 (by decide) am_q1331 (v := .ref (G.1 + 278)) rfl dX12_drawDegree_23 ?_
        refine lv_iload_n hx hb dX12_drawDegree_26 rfl (lv_at hl 2 rfl) ?_
        obtain ⟨hi_15, hf⟩ := am_chk_some hf
        refine am_iald hx hb hK hH (am_ai_of (N := 7) (by decide +kernel)) hi_15 dX12_drawDegree_27 ?_
        refine lv_isub hx hb dX12_drawDegree_28 ?_
        obtain ⟨x1_16, hx1_16, hf⟩ := am_v_some hf
        refine am_topi hx1_16 ?_
        refine lv_istore_n (lv' := [(1, .int x1_16), (0, .ref (G.1 + 271)), (2, .int x2)]) hx hb dX12_drawDegree_29 rfl hl (by decide) rfl (fun ls hl => ?_)
        obtain ⟨x2_17, hx2_17, hf⟩ := am_v_some hf
        refine lv_iinc (v := x2_17) (lv' := [(2, .int x2_17), (1, .int x1_16), (0, .ref (G.1 + 271))]) hx hb dX12_drawDegree_30 hl (k := 2) rfl (by rw [hx2_17]; rfl) (by decide) rfl (fun ls hl => ?_)
        refine lv_goto (tgt := 11) hx hb dX12_drawDegree_33 (by decide) ?_
        obtain rfl := Option.some.inj hf
        exact ih1 x1_16 x2_17 w H locs ls hk1 hH (lv_sub hl [2, 1, 0] rfl)
  refine am_enter (lv := [(0, .ref (G.1 + 271))]) (Nat.le_of_ble_eq_true rfl) rfl (fun ls hl => ?_)
  unfold f_X12_drawDegree at hf
  refine am_start hH (fun H locs hH => ?_)
  refine lv_aload_n hx hb dX12_drawDegree_0 rfl (lv_at hl 0 rfl) ?_
  refine lv_aload_n hx hb dX12_drawDegree_1 rfl (lv_at hl 0 rfl) ?_
  obtain ⟨r_20, w_18, hq_19, hf⟩ := am_b2_some hf
  refine am_calli (r := r_20) (w' := w_18) (am_runV (n := 0) (As := []) (rest := [.ref (G.1 + 271)]) ⟨hx, hb, hml, hown, hts⟩ hK hE hH (k_X12_degreesOfAll hq_19) (am_gV am_q1574 am_q1576 am_qs74 am_q13 am_q1577) (am_o12 (p := 271) (by decide +kernel)) rfl ⟨rfl, rfl⟩ (by decide +kernel) ⟨Nat.le_of_ble_eq_true rfl, Nat.le_of_ble_eq_true rfl⟩ rfl hl.1 rfl (Nat.le_of_ble_eq_true rfl) ⟨Nat.zero_le _, Nat.zero_le _⟩ dX12_drawDegree_2) hH (fun H locs hH => ?_)
  obtain ⟨r_23, w_21, hq_22, hf⟩ := am_b2_some hf
  refine am_calli (r := r_23) (w' := w_21) (am_runV (n := 1) (As := [.int r_20]) (rest := []) ⟨hx, hb, hml, hown, hts⟩ hK hE hH (k_X12_draw hq_22) (am_gV am_q1644 am_q1646 am_qs90 am_q13 am_q1647) (am_o12 (p := 271) (by decide +kernel)) rfl ⟨rfl, rfl⟩ (by decide +kernel) ⟨Nat.le_of_ble_eq_true rfl, Nat.le_of_ble_eq_true rfl⟩ rfl hl.1 rfl (Nat.le_of_ble_eq_true rfl) ⟨Nat.zero_le _, Nat.zero_le _⟩ dX12_drawDegree_5) hH (fun H locs hH => ?_)
  refine lv_istore_n (lv' := [(1, .int r_23), (0, .ref (G.1 + 271))]) hx hb dX12_drawDegree_8 rfl hl (by decide) rfl (fun ls hl => ?_)
  refine lv_iconst (v := 1) hx hb dX12_drawDegree_9 (by decide) ?_
  refine lv_istore_n (lv' := [(2, .int (1 : Int32)), (1, .int r_23), (0, .ref (G.1 + 271))]) hx hb dX12_drawDegree_10 rfl hl (by decide) rfl (fun ls hl => ?_)
  exact P11 am_fuel r_23 (1 : Int32) w_21 H locs ls hf hH (lv_sub hl [2, 1, 0] rfl)

def f_X12_drawNow_102 (a1 : Int32) (a2 : Int64) (x4 : Int32) (x5 : Int32) (x7 : Int32) (s0 : Int32) (s1 : Int32) (w : am_S) : Option (((Int32 × am_S) ⊕ (Int32 × am_S)) ⊕ (Int32 × Int32 × am_S)) :=
  am_v (s1 - s0) fun (x6_42 : Int32) => am_v (x7 + (1 : Int32)) fun (x7_43 : Int32) => some (.inr (x6_42, x7_43, w))
def f_X12_drawNow_85 (a1 : Int32) (a2 : Int64) (x4 : Int32) (x5 : Int32) (x6 : Int32) (x7 : Int32) (w : am_S) : Option (((Int32 × am_S) ⊕ (Int32 × am_S)) ⊕ (Int32 × Int32 × am_S)) :=
  am_b2 (f_X12_hasCopy a1 x7 w) fun r_46 w_44 => if r_46 = 0 then (f_X12_drawNow_102 a1 a2 x4 x5 x7 (1 : Int32) x6 w_44) else (f_X12_drawNow_102 a1 a2 x4 x5 x7 (0 : Int32) x6 w_44)
def f_X12_drawNow_70b (a1 : Int32) (a2 : Int64) (x4 : Int32) (x5 : Int32) (x6 : Int32) (x7 : Int32) (w : am_S) : Option (((Int32 × am_S) ⊕ (Int32 × am_S)) ⊕ (Int32 × Int32 × am_S)) :=
  if 0 < x6 then (f_X12_drawNow_85 a1 a2 x4 x5 x6 x7 w) else (am_b2 (f_X12_hasCopy a1 x7 w) fun r_51 w_49 => if r_51 = 0 then (am_x (am_b1 (f_X12_turnCopy a1 x7 w_49) fun w_54 => am_v (x5 + (1 : Int32)) fun (x5_56 : Int32) => some (.inr (x5_56, w_54)))) else (f_X12_drawNow_85 a1 a2 x4 x5 x6 x7 w_49))
def f_X12_drawNow_70 (a1 : Int32) (a2 : Int64) (x4 : Int32) (x5 : Int32) (x6 : Int32) (x7 : Int32) (w : am_S) : Option ((Int32 × am_S) ⊕ (Int32 × am_S)) :=
  am_loop (fun (st : (Int32 × Int32 × am_S)) => f_X12_drawNow_70b a1 a2 x4 x5 st.1 st.2.1 st.2.2) am_fuel (x6, x7, w)
def f_X12_drawNow_42b (a1 : Int32) (a2 : Int64) (x4 : Int32) (x5 : Int32) (w : am_S) : Option ((Int32 × am_S) ⊕ (Int32 × am_S)) :=
  if x4 ≤ x5 then (am_x (am_b2 (f_X12_copyMany a1 w) fun r_61 w_59 => some (r_61, w_59))) else (am_b2 (f_X12_widthOf a1 w) fun r_64 w_62 => am_b2 (f_X12_draw (r_64 - x5) w_62) fun r_67 w_65 => am_b2 (f_X12_beginOf a1 w_65) fun r_70 w_68 => f_X12_drawNow_70 a1 a2 x4 x5 r_67 r_70 w_68)
def f_X12_drawNow_42 (a1 : Int32) (a2 : Int64) (x4 : Int32) (x5 : Int32) (w : am_S) : Option (Int32 × am_S) :=
  am_loop (fun (st : (Int32 × am_S)) => f_X12_drawNow_42b a1 a2 x4 st.1 st.2) am_fuel (x5, w)
def f_X12_drawNow (a1 : Int32) (a2 : Int64) (w : am_S) : Option (Int32 × am_S) :=
  am_v (am_pl w 271 24 a2) fun (w_71 : am_S) => am_b2 (f_X12_drawDegree w_71) fun r_74 w_72 => am_b2 (f_X12_widthOf a1 w_72) fun r_77 w_75 => am_b2 (f_J9_min_7cf53 r_74 r_77 w_75) fun r_80 w_78 => am_chk ((10 : Int32) + a1) 245 (am_v (am_pi w_78 281 ((10 : Int32) + a1).toNatClampNeg (0 : Int32)) fun (w_82 : am_S) => am_chk ((20 : Int32) + a1) 245 (am_v (am_pi w_82 281 ((20 : Int32) + a1).toNatClampNeg (0 : Int32)) fun (w_84 : am_S) => f_X12_drawNow_42 a1 a2 r_80 (0 : Int32) w_84))
set_option maxRecDepth 100000 in
set_option maxHeartbeats 4000000 in
theorem k_X12_drawNow {G : am_G} {l : Launch} {a1 : Int32} {a2 : Int64}  {w : am_S} {rr : Int32} {ww : am_S} (hf : f_X12_drawNow a1 a2 w = some (rr, ww)) : am_Mi G l yX12_drawNow (Cond.code yX12_drawNow cX12_drawNow 8 (some .int) :: am_T) { frames := 2, cells := 0, slots := 0, locals := 128 } [.ref (G.1 + 271), .int a1, .long a2] w rr ww := by
  refine Met.ofW (cc := cX12_drawNow) (maxL := 8) (ret := (some .int)) (by decide) rfl ?_
  intro p e s m args below meth c s₁ B hml hv
  obtain ⟨rfl, hx, hb, hr, hts, hown, hlocks, hK, hE, hH⟩ := am_begin B hv
  have hown : s.vm.findClass RX12 = some m.cls := hown
  show W p l e { frames := 2, cells := 0, slots := 0, locals := 128 } s m _ below meth c s.heap [] 0 0 _ _
  have P42 : ∀ (x4 : Int32) (n1 : Nat) (x5 : Int32) (w : am_S) (H : Heap) (locs : List Loc) (ls : Array Slot), am_loop (fun (st : (Int32 × am_S)) => f_X12_drawNow_42b a1 a2 x4 st.1 st.2) n1 (x5, w) = some (rr, ww) → am_H G w s H locs → lv_has ls 8 [(0, .ref (G.1 + 271)), (1, .int a1), (4, .int x4), (5, .int x5)] → W p l e { frames := 2, cells := 0, slots := 0, locals := 128 } s m [.ref (G.1 + 271), .int a1, .long a2].toArray below meth c H locs 0 0 (MQ below (va_Qi (fun (x : Int32) (u : am_S) => x = rr ∧ u = ww) (am_U G) (am_A G)) [.ref (G.1 + 271), .int a1, .long a2].toArray s 0 0 (am_A G)) (F0 m 42 ls []) := by
    intro x4 n1
    induction n1 with
    | zero =>
      intro x5 w H locs ls hf hH hl
      exact (am_loop_zero hf).elim
    | succ n1 ih1 =>
      intro x5 w H locs ls hf hH hl
      obtain ⟨z1, hf, hk1⟩ := am_loop_succ hf
      have hf : f_X12_drawNow_42b a1 a2 x4 x5 w = some z1 := hf
      have P70 : ∀ (x5 : Int32) (n2 : Nat) (x6 : Int32) (x7 : Int32) (w : am_S) (z1 : ((Int32 × am_S) ⊕ (Int32 × am_S))) (H : Heap) (locs : List Loc) (ls : Array Slot), am_loop (fun (st : (Int32 × Int32 × am_S)) => f_X12_drawNow_70b a1 a2 x4 x5 st.1 st.2.1 st.2.2) n2 (x6, x7, w) = some z1 → am_lk (fun (st : (Int32 × am_S)) => f_X12_drawNow_42b a1 a2 x4 st.1 st.2) n1 (rr, ww) z1 → am_H G w s H locs → lv_has ls 8 [(0, .ref (G.1 + 271)), (1, .int a1), (4, .int x4), (5, .int x5), (6, .int x6), (7, .int x7)] → W p l e { frames := 2, cells := 0, slots := 0, locals := 128 } s m [.ref (G.1 + 271), .int a1, .long a2].toArray below meth c H locs 0 0 (MQ below (va_Qi (fun (x : Int32) (u : am_S) => x = rr ∧ u = ww) (am_U G) (am_A G)) [.ref (G.1 + 271), .int a1, .long a2].toArray s 0 0 (am_A G)) (F0 m 70 ls []) := by
        intro x5 n2
        induction n2 with
        | zero =>
          intro x6 x7 w z1 H locs ls hf hk1 hH hl
          exact (am_loop_zero hf).elim
        | succ n2 ih2 =>
          intro x6 x7 w z1 H locs ls hf hk1 hH hl
          obtain ⟨z2, hf, hk2⟩ := am_loop_succ hf
          have hf : f_X12_drawNow_70b a1 a2 x4 x5 x6 x7 w = some z2 := hf
          have P102 : ∀ (x7 : Int32) (s0 : Int32) (s1 : Int32) (w : am_S) (z2 : (((Int32 × am_S) ⊕ (Int32 × am_S)) ⊕ (Int32 × Int32 × am_S))) (H : Heap) (locs : List Loc) (ls : Array Slot), f_X12_drawNow_102 a1 a2 x4 x5 x7 s0 s1 w = some z2 → am_lk (fun (st : (Int32 × Int32 × am_S)) => f_X12_drawNow_70b a1 a2 x4 x5 st.1 st.2.1 st.2.2) n2 z1 z2 → am_H G w s H locs → lv_has ls 8 [(0, .ref (G.1 + 271)), (1, .int a1), (4, .int x4), (5, .int x5), (7, .int x7)] → W p l e { frames := 2, cells := 0, slots := 0, locals := 128 } s m [.ref (G.1 + 271), .int a1, .long a2].toArray below meth c H locs 0 0 (MQ below (va_Qi (fun (x : Int32) (u : am_S) => x = rr ∧ u = ww) (am_U G) (am_A G)) [.ref (G.1 + 271), .int a1, .long a2].toArray s 0 0 (am_A G)) (F0 m 102 ls [.int s0, .int s1]) := by
            intro x7 s0 s1 w z2 H locs ls hf hk2 hH hl
            unfold f_X12_drawNow_102 at hf
            refine lv_isub hx hb dX12_drawNow_102 ?_
            obtain ⟨x6_42, hx6_42, hf⟩ := am_v_some hf
            refine am_topi hx6_42 ?_
            refine lv_istore (lv' := [(6, .int x6_42), (0, .ref (G.1 + 271)), (1, .int a1), (4, .int x4), (5, .int x5), (7, .int x7)]) hx hb dX12_drawNow_103 hl (by decide) rfl (fun ls hl => ?_)
            obtain ⟨x7_43, hx7_43, hf⟩ := am_v_some hf
            refine lv_iinc (v := x7_43) (lv' := [(7, .int x7_43), (6, .int x6_42), (0, .ref (G.1 + 271)), (1, .int a1), (4, .int x4), (5, .int x5)]) hx hb dX12_drawNow_105 hl (k := 5) rfl (by rw [hx7_43]; rfl) (by decide) rfl (fun ls hl => ?_)
            refine lv_goto (tgt := 70) hx hb dX12_drawNow_108 (by decide) ?_
            obtain rfl := Option.some.inj hf
            exact ih2 x6_42 x7_43 w z1 H locs ls hk2 hk1 hH (lv_sub hl [2, 3, 4, 5, 1, 0] rfl)
          have P85 : ∀ (x6 : Int32) (x7 : Int32) (w : am_S) (z2 : (((Int32 × am_S) ⊕ (Int32 × am_S)) ⊕ (Int32 × Int32 × am_S))) (H : Heap) (locs : List Loc) (ls : Array Slot), f_X12_drawNow_85 a1 a2 x4 x5 x6 x7 w = some z2 → am_lk (fun (st : (Int32 × Int32 × am_S)) => f_X12_drawNow_70b a1 a2 x4 x5 st.1 st.2.1 st.2.2) n2 z1 z2 → am_H G w s H locs → lv_has ls 8 [(0, .ref (G.1 + 271)), (1, .int a1), (4, .int x4), (5, .int x5), (6, .int x6), (7, .int x7)] → W p l e { frames := 2, cells := 0, slots := 0, locals := 128 } s m [.ref (G.1 + 271), .int a1, .long a2].toArray below meth c H locs 0 0 (MQ below (va_Qi (fun (x : Int32) (u : am_S) => x = rr ∧ u = ww) (am_U G) (am_A G)) [.ref (G.1 + 271), .int a1, .long a2].toArray s 0 0 (am_A G)) (F0 m 85 ls []) := by
            intro x6 x7 w z2 H locs ls hf hk2 hH hl
            unfold f_X12_drawNow_85 at hf
            refine lv_iload hx hb dX12_drawNow_85 (lv_at hl 4 rfl) ?_
            refine lv_aload_n hx hb dX12_drawNow_87 rfl (lv_at hl 0 rfl) ?_
            refine lv_iload_n hx hb dX12_drawNow_88 rfl (lv_at hl 1 rfl) ?_
            refine lv_iload hx hb dX12_drawNow_89 (lv_at hl 5 rfl) ?_
            obtain ⟨r_46, w_44, hq_45, hf⟩ := am_b2_some hf
            refine am_calli (r := r_46) (w' := w_44) (am_runV (n := 2) (As := [.int a1, .int x7]) (rest := [.int x6]) ⟨hx, hb, hml, hown, hts⟩ hK hE hH (k_X12_hasCopy hq_45) (am_gV am_q1538 am_q1540 am_qs65 am_q13 am_q1541) (am_o12 (p := 271) (by decide +kernel)) rfl ⟨rfl, rfl⟩ (by decide +kernel) ⟨Nat.le_of_ble_eq_true rfl, Nat.le_of_ble_eq_true rfl⟩ rfl hl.1 rfl (Nat.le_of_ble_eq_true rfl) ⟨Nat.zero_le _, Nat.zero_le _⟩ dX12_drawNow_91) hH (fun H locs hH => ?_)
            refine lv_if_eq (tgt := 101) hx hb dX12_drawNow_94 (by decide) (fun hc_47 => ?_) (fun hc_47 => ?_)
            · have hf := (if_pos hc_47).symm.trans hf
              refine lv_iconst (v := 1) hx hb dX12_drawNow_101 (by decide) ?_
              exact P102 x7 (1 : Int32) x6 w_44 z2 H locs ls hf hk2 hH (lv_sub hl [0, 1, 2, 3, 5] rfl)
            · have hf := (if_neg hc_47).symm.trans hf
              refine lv_iconst (v := 0) hx hb dX12_drawNow_97 (by decide) ?_
              refine lv_goto (tgt := 102) hx hb dX12_drawNow_98 (by decide) ?_
              exact P102 x7 (0 : Int32) x6 w_44 z2 H locs ls hf hk2 hH (lv_sub hl [0, 1, 2, 3, 5] rfl)
          unfold f_X12_drawNow_70b at hf
          refine lv_iload hx hb dX12_drawNow_70 (lv_at hl 4 rfl) ?_
          refine lv_if_gt (tgt := 85) hx hb dX12_drawNow_72 (by decide) (fun hc_48 => ?_) (fun hc_48 => ?_)
          · have hf := (if_pos hc_48).symm.trans hf
            exact P85 x6 x7 w z2 H locs ls hf hk2 hH (lv_sub hl [0, 1, 2, 3, 4, 5] rfl)
          · have hf := (if_neg hc_48).symm.trans hf
            refine lv_aload_n hx hb dX12_drawNow_75 rfl (lv_at hl 0 rfl) ?_
            refine lv_iload_n hx hb dX12_drawNow_76 rfl (lv_at hl 1 rfl) ?_
            refine lv_iload hx hb dX12_drawNow_77 (lv_at hl 5 rfl) ?_
            obtain ⟨r_51, w_49, hq_50, hf⟩ := am_b2_some hf
            refine am_calli (r := r_51) (w' := w_49) (am_runV (n := 2) (As := [.int a1, .int x7]) (rest := []) ⟨hx, hb, hml, hown, hts⟩ hK hE hH (k_X12_hasCopy hq_50) (am_gV am_q1538 am_q1540 am_qs65 am_q13 am_q1541) (am_o12 (p := 271) (by decide +kernel)) rfl ⟨rfl, rfl⟩ (by decide +kernel) ⟨Nat.le_of_ble_eq_true rfl, Nat.le_of_ble_eq_true rfl⟩ rfl hl.1 rfl (Nat.le_of_ble_eq_true rfl) ⟨Nat.zero_le _, Nat.zero_le _⟩ dX12_drawNow_79) hH (fun H locs hH => ?_)
            refine lv_if_eq (tgt := 111) hx hb dX12_drawNow_82 (by decide) (fun hc_52 => ?_) (fun hc_52 => ?_)
            · have hf := (if_pos hc_52).symm.trans hf
              obtain ⟨y_53, hf, hzy_53⟩ := am_x_some hf
              rw [hzy_53] at hk2
              have hf := hf.trans (congrArg some (show y_53 = z1 from hk2))
              refine lv_aload_n hx hb dX12_drawNow_111 rfl (lv_at hl 0 rfl) ?_
              refine lv_iload_n hx hb dX12_drawNow_112 rfl (lv_at hl 1 rfl) ?_
              refine lv_iload hx hb dX12_drawNow_113 (lv_at hl 5 rfl) ?_
              obtain ⟨w_54, hq_55, hf⟩ := am_b1_some hf
              refine am_callv (w' := w_54) (am_runV (n := 2) (As := [.int a1, .int x7]) (rest := []) ⟨hx, hb, hml, hown, hts⟩ hK hE hH (k_X12_turnCopy hq_55) (am_gV am_q1498 am_q1500 am_qs56 am_q13 am_q1501) (am_o12 (p := 271) (by decide +kernel)) rfl ⟨rfl, rfl⟩ (by decide +kernel) ⟨Nat.le_of_ble_eq_true rfl, Nat.le_of_ble_eq_true rfl⟩ rfl hl.1 rfl (Nat.le_of_ble_eq_true rfl) ⟨Nat.zero_le _, Nat.zero_le _⟩ dX12_drawNow_115) hH (fun H locs hH => ?_)
              obtain ⟨x5_56, hx5_56, hf⟩ := am_v_some hf
              refine lv_iinc (v := x5_56) (lv' := [(5, .int x5_56), (0, .ref (G.1 + 271)), (1, .int a1), (4, .int x4), (6, .int x6), (7, .int x7)]) hx hb dX12_drawNow_118 hl (k := 3) rfl (by rw [hx5_56]; rfl) (by decide) rfl (fun ls hl => ?_)
              refine lv_goto (tgt := 42) hx hb dX12_drawNow_121 (by decide) ?_
              obtain rfl := Option.some.inj hf
              exact ih1 x5_56 w_54 H locs ls hk1 hH (lv_sub hl [1, 2, 3, 0] rfl)
            · have hf := (if_neg hc_52).symm.trans hf
              exact P85 x6 x7 w_49 z2 H locs ls hf hk2 hH (lv_sub hl [0, 1, 2, 3, 4, 5] rfl)
      unfold f_X12_drawNow_42b at hf
      refine lv_iload hx hb dX12_drawNow_42 (lv_at hl 3 rfl) ?_
      refine lv_iload hx hb dX12_drawNow_44 (lv_at hl 2 rfl) ?_
      refine lv_icmp_ge (tgt := 124) hx hb dX12_drawNow_46 (by decide) (fun hc_57 => ?_) (fun hc_57 => ?_)
      · have hf := (if_pos hc_57).symm.trans hf
        obtain ⟨y_58, hf, hzy_58⟩ := am_x_some hf
        rw [hzy_58] at hk1
        have hf := hf.trans (congrArg some (show y_58 = (rr, ww) from hk1))
        refine lv_aload_n hx hb dX12_drawNow_124 rfl (lv_at hl 0 rfl) ?_
        refine lv_iload_n hx hb dX12_drawNow_125 rfl (lv_at hl 1 rfl) ?_
        obtain ⟨r_61, w_59, hq_60, hf⟩ := am_b2_some hf
        refine am_calli (r := r_61) (w' := w_59) (am_runV (n := 1) (As := [.int a1]) (rest := []) ⟨hx, hb, hml, hown, hts⟩ hK hE hH (k_X12_copyMany hq_60) (am_gV am_q1632 am_q1634 am_qs87 am_q13 am_q1635) (am_o12 (p := 271) (by decide +kernel)) rfl ⟨rfl, rfl⟩ (by decide +kernel) ⟨Nat.le_of_ble_eq_true rfl, Nat.le_of_ble_eq_true rfl⟩ rfl hl.1 rfl (Nat.le_of_ble_eq_true rfl) ⟨Nat.zero_le _, Nat.zero_le _⟩ dX12_drawNow_126) hH (fun H locs hH => ?_)
        exact am_reti hx hb hr hlocks hH hf dX12_drawNow_129
      · have hf := (if_neg hc_57).symm.trans hf
        refine lv_aload_n hx hb dX12_drawNow_49 rfl (lv_at hl 0 rfl) ?_
        refine lv_aload_n hx hb dX12_drawNow_50 rfl (lv_at hl 0 rfl) ?_
        refine lv_iload_n hx hb dX12_drawNow_51 rfl (lv_at hl 1 rfl) ?_
        obtain ⟨r_64, w_62, hq_63, hf⟩ := am_b2_some hf
        refine am_calli (r := r_64) (w' := w_62) (am_runV (n := 1) (As := [.int a1]) (rest := [.ref (G.1 + 271)]) ⟨hx, hb, hml, hown, hts⟩ hK hE hH (k_X12_widthOf hq_63) (am_gV am_q1570 am_q1572 am_qs73 am_q13 am_q1573) (am_o12 (p := 271) (by decide +kernel)) rfl ⟨rfl, rfl⟩ (by decide +kernel) ⟨Nat.le_of_ble_eq_true rfl, Nat.le_of_ble_eq_true rfl⟩ rfl hl.1 rfl (Nat.le_of_ble_eq_true rfl) ⟨Nat.zero_le _, Nat.zero_le _⟩ dX12_drawNow_52) hH (fun H locs hH => ?_)
        refine lv_iload hx hb dX12_drawNow_55 (lv_at hl 3 rfl) ?_
        refine lv_isub hx hb dX12_drawNow_57 ?_
        obtain ⟨r_67, w_65, hq_66, hf⟩ := am_b2_some hf
        refine am_calli (r := r_67) (w' := w_65) (am_runV (n := 1) (As := [.int (r_64 - x5)]) (rest := []) ⟨hx, hb, hml, hown, hts⟩ hK hE hH (k_X12_draw hq_66) (am_gV am_q1644 am_q1646 am_qs90 am_q13 am_q1647) (am_o12 (p := 271) (by decide +kernel)) rfl ⟨rfl, rfl⟩ (by decide +kernel) ⟨Nat.le_of_ble_eq_true rfl, Nat.le_of_ble_eq_true rfl⟩ rfl hl.1 rfl (Nat.le_of_ble_eq_true rfl) ⟨Nat.zero_le _, Nat.zero_le _⟩ dX12_drawNow_58) hH (fun H locs hH => ?_)
        refine lv_istore (lv' := [(6, .int r_67), (0, .ref (G.1 + 271)), (1, .int a1), (4, .int x4), (5, .int x5)]) hx hb dX12_drawNow_61 hl (by decide) rfl (fun ls hl => ?_)
        refine lv_aload_n hx hb dX12_drawNow_63 rfl (lv_at hl 1 rfl) ?_
        refine lv_iload_n hx hb dX12_drawNow_64 rfl (lv_at hl 2 rfl) ?_
        obtain ⟨r_70, w_68, hq_69, hf⟩ := am_b2_some hf
        refine am_calli (r := r_70) (w' := w_68) (am_runV (n := 1) (As := [.int a1]) (rest := []) ⟨hx, hb, hml, hown, hts⟩ hK hE hH (k_X12_beginOf hq_69) (am_gV am_q1566 am_q1568 am_qs72 am_q13 am_q1569) (am_o12 (p := 271) (by decide +kernel)) rfl ⟨rfl, rfl⟩ (by decide +kernel) ⟨Nat.le_of_ble_eq_true rfl, Nat.le_of_ble_eq_true rfl⟩ rfl hl.1 rfl (Nat.le_of_ble_eq_true rfl) ⟨Nat.zero_le _, Nat.zero_le _⟩ dX12_drawNow_65) hH (fun H locs hH => ?_)
        refine lv_istore (lv' := [(7, .int r_70), (6, .int r_67), (0, .ref (G.1 + 271)), (1, .int a1), (4, .int x4), (5, .int x5)]) hx hb dX12_drawNow_68 hl (by decide) rfl (fun ls hl => ?_)
        exact P70 x5 am_fuel r_67 r_70 w_68 z1 H locs ls hf hk1 hH (lv_sub hl [2, 3, 4, 5, 1, 0] rfl)
  refine am_enter (lv := [(0, .ref (G.1 + 271)), (1, .int a1), (2, .long a2)]) (Nat.le_of_ble_eq_true rfl) rfl (fun ls hl => ?_)
  unfold f_X12_drawNow at hf
  refine am_start hH (fun H locs hH => ?_)
  refine lv_aload_n hx hb dX12_drawNow_0 rfl (lv_at hl 0 rfl) ?_
  refine lv_lload_n hx hb dX12_drawNow_1 rfl (lv_at hl 2 rfl) ?_
  obtain ⟨w_71, hw_71, hf⟩ := am_v_some hf
  refine am_putl hx hb hts hK hown hH (am_o12 (p := 271) (by decide +kernel)) rfl am_inX12 tyX12 tyX12_ok nmX12 24 (by decide) am_q1343 rfl rfl rfl (fun _ _ => Nat.le_of_ble_eq_true rfl) (fun _ _ _ => rfl) dX12_drawNow_2 (fun H locs hH => ?_)
  rw [← hw_71] at hH
  refine lv_aload_n hx hb dX12_drawNow_5 rfl (lv_at hl 0 rfl) ?_
  obtain ⟨r_74, w_72, hq_73, hf⟩ := am_b2_some hf
  refine am_calli (r := r_74) (w' := w_72) (am_runV (n := 0) (As := []) (rest := []) ⟨hx, hb, hml, hown, hts⟩ hK hE hH (k_X12_drawDegree hq_73) (am_gV am_q1640 am_q1642 am_qs89 am_q13 am_q1643) (am_o12 (p := 271) (by decide +kernel)) rfl ⟨rfl, rfl⟩ (by decide +kernel) ⟨Nat.le_of_ble_eq_true rfl, Nat.le_of_ble_eq_true rfl⟩ rfl hl.1 rfl (Nat.le_of_ble_eq_true rfl) ⟨Nat.zero_le _, Nat.zero_le _⟩ dX12_drawNow_6) hH (fun H locs hH => ?_)
  refine lv_aload_n hx hb dX12_drawNow_9 rfl (lv_at hl 0 rfl) ?_
  refine lv_iload_n hx hb dX12_drawNow_10 rfl (lv_at hl 1 rfl) ?_
  obtain ⟨r_77, w_75, hq_76, hf⟩ := am_b2_some hf
  refine am_calli (r := r_77) (w' := w_75) (am_runV (n := 1) (As := [.int a1]) (rest := [.int r_74]) ⟨hx, hb, hml, hown, hts⟩ hK hE hH (k_X12_widthOf hq_76) (am_gV am_q1570 am_q1572 am_qs73 am_q13 am_q1573) (am_o12 (p := 271) (by decide +kernel)) rfl ⟨rfl, rfl⟩ (by decide +kernel) ⟨Nat.le_of_ble_eq_true rfl, Nat.le_of_ble_eq_true rfl⟩ rfl hl.1 rfl (Nat.le_of_ble_eq_true rfl) ⟨Nat.zero_le _, Nat.zero_le _⟩ dX12_drawNow_11) hH (fun H locs hH => ?_)
  obtain ⟨r_80, w_78, hq_79, hf⟩ := am_b2_some hf
  refine am_calli (r := r_80) (w' := w_78) (am_runS (n := 2) (As := [.int r_74, .int r_77]) (rest := []) ⟨hx, hb, hml, hown, hts⟩ hK hE hH (k_J9_min_7cf53 hq_79) (am_gS am_q1650 am_q478 am_q18 am_q479) ⟨rfl, rfl⟩ (by decide +kernel) ⟨Nat.le_of_ble_eq_true rfl, Nat.le_of_ble_eq_true rfl⟩ rfl hl.1 rfl (Nat.le_of_ble_eq_true rfl) ⟨Nat.zero_le _, Nat.zero_le _⟩ dX12_drawNow_14) hH (fun H locs hH => ?_)
  refine lv_istore (lv' := [(4, .int r_80), (0, .ref (G.1 + 271)), (1, .int a1), (2, .long a2)]) hx hb dX12_drawNow_17 hl (by decide) rfl (fun ls hl => ?_)
  refine lv_aload_n hx hb dX12_drawNow_19 rfl (lv_at hl 1 rfl) ?_
  refine am_get hx hb hts hK hown hH (am_o12 (p := 271) (by decide +kernel)) rfl am_inX12 17 (by decide) am_q1336 (v := .ref (G.1 + 281)) rfl dX12_drawNow_20 ?_
  refine lv_bipush (v := 10) hx hb dX12_drawNow_23 (by decide) ?_
  refine lv_iload_n hx hb dX12_drawNow_25 rfl (lv_at hl 2 rfl) ?_
  refine lv_iadd hx hb dX12_drawNow_26 ?_
  refine lv_iconst (v := 0) hx hb dX12_drawNow_27 (by decide) ?_
  obtain ⟨hi_81, hf⟩ := am_chk_some hf
  obtain ⟨w_82, hw_82, hf⟩ := am_v_some hf
  refine am_iast hx hb hK hH (am_ai_of (N := 245) (by decide +kernel)) hi_81 dX12_drawNow_28 (fun H locs hH => ?_)
  rw [← hw_82] at hH
  refine lv_aload_n hx hb dX12_drawNow_29 rfl (lv_at hl 1 rfl) ?_
  refine am_get hx hb hts hK hown hH (am_o12 (p := 271) (by decide +kernel)) rfl am_inX12 17 (by decide) am_q1336 (v := .ref (G.1 + 281)) rfl dX12_drawNow_30 ?_
  refine lv_bipush (v := 20) hx hb dX12_drawNow_33 (by decide) ?_
  refine lv_iload_n hx hb dX12_drawNow_35 rfl (lv_at hl 2 rfl) ?_
  refine lv_iadd hx hb dX12_drawNow_36 ?_
  refine lv_iconst (v := 0) hx hb dX12_drawNow_37 (by decide) ?_
  obtain ⟨hi_83, hf⟩ := am_chk_some hf
  obtain ⟨w_84, hw_84, hf⟩ := am_v_some hf
  refine am_iast hx hb hK hH (am_ai_of (N := 245) (by decide +kernel)) hi_83 dX12_drawNow_38 (fun H locs hH => ?_)
  rw [← hw_84] at hH
  refine lv_iconst (v := 0) hx hb dX12_drawNow_39 (by decide) ?_
  refine lv_istore (lv' := [(5, .int (0 : Int32)), (4, .int r_80), (0, .ref (G.1 + 271)), (1, .int a1), (2, .long a2)]) hx hb dX12_drawNow_40 hl (by decide) rfl (fun ls hl => ?_)
  exact P42 r_80 am_fuel (0 : Int32) w_84 H locs ls hf hH (lv_sub hl [2, 3, 1, 0] rfl)

def f_X12_fileNow (a1 : Int32) (a2 : Int32) (w : am_S) : Option (Int32 × am_S) :=
  am_b2 (f_X12_shelfAt a1 w) fun r_13 w_11 => am_chk r_13 245 (am_chk r_13 245 (am_v (am_pi w_11 281 r_13.toNatClampNeg ((w_11.1 281 r_13.toNatClampNeg) + (1 : Int32))) fun (w_16 : am_S) => am_chk r_13 245 (am_chk (r_13 + (w_16.1 281 r_13.toNatClampNeg)) 245 (am_v (am_pi w_16 281 (r_13 + (w_16.1 281 r_13.toNatClampNeg)).toNatClampNeg a2) fun (w_19 : am_S) => am_chk r_13 245 (some ((w_19.1 281 r_13.toNatClampNeg) - (1 : Int32), w_19))))))
set_option maxRecDepth 100000 in
set_option maxHeartbeats 4000000 in
theorem k_X12_fileNow {G : am_G} {l : Launch} {a1 : Int32} {a2 : Int32}  {w : am_S} {rr : Int32} {ww : am_S} (hf : f_X12_fileNow a1 a2 w = some (rr, ww)) : am_Mi G l yX12_fileNow (Cond.code yX12_fileNow cX12_fileNow 4 (some .int) :: am_T) { frames := 1, cells := 0, slots := 0, locals := 64 } [.ref (G.1 + 271), .int a1, .int a2] w rr ww := by
  refine Met.ofW (cc := cX12_fileNow) (maxL := 4) (ret := (some .int)) (by decide) rfl ?_
  intro p e s m args below meth c s₁ B hml hv
  obtain ⟨rfl, hx, hb, hr, hts, hown, hlocks, hK, hE, hH⟩ := am_begin B hv
  have hown : s.vm.findClass RX12 = some m.cls := hown
  show W p l e { frames := 1, cells := 0, slots := 0, locals := 64 } s m _ below meth c s.heap [] 0 0 _ _
  refine am_enter (lv := [(0, .ref (G.1 + 271)), (1, .int a1), (2, .int a2)]) (Nat.le_of_ble_eq_true rfl) rfl (fun ls hl => ?_)
  unfold f_X12_fileNow at hf
  refine am_start hH (fun H locs hH => ?_)
  refine lv_aload_n hx hb dX12_fileNow_0 rfl (lv_at hl 0 rfl) ?_
  refine lv_iload_n hx hb dX12_fileNow_1 rfl (lv_at hl 1 rfl) ?_
  obtain ⟨r_13, w_11, hq_12, hf⟩ := am_b2_some hf
  refine am_calli (r := r_13) (w' := w_11) (am_runV (n := 1) (As := [.int a1]) (rest := []) ⟨hx, hb, hml, hown, hts⟩ hK hE hH (k_X12_shelfAt hq_12) (am_gV am_q1582 am_q1584 am_qs76 am_q13 am_q1585) (am_o12 (p := 271) (by decide +kernel)) rfl ⟨rfl, rfl⟩ (by decide +kernel) ⟨Nat.le_of_ble_eq_true rfl, Nat.le_of_ble_eq_true rfl⟩ rfl hl.1 rfl (Nat.le_of_ble_eq_true rfl) ⟨Nat.zero_le _, Nat.zero_le _⟩ dX12_fileNow_2) hH (fun H locs hH => ?_)
  refine lv_istore_n (lv' := [(3, .int r_13), (0, .ref (G.1 + 271)), (1, .int a1), (2, .int a2)]) hx hb dX12_fileNow_5 rfl hl (by decide) rfl (fun ls hl => ?_)
  refine lv_aload_n hx hb dX12_fileNow_6 rfl (lv_at hl 1 rfl) ?_
  refine am_get hx hb hts hK hown hH (am_o12 (p := 271) (by decide +kernel)) rfl am_inX12 17 (by decide) am_q1336 (v := .ref (G.1 + 281)) rfl dX12_fileNow_7 ?_
  refine lv_iload_n hx hb dX12_fileNow_10 rfl (lv_at hl 0 rfl) ?_
  refine lv_dup2_11 hx hb dX12_fileNow_11 rfl rfl ?_
  obtain ⟨hi_14, hf⟩ := am_chk_some hf
  refine am_iald hx hb hK hH (am_ai_of (N := 245) (by decide +kernel)) hi_14 dX12_fileNow_12 ?_
  refine lv_iconst (v := 1) hx hb dX12_fileNow_13 (by decide) ?_
  refine lv_iadd hx hb dX12_fileNow_14 ?_
  obtain ⟨hi_15, hf⟩ := am_chk_some hf
  obtain ⟨w_16, hw_16, hf⟩ := am_v_some hf
  refine am_iast hx hb hK hH (am_ai_of (N := 245) (by decide +kernel)) hi_15 dX12_fileNow_15 (fun H locs hH => ?_)
  rw [← hw_16] at hH
  refine lv_aload_n hx hb dX12_fileNow_16 rfl (lv_at hl 1 rfl) ?_
  refine am_get hx hb hts hK hown hH (am_o12 (p := 271) (by decide +kernel)) rfl am_inX12 17 (by decide) am_q1336 (v := .ref (G.1 + 281)) rfl dX12_fileNow_17 ?_
  refine lv_iload_n hx hb dX12_fileNow_20 rfl (lv_at hl 0 rfl) ?_
  refine lv_aload_n hx hb dX12_fileNow_21 rfl (lv_at hl 1 rfl) ?_
  refine am_get hx hb hts hK hown hH (am_o12 (p := 271) (by decide +kernel)) rfl am_inX12 17 (by decide) am_q1336 (v := .ref (G.1 + 281)) rfl dX12_fileNow_22 ?_
  refine lv_iload_n hx hb dX12_fileNow_25 rfl (lv_at hl 0 rfl) ?_
  obtain ⟨hi_17, hf⟩ := am_chk_some hf
  refine am_iald hx hb hK hH (am_ai_of (N := 245) (by decide +kernel)) hi_17 dX12_fileNow_26 ?_
  refine lv_iadd hx hb dX12_fileNow_27 ?_
  refine lv_iload_n hx hb dX12_fileNow_28 rfl (lv_at hl 3 rfl) ?_
  obtain ⟨hi_18, hf⟩ := am_chk_some hf
  obtain ⟨w_19, hw_19, hf⟩ := am_v_some hf
  refine am_iast hx hb hK hH (am_ai_of (N := 245) (by decide +kernel)) hi_18 dX12_fileNow_29 (fun H locs hH => ?_)
  rw [← hw_19] at hH
  refine lv_aload_n hx hb dX12_fileNow_30 rfl (lv_at hl 1 rfl) ?_
  refine am_get hx hb hts hK hown hH (am_o12 (p := 271) (by decide +kernel)) rfl am_inX12 17 (by decide) am_q1336 (v := .ref (G.1 + 281)) rfl dX12_fileNow_31 ?_
  refine lv_iload_n hx hb dX12_fileNow_34 rfl (lv_at hl 0 rfl) ?_
  obtain ⟨hi_20, hf⟩ := am_chk_some hf
  refine am_iald hx hb hK hH (am_ai_of (N := 245) (by decide +kernel)) hi_20 dX12_fileNow_35 ?_
  refine lv_iconst (v := 1) hx hb dX12_fileNow_36 (by decide) ?_
  refine lv_isub hx hb dX12_fileNow_37 ?_
  exact am_reti hx hb hr hlocks hH hf dX12_fileNow_38

def f_X12_swapNow (a1 : Int32) (a2 : Int32) (w : am_S) : Option (Int32 × am_S) :=
  am_chk ((10 : Int32) + a1) 245 (am_v (w.1 281 ((10 : Int32) + a1).toNatClampNeg) fun (x3_19 : Int32) => am_chk ((20 : Int32) + a1) 245 (am_v (w.1 281 ((20 : Int32) + a1).toNatClampNeg) fun (x4_21 : Int32) => am_chk ((10 : Int32) + a2) 245 (am_chk ((10 : Int32) + a1) 245 (am_v (am_pi w 281 ((10 : Int32) + a1).toNatClampNeg (w.1 281 ((10 : Int32) + a2).toNatClampNeg)) fun (w_24 : am_S) => am_chk ((20 : Int32) + a2) 245 (am_chk ((20 : Int32) + a1) 245 (am_v (am_pi w_24 281 ((20 : Int32) + a1).toNatClampNeg (w_24.1 281 ((20 : Int32) + a2).toNatClampNeg)) fun (w_27 : am_S) => am_chk ((10 : Int32) + a2) 245 (am_v (am_pi w_27 281 ((10 : Int32) + a2).toNatClampNeg x3_19) fun (w_29 : am_S) => am_chk ((20 : Int32) + a2) 245 (am_v (am_pi w_29 281 ((20 : Int32) + a2).toNatClampNeg x4_21) fun (w_31 : am_S) => am_b2 (f_X12_copyMany a1 w_31) fun r_34 w_32 => some (r_34, w_32)))))))))
set_option maxRecDepth 100000 in
set_option maxHeartbeats 4000000 in
theorem k_X12_swapNow {G : am_G} {l : Launch} {a1 : Int32} {a2 : Int32}  {w : am_S} {rr : Int32} {ww : am_S} (hf : f_X12_swapNow a1 a2 w = some (rr, ww)) : am_Mi G l yX12_swapNow (Cond.code yX12_swapNow cX12_swapNow 5 (some .int) :: am_T) { frames := 2, cells := 0, slots := 0, locals := 128 } [.ref (G.1 + 271), .int a1, .int a2] w rr ww := by
  refine Met.ofW (cc := cX12_swapNow) (maxL := 5) (ret := (some .int)) (by decide) rfl ?_
  intro p e s m args below meth c s₁ B hml hv
  obtain ⟨rfl, hx, hb, hr, hts, hown, hlocks, hK, hE, hH⟩ := am_begin B hv
  have hown : s.vm.findClass RX12 = some m.cls := hown
  show W p l e { frames := 2, cells := 0, slots := 0, locals := 128 } s m _ below meth c s.heap [] 0 0 _ _
  refine am_enter (lv := [(0, .ref (G.1 + 271)), (1, .int a1), (2, .int a2)]) (Nat.le_of_ble_eq_true rfl) rfl (fun ls hl => ?_)
  unfold f_X12_swapNow at hf
  refine am_start hH (fun H locs hH => ?_)
  refine lv_aload_n hx hb dX12_swapNow_0 rfl (lv_at hl 0 rfl) ?_
  refine am_get hx hb hts hK hown hH (am_o12 (p := 271) (by decide +kernel)) rfl am_inX12 17 (by decide) am_q1336 (v := .ref (G.1 + 281)) rfl dX12_swapNow_1 ?_
  refine lv_bipush (v := 10) hx hb dX12_swapNow_4 (by decide) ?_
  refine lv_iload_n hx hb dX12_swapNow_6 rfl (lv_at hl 1 rfl) ?_
  refine lv_iadd hx hb dX12_swapNow_7 ?_
  obtain ⟨hi_18, hf⟩ := am_chk_some hf
  refine am_iald hx hb hK hH (am_ai_of (N := 245) (by decide +kernel)) hi_18 dX12_swapNow_8 ?_
  obtain ⟨x3_19, hx3_19, hf⟩ := am_v_some hf
  refine am_topi hx3_19 ?_
  refine lv_istore_n (lv' := [(3, .int x3_19), (0, .ref (G.1 + 271)), (1, .int a1), (2, .int a2)]) hx hb dX12_swapNow_9 rfl hl (by decide) rfl (fun ls hl => ?_)
  refine lv_aload_n hx hb dX12_swapNow_10 rfl (lv_at hl 1 rfl) ?_
  refine am_get hx hb hts hK hown hH (am_o12 (p := 271) (by decide +kernel)) rfl am_inX12 17 (by decide) am_q1336 (v := .ref (G.1 + 281)) rfl dX12_swapNow_11 ?_
  refine lv_bipush (v := 20) hx hb dX12_swapNow_14 (by decide) ?_
  refine lv_iload_n hx hb dX12_swapNow_16 rfl (lv_at hl 2 rfl) ?_
  refine lv_iadd hx hb dX12_swapNow_17 ?_
  obtain ⟨hi_20, hf⟩ := am_chk_some hf
  refine am_iald hx hb hK hH (am_ai_of (N := 245) (by decide +kernel)) hi_20 dX12_swapNow_18 ?_
  obtain ⟨x4_21, hx4_21, hf⟩ := am_v_some hf
  refine am_topi hx4_21 ?_
  refine lv_istore (lv' := [(4, .int x4_21), (3, .int x3_19), (0, .ref (G.1 + 271)), (1, .int a1), (2, .int a2)]) hx hb dX12_swapNow_19 hl (by decide) rfl (fun ls hl => ?_)
  refine lv_aload_n hx hb dX12_swapNow_21 rfl (lv_at hl 2 rfl) ?_
  refine am_get hx hb hts hK hown hH (am_o12 (p := 271) (by decide +kernel)) rfl am_inX12 17 (by decide) am_q1336 (v := .ref (G.1 + 281)) rfl dX12_swapNow_22 ?_
  refine lv_bipush (v := 10) hx hb dX12_swapNow_25 (by decide) ?_
  refine lv_iload_n hx hb dX12_swapNow_27 rfl (lv_at hl 3 rfl) ?_
  refine lv_iadd hx hb dX12_swapNow_28 ?_
  refine lv_aload_n hx hb dX12_swapNow_29 rfl (lv_at hl 2 rfl) ?_
  refine am_get hx hb hts hK hown hH (am_o12 (p := 271) (by decide +kernel)) rfl am_inX12 17 (by decide) am_q1336 (v := .ref (G.1 + 281)) rfl dX12_swapNow_30 ?_
  refine lv_bipush (v := 10) hx hb dX12_swapNow_33 (by decide) ?_
  refine lv_iload_n hx hb dX12_swapNow_35 rfl (lv_at hl 4 rfl) ?_
  refine lv_iadd hx hb dX12_swapNow_36 ?_
  obtain ⟨hi_22, hf⟩ := am_chk_some hf
  refine am_iald hx hb hK hH (am_ai_of (N := 245) (by decide +kernel)) hi_22 dX12_swapNow_37 ?_
  obtain ⟨hi_23, hf⟩ := am_chk_some hf
  obtain ⟨w_24, hw_24, hf⟩ := am_v_some hf
  refine am_iast hx hb hK hH (am_ai_of (N := 245) (by decide +kernel)) hi_23 dX12_swapNow_38 (fun H locs hH => ?_)
  rw [← hw_24] at hH
  refine lv_aload_n hx hb dX12_swapNow_39 rfl (lv_at hl 2 rfl) ?_
  refine am_get hx hb hts hK hown hH (am_o12 (p := 271) (by decide +kernel)) rfl am_inX12 17 (by decide) am_q1336 (v := .ref (G.1 + 281)) rfl dX12_swapNow_40 ?_
  refine lv_bipush (v := 20) hx hb dX12_swapNow_43 (by decide) ?_
  refine lv_iload_n hx hb dX12_swapNow_45 rfl (lv_at hl 3 rfl) ?_
  refine lv_iadd hx hb dX12_swapNow_46 ?_
  refine lv_aload_n hx hb dX12_swapNow_47 rfl (lv_at hl 2 rfl) ?_
  refine am_get hx hb hts hK hown hH (am_o12 (p := 271) (by decide +kernel)) rfl am_inX12 17 (by decide) am_q1336 (v := .ref (G.1 + 281)) rfl dX12_swapNow_48 ?_
  refine lv_bipush (v := 20) hx hb dX12_swapNow_51 (by decide) ?_
  refine lv_iload_n hx hb dX12_swapNow_53 rfl (lv_at hl 4 rfl) ?_
  refine lv_iadd hx hb dX12_swapNow_54 ?_
  obtain ⟨hi_25, hf⟩ := am_chk_some hf
  refine am_iald hx hb hK hH (am_ai_of (N := 245) (by decide +kernel)) hi_25 dX12_swapNow_55 ?_
  obtain ⟨hi_26, hf⟩ := am_chk_some hf
  obtain ⟨w_27, hw_27, hf⟩ := am_v_some hf
  refine am_iast hx hb hK hH (am_ai_of (N := 245) (by decide +kernel)) hi_26 dX12_swapNow_56 (fun H locs hH => ?_)
  rw [← hw_27] at hH
  refine lv_aload_n hx hb dX12_swapNow_57 rfl (lv_at hl 2 rfl) ?_
  refine am_get hx hb hts hK hown hH (am_o12 (p := 271) (by decide +kernel)) rfl am_inX12 17 (by decide) am_q1336 (v := .ref (G.1 + 281)) rfl dX12_swapNow_58 ?_
  refine lv_bipush (v := 10) hx hb dX12_swapNow_61 (by decide) ?_
  refine lv_iload_n hx hb dX12_swapNow_63 rfl (lv_at hl 4 rfl) ?_
  refine lv_iadd hx hb dX12_swapNow_64 ?_
  refine lv_iload_n hx hb dX12_swapNow_65 rfl (lv_at hl 1 rfl) ?_
  obtain ⟨hi_28, hf⟩ := am_chk_some hf
  obtain ⟨w_29, hw_29, hf⟩ := am_v_some hf
  refine am_iast hx hb hK hH (am_ai_of (N := 245) (by decide +kernel)) hi_28 dX12_swapNow_66 (fun H locs hH => ?_)
  rw [← hw_29] at hH
  refine lv_aload_n hx hb dX12_swapNow_67 rfl (lv_at hl 2 rfl) ?_
  refine am_get hx hb hts hK hown hH (am_o12 (p := 271) (by decide +kernel)) rfl am_inX12 17 (by decide) am_q1336 (v := .ref (G.1 + 281)) rfl dX12_swapNow_68 ?_
  refine lv_bipush (v := 20) hx hb dX12_swapNow_71 (by decide) ?_
  refine lv_iload_n hx hb dX12_swapNow_73 rfl (lv_at hl 4 rfl) ?_
  refine lv_iadd hx hb dX12_swapNow_74 ?_
  refine lv_iload hx hb dX12_swapNow_75 (lv_at hl 0 rfl) ?_
  obtain ⟨hi_30, hf⟩ := am_chk_some hf
  obtain ⟨w_31, hw_31, hf⟩ := am_v_some hf
  refine am_iast hx hb hK hH (am_ai_of (N := 245) (by decide +kernel)) hi_30 dX12_swapNow_77 (fun H locs hH => ?_)
  rw [← hw_31] at hH
  refine lv_aload_n hx hb dX12_swapNow_78 rfl (lv_at hl 2 rfl) ?_
  refine lv_iload_n hx hb dX12_swapNow_79 rfl (lv_at hl 3 rfl) ?_
  obtain ⟨r_34, w_32, hq_33, hf⟩ := am_b2_some hf
  refine am_calli (r := r_34) (w' := w_32) (am_runV (n := 1) (As := [.int a1]) (rest := []) ⟨hx, hb, hml, hown, hts⟩ hK hE hH (k_X12_copyMany hq_33) (am_gV am_q1632 am_q1634 am_qs87 am_q13 am_q1635) (am_o12 (p := 271) (by decide +kernel)) rfl ⟨rfl, rfl⟩ (by decide +kernel) ⟨Nat.le_of_ble_eq_true rfl, Nat.le_of_ble_eq_true rfl⟩ rfl hl.1 rfl (Nat.le_of_ble_eq_true rfl) ⟨Nat.zero_le _, Nat.zero_le _⟩ dX12_swapNow_80) hH (fun H locs hH => ?_)
  exact am_reti hx hb hr hlocks hH hf dX12_swapNow_83

def f_X12_doNow (a1 : Int32) (a2 : Int32) (a3 : Int32) (a4 : Int64) (w : am_S) : Option (Int32 × am_S) :=
  (if a1 = (0 : Int32) then (am_b2 (f_X12_slotMany w) fun r_55 w_53 => am_b2 (f_X12_peelNow (0 : Int32) r_55 w_53) fun r_58 w_56 => some (r_58, w_56)) else (if a1 = (1 : Int32) then (am_b2 (f_X12_roundNow w) fun r_61 w_59 => some (r_61, w_59)) else (if a1 = (2 : Int32) then (am_chk ((0 : Int32) + a2) 245 (am_v (am_pi w 281 ((0 : Int32) + a2).toNatClampNeg (3 : Int32)) fun (w_63 : am_S) => am_b2 (f_X12_knownMany w_63) fun r_66 w_64 => some (r_66, w_64))) else (if a1 = (3 : Int32) then (am_chk ((0 : Int32) + a2) 245 (am_v (w.1 281 ((0 : Int32) + a2).toNatClampNeg) fun (x6_68 : Int32) => am_chk ((0 : Int32) + a2) 245 (am_v (am_pi w 281 ((0 : Int32) + a2).toNatClampNeg (0 : Int32)) fun (w_70 : am_S) => some (x6_68, w_70)))) else (if a1 = (4 : Int32) then (am_b1 (f_X12_turnCopy a2 a3 w) fun w_71 => am_b2 (f_X12_copyMany a2 w_71) fun r_75 w_73 => some (r_75, w_73)) else (if a1 = (5 : Int32) then (am_chk (30 : Int32) 245 (am_v (w.1 281 (30 : Int32).toNatClampNeg) fun (x6_77 : Int32) => am_chk (30 : Int32) 245 (am_v (am_pi w 281 (30 : Int32).toNatClampNeg a2) fun (w_79 : am_S) => some (x6_77, w_79)))) else (if a1 = (6 : Int32) then (am_b2 (f_X12_drawNow a2 a4 w) fun r_82 w_80 => some (r_82, w_80)) else (if a1 = (7 : Int32) then (am_b2 (f_X12_fileNow a2 a3 w) fun r_85 w_83 => some (r_85, w_83)) else (am_b2 (f_X12_swapNow a2 a3 w) fun r_88 w_86 => some (r_88, w_86))))))))))
set_option maxRecDepth 100000 in
set_option maxHeartbeats 4000000 in
theorem k_X12_doNow {G : am_G} {l : Launch} {a1 : Int32} {a2 : Int32} {a3 : Int32} {a4 : Int64}  {w : am_S} {rr : Int32} {ww : am_S} (hf : f_X12_doNow a1 a2 a3 a4 w = some (rr, ww)) : am_Mi G l yX12_doNow (Cond.code yX12_doNow cX12_doNow 7 (some .int) :: am_T) { frames := 8, cells := 0, slots := 0, locals := 512 } [.ref (G.1 + 271), .int a1, .int a2, .int a3, .long a4] w rr ww := by
  refine Met.ofW (cc := cX12_doNow) (maxL := 7) (ret := (some .int)) (by decide) rfl ?_
  intro p e s m args below meth c s₁ B hml hv
  obtain ⟨rfl, hx, hb, hr, hts, hown, hlocks, hK, hE, hH⟩ := am_begin B hv
  have hown : s.vm.findClass RX12 = some m.cls := hown
  show W p l e { frames := 8, cells := 0, slots := 0, locals := 512 } s m _ below meth c s.heap [] 0 0 _ _
  refine am_enter (lv := [(0, .ref (G.1 + 271)), (1, .int a1), (2, .int a2), (3, .int a3), (4, .long a4)]) (Nat.le_of_ble_eq_true rfl) rfl (fun ls hl => ?_)
  unfold f_X12_doNow at hf
  refine am_start hH (fun H locs hH => ?_)
  refine lv_iconst (v := 0) hx hb dX12_doNow_0 (by decide) ?_
  refine lv_istore (lv' := [(6, .int (0 : Int32)), (0, .ref (G.1 + 271)), (1, .int a1), (2, .int a2), (3, .int a3), (4, .long a4)]) hx hb dX12_doNow_1 hl (by decide) rfl (fun ls hl => ?_)
  refine lv_iload_n hx hb dX12_doNow_3 rfl (lv_at hl 2 rfl) ?_
  by_cases he_45 : a1 = (0 : Int32)
  · have hf := (if_pos he_45).symm.trans hf
    refine lv_tableIn (off := 48) (tgt := 52) hx hb dX12_doNow_4 (by rw [he_45]; decide) (by rw [he_45]; decide) (by rw [he_45]; rfl) (by decide) ?_
    refine lv_aload_n hx hb dX12_doNow_52 rfl (lv_at hl 1 rfl) ?_
    refine lv_iconst (v := 0) hx hb dX12_doNow_53 (by decide) ?_
    refine lv_aload_n hx hb dX12_doNow_54 rfl (lv_at hl 1 rfl) ?_
    obtain ⟨r_55, w_53, hq_54, hf⟩ := am_b2_some hf
    refine am_calli (r := r_55) (w' := w_53) (am_runV (n := 0) (As := []) (rest := [.int (0 : Int32), .ref (G.1 + 271)]) ⟨hx, hb, hml, hown, hts⟩ hK hE hH (k_X12_slotMany hq_54) (am_gV am_q1518 am_q1520 am_qs60 am_q13 am_q1521) (am_o12 (p := 271) (by decide +kernel)) rfl ⟨rfl, rfl⟩ (by decide +kernel) ⟨Nat.le_of_ble_eq_true rfl, Nat.le_of_ble_eq_true rfl⟩ rfl hl.1 rfl (Nat.le_of_ble_eq_true rfl) ⟨Nat.zero_le _, Nat.zero_le _⟩ dX12_doNow_55) hH (fun H locs hH => ?_)
    obtain ⟨r_58, w_56, hq_57, hf⟩ := am_b2_some hf
    refine am_calli (r := r_58) (w' := w_56) (am_runV (n := 2) (As := [.int (0 : Int32), .int r_55]) (rest := []) ⟨hx, hb, hml, hown, hts⟩ hK hE hH (k_X12_peelNow hq_57) (am_gV am_q1606 am_q1608 am_qs82 am_q13 am_q1609) (am_o12 (p := 271) (by decide +kernel)) rfl ⟨rfl, rfl⟩ (by decide +kernel) ⟨Nat.le_of_ble_eq_true rfl, Nat.le_of_ble_eq_true rfl⟩ rfl hl.1 rfl (Nat.le_of_ble_eq_true rfl) ⟨Nat.zero_le _, Nat.zero_le _⟩ dX12_doNow_58) hH (fun H locs hH => ?_)
    exact am_reti hx hb hr hlocks hH hf dX12_doNow_61
  have hf := (if_neg he_45).symm.trans hf
  by_cases he_46 : a1 = (1 : Int32)
  · have hf := (if_pos he_46).symm.trans hf
    refine lv_tableIn (off := 58) (tgt := 62) hx hb dX12_doNow_4 (by rw [he_46]; decide) (by rw [he_46]; decide) (by rw [he_46]; rfl) (by decide) ?_
    refine lv_aload_n hx hb dX12_doNow_62 rfl (lv_at hl 1 rfl) ?_
    obtain ⟨r_61, w_59, hq_60, hf⟩ := am_b2_some hf
    refine am_calli (r := r_61) (w' := w_59) (am_runV (n := 0) (As := []) (rest := []) ⟨hx, hb, hml, hown, hts⟩ hK hE hH (k_X12_roundNow hq_60) (am_gV am_q1617 am_q1619 am_qs84 am_q13 am_q1620) (am_o12 (p := 271) (by decide +kernel)) rfl ⟨rfl, rfl⟩ (by decide +kernel) ⟨Nat.le_of_ble_eq_true rfl, Nat.le_of_ble_eq_true rfl⟩ rfl hl.1 rfl (Nat.le_of_ble_eq_true rfl) ⟨Nat.zero_le _, Nat.zero_le _⟩ dX12_doNow_63) hH (fun H locs hH => ?_)
    exact am_reti hx hb hr hlocks hH hf dX12_doNow_66
  have hf := (if_neg he_46).symm.trans hf
  by_cases he_47 : a1 = (2 : Int32)
  · have hf := (if_pos he_47).symm.trans hf
    refine lv_tableIn (off := 63) (tgt := 67) hx hb dX12_doNow_4 (by rw [he_47]; decide) (by rw [he_47]; decide) (by rw [he_47]; rfl) (by decide) ?_
    refine lv_aload_n hx hb dX12_doNow_67 rfl (lv_at hl 1 rfl) ?_
    refine am_get hx hb hts hK hown hH (am_o12 (p := 271) (by decide +kernel)) rfl am_inX12 17 (by decide) am_q1336 (v := .ref (G.1 + 281)) rfl dX12_doNow_68 ?_
    refine lv_iconst (v := 0) hx hb dX12_doNow_71 (by decide) ?_
    refine lv_iload_n hx hb dX12_doNow_72 rfl (lv_at hl 3 rfl) ?_
    refine lv_iadd hx hb dX12_doNow_73 ?_
    refine lv_iconst (v := 3) hx hb dX12_doNow_74 (by decide) ?_
    obtain ⟨hi_62, hf⟩ := am_chk_some hf
    obtain ⟨w_63, hw_63, hf⟩ := am_v_some hf
    refine am_iast hx hb hK hH (am_ai_of (N := 245) (by decide +kernel)) hi_62 dX12_doNow_75 (fun H locs hH => ?_)
    rw [← hw_63] at hH
    refine lv_aload_n hx hb dX12_doNow_76 rfl (lv_at hl 1 rfl) ?_
    obtain ⟨r_66, w_64, hq_65, hf⟩ := am_b2_some hf
    refine am_calli (r := r_66) (w' := w_64) (am_runV (n := 0) (As := []) (rest := []) ⟨hx, hb, hml, hown, hts⟩ hK hE hH (k_X12_knownMany hq_65) (am_gV am_q1621 am_q1623 am_qs85 am_q13 am_q1624) (am_o12 (p := 271) (by decide +kernel)) rfl ⟨rfl, rfl⟩ (by decide +kernel) ⟨Nat.le_of_ble_eq_true rfl, Nat.le_of_ble_eq_true rfl⟩ rfl hl.1 rfl (Nat.le_of_ble_eq_true rfl) ⟨Nat.zero_le _, Nat.zero_le _⟩ dX12_doNow_77) hH (fun H locs hH => ?_)
    exact am_reti hx hb hr hlocks hH hf dX12_doNow_80
  have hf := (if_neg he_47).symm.trans hf
  by_cases he_48 : a1 = (3 : Int32)
  · have hf := (if_pos he_48).symm.trans hf
    refine lv_tableIn (off := 77) (tgt := 81) hx hb dX12_doNow_4 (by rw [he_48]; decide) (by rw [he_48]; decide) (by rw [he_48]; rfl) (by decide) ?_
    refine lv_aload_n hx hb dX12_doNow_81 rfl (lv_at hl 1 rfl) ?_
    refine am_get hx hb hts hK hown hH (am_o12 (p := 271) (by decide +kernel)) rfl am_inX12 17 (by decide) am_q1336 (v := .ref (G.1 + 281)) rfl dX12_doNow_82 ?_
    refine lv_iconst (v := 0) hx hb dX12_doNow_85 (by decide) ?_
    refine lv_iload_n hx hb dX12_doNow_86 rfl (lv_at hl 3 rfl) ?_
    refine lv_iadd hx hb dX12_doNow_87 ?_
    obtain ⟨hi_67, hf⟩ := am_chk_some hf
    refine am_iald hx hb hK hH (am_ai_of (N := 245) (by decide +kernel)) hi_67 dX12_doNow_88 ?_
    obtain ⟨x6_68, hx6_68, hf⟩ := am_v_some hf
    refine am_topi hx6_68 ?_
    refine lv_istore (lv' := [(6, .int x6_68), (0, .ref (G.1 + 271)), (1, .int a1), (2, .int a2), (3, .int a3), (4, .long a4)]) hx hb dX12_doNow_89 hl (by decide) rfl (fun ls hl => ?_)
    refine lv_aload_n hx hb dX12_doNow_91 rfl (lv_at hl 1 rfl) ?_
    refine am_get hx hb hts hK hown hH (am_o12 (p := 271) (by decide +kernel)) rfl am_inX12 17 (by decide) am_q1336 (v := .ref (G.1 + 281)) rfl dX12_doNow_92 ?_
    refine lv_iconst (v := 0) hx hb dX12_doNow_95 (by decide) ?_
    refine lv_iload_n hx hb dX12_doNow_96 rfl (lv_at hl 3 rfl) ?_
    refine lv_iadd hx hb dX12_doNow_97 ?_
    refine lv_iconst (v := 0) hx hb dX12_doNow_98 (by decide) ?_
    obtain ⟨hi_69, hf⟩ := am_chk_some hf
    obtain ⟨w_70, hw_70, hf⟩ := am_v_some hf
    refine am_iast hx hb hK hH (am_ai_of (N := 245) (by decide +kernel)) hi_69 dX12_doNow_99 (fun H locs hH => ?_)
    rw [← hw_70] at hH
    refine lv_iload hx hb dX12_doNow_100 (lv_at hl 0 rfl) ?_
    exact am_reti hx hb hr hlocks hH hf dX12_doNow_102
  have hf := (if_neg he_48).symm.trans hf
  by_cases he_49 : a1 = (4 : Int32)
  · have hf := (if_pos he_49).symm.trans hf
    refine lv_tableIn (off := 99) (tgt := 103) hx hb dX12_doNow_4 (by rw [he_49]; decide) (by rw [he_49]; decide) (by rw [he_49]; rfl) (by decide) ?_
    refine lv_aload_n hx hb dX12_doNow_103 rfl (lv_at hl 1 rfl) ?_
    refine lv_iload_n hx hb dX12_doNow_104 rfl (lv_at hl 3 rfl) ?_
    refine lv_iload_n hx hb dX12_doNow_105 rfl (lv_at hl 4 rfl) ?_
    obtain ⟨w_71, hq_72, hf⟩ := am_b1_some hf
    refine am_callv (w' := w_71) (am_runV (n := 2) (As := [.int a2, .int a3]) (rest := []) ⟨hx, hb, hml, hown, hts⟩ hK hE hH (k_X12_turnCopy hq_72) (am_gV am_q1498 am_q1500 am_qs56 am_q13 am_q1501) (am_o12 (p := 271) (by decide +kernel)) rfl ⟨rfl, rfl⟩ (by decide +kernel) ⟨Nat.le_of_ble_eq_true rfl, Nat.le_of_ble_eq_true rfl⟩ rfl hl.1 rfl (Nat.le_of_ble_eq_true rfl) ⟨Nat.zero_le _, Nat.zero_le _⟩ dX12_doNow_106) hH (fun H locs hH => ?_)
    refine lv_aload_n hx hb dX12_doNow_109 rfl (lv_at hl 1 rfl) ?_
    refine lv_iload_n hx hb dX12_doNow_110 rfl (lv_at hl 3 rfl) ?_
    obtain ⟨r_75, w_73, hq_74, hf⟩ := am_b2_some hf
    refine am_calli (r := r_75) (w' := w_73) (am_runV (n := 1) (As := [.int a2]) (rest := []) ⟨hx, hb, hml, hown, hts⟩ hK hE hH (k_X12_copyMany hq_74) (am_gV am_q1632 am_q1634 am_qs87 am_q13 am_q1635) (am_o12 (p := 271) (by decide +kernel)) rfl ⟨rfl, rfl⟩ (by decide +kernel) ⟨Nat.le_of_ble_eq_true rfl, Nat.le_of_ble_eq_true rfl⟩ rfl hl.1 rfl (Nat.le_of_ble_eq_true rfl) ⟨Nat.zero_le _, Nat.zero_le _⟩ dX12_doNow_111) hH (fun H locs hH => ?_)
    exact am_reti hx hb hr hlocks hH hf dX12_doNow_114
  have hf := (if_neg he_49).symm.trans hf
  by_cases he_50 : a1 = (5 : Int32)
  · have hf := (if_pos he_50).symm.trans hf
    refine lv_tableIn (off := 111) (tgt := 115) hx hb dX12_doNow_4 (by rw [he_50]; decide) (by rw [he_50]; decide) (by rw [he_50]; rfl) (by decide) ?_
    refine lv_aload_n hx hb dX12_doNow_115 rfl (lv_at hl 1 rfl) ?_
    refine am_get hx hb hts hK hown hH (am_o12 (p := 271) (by decide +kernel)) rfl am_inX12 17 (by decide) am_q1336 (v := .ref (G.1 + 281)) rfl dX12_doNow_116 ?_
    refine lv_bipush (v := 30) hx hb dX12_doNow_119 (by decide) ?_
    obtain ⟨hi_76, hf⟩ := am_chk_some hf
    refine am_iald hx hb hK hH (am_ai_of (N := 245) (by decide +kernel)) hi_76 dX12_doNow_121 ?_
    obtain ⟨x6_77, hx6_77, hf⟩ := am_v_some hf
    refine am_topi hx6_77 ?_
    refine lv_istore (lv' := [(6, .int x6_77), (0, .ref (G.1 + 271)), (1, .int a1), (2, .int a2), (3, .int a3), (4, .long a4)]) hx hb dX12_doNow_122 hl (by decide) rfl (fun ls hl => ?_)
    refine lv_aload_n hx hb dX12_doNow_124 rfl (lv_at hl 1 rfl) ?_
    refine am_get hx hb hts hK hown hH (am_o12 (p := 271) (by decide +kernel)) rfl am_inX12 17 (by decide) am_q1336 (v := .ref (G.1 + 281)) rfl dX12_doNow_125 ?_
    refine lv_bipush (v := 30) hx hb dX12_doNow_128 (by decide) ?_
    refine lv_iload_n hx hb dX12_doNow_130 rfl (lv_at hl 3 rfl) ?_
    obtain ⟨hi_78, hf⟩ := am_chk_some hf
    obtain ⟨w_79, hw_79, hf⟩ := am_v_some hf
    refine am_iast hx hb hK hH (am_ai_of (N := 245) (by decide +kernel)) hi_78 dX12_doNow_131 (fun H locs hH => ?_)
    rw [← hw_79] at hH
    refine lv_iload hx hb dX12_doNow_132 (lv_at hl 0 rfl) ?_
    exact am_reti hx hb hr hlocks hH hf dX12_doNow_134
  have hf := (if_neg he_50).symm.trans hf
  by_cases he_51 : a1 = (6 : Int32)
  · have hf := (if_pos he_51).symm.trans hf
    refine lv_tableIn (off := 131) (tgt := 135) hx hb dX12_doNow_4 (by rw [he_51]; decide) (by rw [he_51]; decide) (by rw [he_51]; rfl) (by decide) ?_
    refine lv_aload_n hx hb dX12_doNow_135 rfl (lv_at hl 1 rfl) ?_
    refine lv_iload_n hx hb dX12_doNow_136 rfl (lv_at hl 3 rfl) ?_
    refine lv_lload hx hb dX12_doNow_137 (lv_at hl 5 rfl) ?_
    obtain ⟨r_82, w_80, hq_81, hf⟩ := am_b2_some hf
    refine am_calli (r := r_82) (w' := w_80) (am_runV (n := 2) (As := [.int a2, .long a4]) (rest := []) ⟨hx, hb, hml, hown, hts⟩ hK hE hH (k_X12_drawNow hq_81) (am_gV am_q1636 am_q1638 am_qs88 am_q13 am_q1639) (am_o12 (p := 271) (by decide +kernel)) rfl ⟨rfl, rfl⟩ (by decide +kernel) ⟨Nat.le_of_ble_eq_true rfl, Nat.le_of_ble_eq_true rfl⟩ rfl hl.1 rfl (Nat.le_of_ble_eq_true rfl) ⟨Nat.zero_le _, Nat.zero_le _⟩ dX12_doNow_139) hH (fun H locs hH => ?_)
    exact am_reti hx hb hr hlocks hH hf dX12_doNow_142
  have hf := (if_neg he_51).symm.trans hf
  by_cases he_52 : a1 = (7 : Int32)
  · have hf := (if_pos he_52).symm.trans hf
    refine lv_tableIn (off := 139) (tgt := 143) hx hb dX12_doNow_4 (by rw [he_52]; decide) (by rw [he_52]; decide) (by rw [he_52]; rfl) (by decide) ?_
    refine lv_aload_n hx hb dX12_doNow_143 rfl (lv_at hl 1 rfl) ?_
    refine lv_iload_n hx hb dX12_doNow_144 rfl (lv_at hl 3 rfl) ?_
    refine lv_iload_n hx hb dX12_doNow_145 rfl (lv_at hl 4 rfl) ?_
    obtain ⟨r_85, w_83, hq_84, hf⟩ := am_b2_some hf
    refine am_calli (r := r_85) (w' := w_83) (am_runV (n := 2) (As := [.int a2, .int a3]) (rest := []) ⟨hx, hb, hml, hown, hts⟩ hK hE hH (k_X12_fileNow hq_84) (am_gV am_q1651 am_q1653 am_qs91 am_q13 am_q1654) (am_o12 (p := 271) (by decide +kernel)) rfl ⟨rfl, rfl⟩ (by decide +kernel) ⟨Nat.le_of_ble_eq_true rfl, Nat.le_of_ble_eq_true rfl⟩ rfl hl.1 rfl (Nat.le_of_ble_eq_true rfl) ⟨Nat.zero_le _, Nat.zero_le _⟩ dX12_doNow_146) hH (fun H locs hH => ?_)
    exact am_reti hx hb hr hlocks hH hf dX12_doNow_149
  have hf := (if_neg he_52).symm.trans hf
  have nhe_45 := am_tne (k := 0) (0 : Int32) (by decide) he_45
  have nhe_46 := am_tne (k := 1) (1 : Int32) (by decide) he_46
  have nhe_47 := am_tne (k := 2) (2 : Int32) (by decide) he_47
  have nhe_48 := am_tne (k := 3) (3 : Int32) (by decide) he_48
  have nhe_49 := am_tne (k := 4) (4 : Int32) (by decide) he_49
  have nhe_50 := am_tne (k := 5) (5 : Int32) (by decide) he_50
  have nhe_51 := am_tne (k := 6) (6 : Int32) (by decide) he_51
  have nhe_52 := am_tne (k := 7) (7 : Int32) (by decide) he_52
  refine lv_tableOut (tgt := 150) hx hb dX12_doNow_4 (by omega) (by decide) ?_
  refine lv_aload_n hx hb dX12_doNow_150 rfl (lv_at hl 1 rfl) ?_
  refine lv_iload_n hx hb dX12_doNow_151 rfl (lv_at hl 3 rfl) ?_
  refine lv_iload_n hx hb dX12_doNow_152 rfl (lv_at hl 4 rfl) ?_
  obtain ⟨r_88, w_86, hq_87, hf⟩ := am_b2_some hf
  refine am_calli (r := r_88) (w' := w_86) (am_runV (n := 2) (As := [.int a2, .int a3]) (rest := []) ⟨hx, hb, hml, hown, hts⟩ hK hE hH (k_X12_swapNow hq_87) (am_gV am_q1655 am_q1657 am_qs92 am_q13 am_q1658) (am_o12 (p := 271) (by decide +kernel)) rfl ⟨rfl, rfl⟩ (by decide +kernel) ⟨Nat.le_of_ble_eq_true rfl, Nat.le_of_ble_eq_true rfl⟩ rfl hl.1 rfl (Nat.le_of_ble_eq_true rfl) ⟨Nat.zero_le _, Nat.zero_le _⟩ dX12_doNow_153) hH (fun H locs hH => ?_)
  exact am_reti hx hb hr hlocks hH hf dX12_doNow_156

def f_X12_note_58 (a1 : Int32) (a2 : Int32) (w : am_S) : Option am_S :=
  am_chk (64 : Int32) 245 (am_v ((65 : Int32) + ((3 : Int32) * (w.1 281 (64 : Int32).toNatClampNeg))) fun (x3_26 : Int32) => am_chk x3_26 245 (am_v (am_pi w 281 x3_26.toNatClampNeg a1) fun (w_28 : am_S) => am_chk (x3_26 + (1 : Int32)) 245 (am_v (am_pi w_28 281 (x3_26 + (1 : Int32)).toNatClampNeg a2) fun (w_30 : am_S) => am_b2 (f_X12_knownMany w_30) fun r_33 w_31 => am_chk (x3_26 + (2 : Int32)) 245 (am_v (am_pi w_31 281 (x3_26 + (2 : Int32)).toNatClampNeg r_33) fun (w_35 : am_S) => am_chk (64 : Int32) 245 (am_chk (64 : Int32) 245 (am_v (am_pi w_35 281 (64 : Int32).toNatClampNeg ((w_35.1 281 (64 : Int32).toNatClampNeg) + (1 : Int32))) fun (w_38 : am_S) => some w_38))))))
def f_X12_note_14b (a1 : Int32) (a2 : Int32) (x3 : Int32) (w : am_S) : Option (am_S ⊕ (Int32 × am_S)) :=
  if (180 : Int32) ≤ x3 then (am_x (am_chk (64 : Int32) 245 (am_chk (64 : Int32) 245 (am_v (am_pi w 281 (64 : Int32).toNatClampNeg ((w.1 281 (64 : Int32).toNatClampNeg) - (1 : Int32))) fun (w_43 : am_S) => f_X12_note_58 a1 a2 w_43)))) else (am_chk ((65 : Int32) + x3) 245 (am_chk (((65 : Int32) + x3) - (3 : Int32)) 245 (am_v (am_pi w 281 (((65 : Int32) + x3) - (3 : Int32)).toNatClampNeg (w.1 281 ((65 : Int32) + x3).toNatClampNeg)) fun (w_46 : am_S) => am_v (x3 + (1 : Int32)) fun (x3_47 : Int32) => some (.inr (x3_47, w_46)))))
def f_X12_note_14 (a1 : Int32) (a2 : Int32) (x3 : Int32) (w : am_S) : Option am_S :=
  am_loop (fun (st : (Int32 × am_S)) => f_X12_note_14b a1 a2 st.1 st.2) am_fuel (x3, w)
def f_X12_note (a1 : Int32) (a2 : Int32) (w : am_S) : Option am_S :=
  am_chk (64 : Int32) 245 (if (w.1 281 (64 : Int32).toNatClampNeg) = (60 : Int32) then (f_X12_note_14 a1 a2 (3 : Int32) w) else (f_X12_note_58 a1 a2 w))
set_option maxRecDepth 100000 in
set_option maxHeartbeats 4000000 in
theorem k_X12_note {G : am_G} {l : Launch} {a1 : Int32} {a2 : Int32}  {w : am_S} {ww : am_S} (hf : f_X12_note a1 a2 w = some ww) : am_Mv G l yX12_note (Cond.code yX12_note cX12_note 4 none :: am_T) { frames := 3, cells := 0, slots := 0, locals := 192 } [.ref (G.1 + 271), .int a1, .int a2] w ww := by
  refine Met.ofW (cc := cX12_note) (maxL := 4) (ret := none) (by decide) rfl ?_
  intro p e s m args below meth c s₁ B hml hv
  obtain ⟨rfl, hx, hb, hr, hts, hown, hlocks, hK, hE, hH⟩ := am_begin B hv
  have hown : s.vm.findClass RX12 = some m.cls := hown
  show W p l e { frames := 3, cells := 0, slots := 0, locals := 192 } s m _ below meth c s.heap [] 0 0 _ _
  have P58 : ∀ (w : am_S) (H : Heap) (locs : List Loc) (ls : Array Slot), f_X12_note_58 a1 a2 w = some ww → am_H G w s H locs → lv_has ls 4 [(0, .ref (G.1 + 271)), (1, .int a1), (2, .int a2)] → W p l e { frames := 3, cells := 0, slots := 0, locals := 192 } s m [.ref (G.1 + 271), .int a1, .int a2].toArray below meth c H locs 0 0 (MQ below (va_Qv (fun (u : am_S) => u = ww) (am_U G) (am_A G)) [.ref (G.1 + 271), .int a1, .int a2].toArray s 0 0 (am_A G)) (F0 m 58 ls []) := by
    intro w H locs ls hf hH hl
    unfold f_X12_note_58 at hf
    refine lv_bipush (v := 65) hx hb dX12_note_58 (by decide) ?_
    refine lv_iconst (v := 3) hx hb dX12_note_60 (by decide) ?_
    refine lv_aload_n hx hb dX12_note_61 rfl (lv_at hl 0 rfl) ?_
    refine am_get hx hb hts hK hown hH (am_o12 (p := 271) (by decide +kernel)) rfl am_inX12 17 (by decide) am_q1336 (v := .ref (G.1 + 281)) rfl dX12_note_62 ?_
    refine lv_bipush (v := 64) hx hb dX12_note_65 (by decide) ?_
    obtain ⟨hi_25, hf⟩ := am_chk_some hf
    refine am_iald hx hb hK hH (am_ai_of (N := 245) (by decide +kernel)) hi_25 dX12_note_67 ?_
    refine lv_imul hx hb dX12_note_68 ?_
    refine lv_iadd hx hb dX12_note_69 ?_
    obtain ⟨x3_26, hx3_26, hf⟩ := am_v_some hf
    refine am_topi hx3_26 ?_
    refine lv_istore_n (lv' := [(3, .int x3_26), (0, .ref (G.1 + 271)), (1, .int a1), (2, .int a2)]) hx hb dX12_note_70 rfl hl (by decide) rfl (fun ls hl => ?_)
    refine lv_aload_n hx hb dX12_note_71 rfl (lv_at hl 1 rfl) ?_
    refine am_get hx hb hts hK hown hH (am_o12 (p := 271) (by decide +kernel)) rfl am_inX12 17 (by decide) am_q1336 (v := .ref (G.1 + 281)) rfl dX12_note_72 ?_
    refine lv_iload_n hx hb dX12_note_75 rfl (lv_at hl 0 rfl) ?_
    refine lv_iload_n hx hb dX12_note_76 rfl (lv_at hl 2 rfl) ?_
    obtain ⟨hi_27, hf⟩ := am_chk_some hf
    obtain ⟨w_28, hw_28, hf⟩ := am_v_some hf
    refine am_iast hx hb hK hH (am_ai_of (N := 245) (by decide +kernel)) hi_27 dX12_note_77 (fun H locs hH => ?_)
    rw [← hw_28] at hH
    refine lv_aload_n hx hb dX12_note_78 rfl (lv_at hl 1 rfl) ?_
    refine am_get hx hb hts hK hown hH (am_o12 (p := 271) (by decide +kernel)) rfl am_inX12 17 (by decide) am_q1336 (v := .ref (G.1 + 281)) rfl dX12_note_79 ?_
    refine lv_iload_n hx hb dX12_note_82 rfl (lv_at hl 0 rfl) ?_
    refine lv_iconst (v := 1) hx hb dX12_note_83 (by decide) ?_
    refine lv_iadd hx hb dX12_note_84 ?_
    refine lv_iload_n hx hb dX12_note_85 rfl (lv_at hl 3 rfl) ?_
    obtain ⟨hi_29, hf⟩ := am_chk_some hf
    obtain ⟨w_30, hw_30, hf⟩ := am_v_some hf
    refine am_iast hx hb hK hH (am_ai_of (N := 245) (by decide +kernel)) hi_29 dX12_note_86 (fun H locs hH => ?_)
    rw [← hw_30] at hH
    refine lv_aload_n hx hb dX12_note_87 rfl (lv_at hl 1 rfl) ?_
    refine am_get hx hb hts hK hown hH (am_o12 (p := 271) (by decide +kernel)) rfl am_inX12 17 (by decide) am_q1336 (v := .ref (G.1 + 281)) rfl dX12_note_88 ?_
    refine lv_iload_n hx hb dX12_note_91 rfl (lv_at hl 0 rfl) ?_
    refine lv_iconst (v := 2) hx hb dX12_note_92 (by decide) ?_
    refine lv_iadd hx hb dX12_note_93 ?_
    refine lv_aload_n hx hb dX12_note_94 rfl (lv_at hl 1 rfl) ?_
    obtain ⟨r_33, w_31, hq_32, hf⟩ := am_b2_some hf
    refine am_calli (r := r_33) (w' := w_31) (am_runV (n := 0) (As := []) (rest := [.int (x3_26 + (2 : Int32)), .ref (G.1 + 281)]) ⟨hx, hb, hml, hown, hts⟩ hK hE hH (k_X12_knownMany hq_32) (am_gV am_q1621 am_q1623 am_qs85 am_q13 am_q1624) (am_o12 (p := 271) (by decide +kernel)) rfl ⟨rfl, rfl⟩ (by decide +kernel) ⟨Nat.le_of_ble_eq_true rfl, Nat.le_of_ble_eq_true rfl⟩ rfl hl.1 rfl (Nat.le_of_ble_eq_true rfl) ⟨Nat.zero_le _, Nat.zero_le _⟩ dX12_note_95) hH (fun H locs hH => ?_)
    obtain ⟨hi_34, hf⟩ := am_chk_some hf
    obtain ⟨w_35, hw_35, hf⟩ := am_v_some hf
    refine am_iast hx hb hK hH (am_ai_of (N := 245) (by decide +kernel)) hi_34 dX12_note_98 (fun H locs hH => ?_)
    rw [← hw_35] at hH
    refine lv_aload_n hx hb dX12_note_99 rfl (lv_at hl 1 rfl) ?_
    refine am_get hx hb hts hK hown hH (am_o12 (p := 271) (by decide +kernel)) rfl am_inX12 17 (by decide) am_q1336 (v := .ref (G.1 + 281)) rfl dX12_note_100 ?_
    refine lv_bipush (v := 64) hx hb dX12_note_103 (by decide) ?_
    refine lv_dup2_11 hx hb dX12_note_105 rfl rfl ?_
    obtain ⟨hi_36, hf⟩ := am_chk_some hf
    refine am_iald hx hb hK hH (am_ai_of (N := 245) (by decide +kernel)) hi_36 dX12_note_106 ?_
    refine lv_iconst (v := 1) hx hb dX12_note_107 (by decide) ?_
    refine lv_iadd hx hb dX12_note_108 ?_
    obtain ⟨hi_37, hf⟩ := am_chk_some hf
    obtain ⟨w_38, hw_38, hf⟩ := am_v_some hf
    refine am_iast hx hb hK hH (am_ai_of (N := 245) (by decide +kernel)) hi_37 dX12_note_109 (fun H locs hH => ?_)
    rw [← hw_38] at hH
    exact am_retv hx hb hr hlocks hH hf dX12_note_110
  have P14 : ∀ (n1 : Nat) (x3 : Int32) (w : am_S) (H : Heap) (locs : List Loc) (ls : Array Slot), am_loop (fun (st : (Int32 × am_S)) => f_X12_note_14b a1 a2 st.1 st.2) n1 (x3, w) = some ww → am_H G w s H locs → lv_has ls 4 [(0, .ref (G.1 + 271)), (1, .int a1), (2, .int a2), (3, .int x3)] → W p l e { frames := 3, cells := 0, slots := 0, locals := 192 } s m [.ref (G.1 + 271), .int a1, .int a2].toArray below meth c H locs 0 0 (MQ below (va_Qv (fun (u : am_S) => u = ww) (am_U G) (am_A G)) [.ref (G.1 + 271), .int a1, .int a2].toArray s 0 0 (am_A G)) (F0 m 14 ls []) := by
    intro n1
    induction n1 with
    | zero =>
      intro x3 w H locs ls hf hH hl
      exact (am_loop_zero hf).elim
    | succ n1 ih1 =>
      intro x3 w H locs ls hf hH hl
      obtain ⟨z1, hf, hk1⟩ := am_loop_succ hf
      have hf : f_X12_note_14b a1 a2 x3 w = some z1 := hf
      unfold f_X12_note_14b at hf
      refine lv_iload_n hx hb dX12_note_14 rfl (lv_at hl 3 rfl) ?_
      refine lv_sipush (v := 180) hx hb dX12_note_15 (by decide) ?_
      refine lv_icmp_ge (tgt := 47) hx hb dX12_note_18 (by decide) (fun hc_39 => ?_) (fun hc_39 => ?_)
      · have hf := (if_pos hc_39).symm.trans hf
        obtain ⟨y_40, hf, hzy_40⟩ := am_x_some hf
        rw [hzy_40] at hk1
        have hf := hf.trans (congrArg some (show y_40 = ww from hk1))
        refine lv_aload_n hx hb dX12_note_47 rfl (lv_at hl 0 rfl) ?_
        refine am_get hx hb hts hK hown hH (am_o12 (p := 271) (by decide +kernel)) rfl am_inX12 17 (by decide) am_q1336 (v := .ref (G.1 + 281)) rfl dX12_note_48 ?_
        refine lv_bipush (v := 64) hx hb dX12_note_51 (by decide) ?_
        refine lv_dup2_11 hx hb dX12_note_53 rfl rfl ?_
        obtain ⟨hi_41, hf⟩ := am_chk_some hf
        refine am_iald hx hb hK hH (am_ai_of (N := 245) (by decide +kernel)) hi_41 dX12_note_54 ?_
        refine lv_iconst (v := 1) hx hb dX12_note_55 (by decide) ?_
        refine lv_isub hx hb dX12_note_56 ?_
        obtain ⟨hi_42, hf⟩ := am_chk_some hf
        obtain ⟨w_43, hw_43, hf⟩ := am_v_some hf
        refine am_iast hx hb hK hH (am_ai_of (N := 245) (by decide +kernel)) hi_42 dX12_note_57 (fun H locs hH => ?_)
        rw [← hw_43] at hH
        exact P58 w_43 H locs ls hf hH (lv_sub hl [0, 1, 2] rfl)
      · have hf := (if_neg hc_39).symm.trans hf
        refine lv_aload_n hx hb dX12_note_21 rfl (lv_at hl 0 rfl) ?_
        refine am_get hx hb hts hK hown hH (am_o12 (p := 271) (by decide +kernel)) rfl am_inX12 17 (by decide) am_q1336 (v := .ref (G.1 + 281)) rfl dX12_note_22 ?_
        refine lv_bipush (v := 65) hx hb dX12_note_25 (by decide) ?_
        refine lv_iload_n hx hb dX12_note_27 rfl (lv_at hl 3 rfl) ?_
        refine lv_iadd hx hb dX12_note_28 ?_
        refine lv_iconst (v := 3) hx hb dX12_note_29 (by decide) ?_
        refine lv_isub hx hb dX12_note_30 ?_
        refine lv_aload_n hx hb dX12_note_31 rfl (lv_at hl 0 rfl) ?_
        refine am_get hx hb hts hK hown hH (am_o12 (p := 271) (by decide +kernel)) rfl am_inX12 17 (by decide) am_q1336 (v := .ref (G.1 + 281)) rfl dX12_note_32 ?_
        refine lv_bipush (v := 65) hx hb dX12_note_35 (by decide) ?_
        refine lv_iload_n hx hb dX12_note_37 rfl (lv_at hl 3 rfl) ?_
        refine lv_iadd hx hb dX12_note_38 ?_
        obtain ⟨hi_44, hf⟩ := am_chk_some hf
        refine am_iald hx hb hK hH (am_ai_of (N := 245) (by decide +kernel)) hi_44 dX12_note_39 ?_
        obtain ⟨hi_45, hf⟩ := am_chk_some hf
        obtain ⟨w_46, hw_46, hf⟩ := am_v_some hf
        refine am_iast hx hb hK hH (am_ai_of (N := 245) (by decide +kernel)) hi_45 dX12_note_40 (fun H locs hH => ?_)
        rw [← hw_46] at hH
        obtain ⟨x3_47, hx3_47, hf⟩ := am_v_some hf
        refine lv_iinc (v := x3_47) (lv' := [(3, .int x3_47), (0, .ref (G.1 + 271)), (1, .int a1), (2, .int a2)]) hx hb dX12_note_41 hl (k := 3) rfl (by rw [hx3_47]; rfl) (by decide) rfl (fun ls hl => ?_)
        refine lv_goto (tgt := 14) hx hb dX12_note_44 (by decide) ?_
        obtain rfl := Option.some.inj hf
        exact ih1 x3_47 w_46 H locs ls hk1 hH (lv_sub hl [1, 2, 3, 0] rfl)
  refine am_enter (lv := [(0, .ref (G.1 + 271)), (1, .int a1), (2, .int a2)]) (Nat.le_of_ble_eq_true rfl) rfl (fun ls hl => ?_)
  unfold f_X12_note at hf
  refine am_start hH (fun H locs hH => ?_)
  refine lv_aload_n hx hb dX12_note_0 rfl (lv_at hl 0 rfl) ?_
  refine am_get hx hb hts hK hown hH (am_o12 (p := 271) (by decide +kernel)) rfl am_inX12 17 (by decide) am_q1336 (v := .ref (G.1 + 281)) rfl dX12_note_1 ?_
  refine lv_bipush (v := 64) hx hb dX12_note_4 (by decide) ?_
  obtain ⟨hi_48, hf⟩ := am_chk_some hf
  refine am_iald hx hb hK hH (am_ai_of (N := 245) (by decide +kernel)) hi_48 dX12_note_6 ?_
  refine lv_bipush (v := 60) hx hb dX12_note_7 (by decide) ?_
  refine lv_icmp_ne (tgt := 58) hx hb dX12_note_9 (by decide) (fun hc_49 => ?_) (fun hc_49 => ?_)
  · have hf := (if_neg hc_49).symm.trans hf
    exact P58 w H locs ls hf hH (lv_sub hl [0, 1, 2] rfl)
  · have hf := (if_pos hc_49).symm.trans hf
    refine lv_iconst (v := 3) hx hb dX12_note_12 (by decide) ?_
    refine lv_istore_n (lv' := [(3, .int (3 : Int32)), (0, .ref (G.1 + 271)), (1, .int a1), (2, .int a2)]) hx hb dX12_note_13 rfl hl (by decide) rfl (fun ls hl => ?_)
    exact P14 am_fuel (3 : Int32) w H locs ls hf hH (lv_sub hl [1, 2, 3, 0] rfl)

def f_X12_act_51 (a1 : Int32) (a2 : Int32) (a3 : Int32) (a4 : Int64) (x6 : Int32) (s0 : Int32) (s1 : Int32) (w : am_S) : Option (Int32 × am_S) :=
  am_b1 (f_X12_note s1 s0 w) fun w_12 => some (x6, w_12)
def f_X12_act_36 (a1 : Int32) (a2 : Int32) (a3 : Int32) (a4 : Int64) (x6 : Int32) (s0 : Int32) (w : am_S) : Option (Int32 × am_S) :=
  f_X12_act_51 a1 a2 a3 a4 x6 (-1 : Int32) s0 w
def f_X12_act (a1 : Int32) (a2 : Int32) (a3 : Int32) (a4 : Int64) (w : am_S) : Option (Int32 × am_S) :=
  am_b1 (f_X12_keep w) fun w_14 => am_b2 (f_X12_doNow a1 a2 a3 a4 w_14) fun r_18 w_16 => if a1 = 0 then (f_X12_act_51 a1 a2 a3 a4 r_18 r_18 a1 w_16) else (if a1 = (1 : Int32) then (f_X12_act_36 a1 a2 a3 a4 r_18 a1 w_16) else (if a1 = (5 : Int32) then (f_X12_act_36 a1 a2 a3 a4 r_18 a1 w_16) else (if a1 = (7 : Int32) then (f_X12_act_51 a1 a2 a3 a4 r_18 a3 a1 w_16) else (f_X12_act_51 a1 a2 a3 a4 r_18 a2 a1 w_16))))
set_option maxRecDepth 100000 in
set_option maxHeartbeats 4000000 in
theorem k_X12_act {G : am_G} {l : Launch} {a1 : Int32} {a2 : Int32} {a3 : Int32} {a4 : Int64}  {w : am_S} {rr : Int32} {ww : am_S} (hf : f_X12_act a1 a2 a3 a4 w = some (rr, ww)) : am_Mi G l yX12_act (Cond.code yX12_act cX12_act 7 (some .int) :: am_T) { frames := 9, cells := 0, slots := 0, locals := 576 } [.ref (G.1 + 271), .int a1, .int a2, .int a3, .long a4] w rr ww := by
  refine Met.ofW (cc := cX12_act) (maxL := 7) (ret := (some .int)) (by decide) rfl ?_
  intro p e s m args below meth c s₁ B hml hv
  obtain ⟨rfl, hx, hb, hr, hts, hown, hlocks, hK, hE, hH⟩ := am_begin B hv
  have hown : s.vm.findClass RX12 = some m.cls := hown
  show W p l e { frames := 9, cells := 0, slots := 0, locals := 576 } s m _ below meth c s.heap [] 0 0 _ _
  have P51 : ∀ (x6 : Int32) (s0 : Int32) (s1 : Int32) (w : am_S) (H : Heap) (locs : List Loc) (ls : Array Slot), f_X12_act_51 a1 a2 a3 a4 x6 s0 s1 w = some (rr, ww) → am_H G w s H locs → lv_has ls 7 [(6, .int x6)] → W p l e { frames := 9, cells := 0, slots := 0, locals := 576 } s m [.ref (G.1 + 271), .int a1, .int a2, .int a3, .long a4].toArray below meth c H locs 0 0 (MQ below (va_Qi (fun (x : Int32) (u : am_S) => x = rr ∧ u = ww) (am_U G) (am_A G)) [.ref (G.1 + 271), .int a1, .int a2, .int a3, .long a4].toArray s 0 0 (am_A G)) (F0 m 51 ls [.int s0, .int s1, .ref (G.1 + 271)]) := by
    intro x6 s0 s1 w H locs ls hf hH hl
    unfold f_X12_act_51 at hf
    obtain ⟨w_12, hq_13, hf⟩ := am_b1_some hf
    refine am_callv (w' := w_12) (am_runV (n := 2) (As := [.int s1, .int s0]) (rest := []) ⟨hx, hb, hml, hown, hts⟩ hK hE hH (k_X12_note hq_13) (am_gV am_q1659 am_q1661 am_qs93 am_q13 am_q1662) (am_o12 (p := 271) (by decide +kernel)) rfl ⟨rfl, rfl⟩ (by decide +kernel) ⟨Nat.le_of_ble_eq_true rfl, Nat.le_of_ble_eq_true rfl⟩ rfl hl.1 rfl (Nat.le_of_ble_eq_true rfl) ⟨Nat.zero_le _, Nat.zero_le _⟩ dX12_act_51) hH (fun H locs hH => ?_)
    refine lv_iload hx hb dX12_act_54 (lv_at hl 0 rfl) ?_
    exact am_reti hx hb hr hlocks hH hf dX12_act_56
  have P36 : ∀ (x6 : Int32) (s0 : Int32) (w : am_S) (H : Heap) (locs : List Loc) (ls : Array Slot), f_X12_act_36 a1 a2 a3 a4 x6 s0 w = some (rr, ww) → am_H G w s H locs → lv_has ls 7 [(6, .int x6)] → W p l e { frames := 9, cells := 0, slots := 0, locals := 576 } s m [.ref (G.1 + 271), .int a1, .int a2, .int a3, .long a4].toArray below meth c H locs 0 0 (MQ below (va_Qi (fun (x : Int32) (u : am_S) => x = rr ∧ u = ww) (am_U G) (am_A G)) [.ref (G.1 + 271), .int a1, .int a2, .int a3, .long a4].toArray s 0 0 (am_A G)) (F0 m 36 ls [.int s0, .ref (G.1 + 271)]) := by
    intro x6 s0 w H locs ls hf hH hl
    unfold f_X12_act_36 at hf
    refine lv_iconst (v := -1) hx hb dX12_act_36 (by decide) ?_
    refine lv_goto (tgt := 51) hx hb dX12_act_37 (by decide) ?_
    exact P51 x6 (-1 : Int32) s0 w H locs ls hf hH (lv_sub hl [0] rfl)
  refine am_enter (lv := [(0, .ref (G.1 + 271)), (1, .int a1), (2, .int a2), (3, .int a3), (4, .long a4)]) (Nat.le_of_ble_eq_true rfl) rfl (fun ls hl => ?_)
  unfold f_X12_act at hf
  refine am_start hH (fun H locs hH => ?_)
  refine lv_aload_n hx hb dX12_act_0 rfl (lv_at hl 0 rfl) ?_
  obtain ⟨w_14, hq_15, hf⟩ := am_b1_some hf
  refine am_callv (w' := w_14) (am_runV (n := 0) (As := []) (rest := []) ⟨hx, hb, hml, hown, hts⟩ hK hE hH (k_X12_keep hq_15) (am_gV am_q1598 am_q1600 am_qs80 am_q13 am_q1601) (am_o12 (p := 271) (by decide +kernel)) rfl ⟨rfl, rfl⟩ (by decide +kernel) ⟨Nat.le_of_ble_eq_true rfl, Nat.le_of_ble_eq_true rfl⟩ rfl hl.1 rfl (Nat.le_of_ble_eq_true rfl) ⟨Nat.zero_le _, Nat.zero_le _⟩ dX12_act_1) hH (fun H locs hH => ?_)
  refine lv_aload_n hx hb dX12_act_4 rfl (lv_at hl 0 rfl) ?_
  refine lv_iload_n hx hb dX12_act_5 rfl (lv_at hl 1 rfl) ?_
  refine lv_iload_n hx hb dX12_act_6 rfl (lv_at hl 2 rfl) ?_
  refine lv_iload_n hx hb dX12_act_7 rfl (lv_at hl 3 rfl) ?_
  refine lv_lload hx hb dX12_act_8 (lv_at hl 4 rfl) ?_
  obtain ⟨r_18, w_16, hq_17, hf⟩ := am_b2_some hf
  refine am_calli (r := r_18) (w' := w_16) (am_runV (n := 4) (As := [.int a1, .int a2, .int a3, .long a4]) (rest := []) ⟨hx, hb, hml, hown, hts⟩ hK hE hH (k_X12_doNow hq_17) (am_gV am_q1602 am_q1604 am_qs81 am_q13 am_q1605) (am_o12 (p := 271) (by decide +kernel)) rfl ⟨rfl, rfl⟩ (by decide +kernel) ⟨Nat.le_of_ble_eq_true rfl, Nat.le_of_ble_eq_true rfl⟩ rfl hl.1 rfl (Nat.le_of_ble_eq_true rfl) ⟨Nat.zero_le _, Nat.zero_le _⟩ dX12_act_10) hH (fun H locs hH => ?_)
  refine lv_istore (lv' := [(6, .int r_18), (0, .ref (G.1 + 271)), (1, .int a1), (2, .int a2), (3, .int a3), (4, .long a4)]) hx hb dX12_act_13 hl (by decide) rfl (fun ls hl => ?_)
  refine lv_aload_n hx hb dX12_act_15 rfl (lv_at hl 1 rfl) ?_
  refine lv_iload_n hx hb dX12_act_16 rfl (lv_at hl 2 rfl) ?_
  refine lv_iload_n hx hb dX12_act_17 rfl (lv_at hl 2 rfl) ?_
  refine lv_if_ne (tgt := 26) hx hb dX12_act_18 (by decide) (fun hc_19 => ?_) (fun hc_19 => ?_)
  · have hf := (if_neg hc_19).symm.trans hf
    refine lv_iload_n hx hb dX12_act_26 rfl (lv_at hl 2 rfl) ?_
    refine lv_iconst (v := 1) hx hb dX12_act_27 (by decide) ?_
    refine lv_icmp_eq (tgt := 36) hx hb dX12_act_28 (by decide) (fun hc_20 => ?_) (fun hc_20 => ?_)
    · have hf := (if_pos hc_20).symm.trans hf
      exact P36 r_18 a1 w_16 H locs ls hf hH (lv_sub hl [0] rfl)
    · have hf := (if_neg hc_20).symm.trans hf
      refine lv_iload_n hx hb dX12_act_31 rfl (lv_at hl 2 rfl) ?_
      refine lv_iconst (v := 5) hx hb dX12_act_32 (by decide) ?_
      refine lv_icmp_ne (tgt := 40) hx hb dX12_act_33 (by decide) (fun hc_21 => ?_) (fun hc_21 => ?_)
      · have hf := (if_neg hc_21).symm.trans hf
        refine lv_iload_n hx hb dX12_act_40 rfl (lv_at hl 2 rfl) ?_
        refine lv_bipush (v := 7) hx hb dX12_act_41 (by decide) ?_
        refine lv_icmp_ne (tgt := 50) hx hb dX12_act_43 (by decide) (fun hc_22 => ?_) (fun hc_22 => ?_)
        · have hf := (if_neg hc_22).symm.trans hf
          refine lv_iload_n hx hb dX12_act_50 rfl (lv_at hl 3 rfl) ?_
          exact P51 r_18 a2 a1 w_16 H locs ls hf hH (lv_sub hl [0] rfl)
        · have hf := (if_pos hc_22).symm.trans hf
          refine lv_iload_n hx hb dX12_act_46 rfl (lv_at hl 4 rfl) ?_
          refine lv_goto (tgt := 51) hx hb dX12_act_47 (by decide) ?_
          exact P51 r_18 a3 a1 w_16 H locs ls hf hH (lv_sub hl [0] rfl)
      · have hf := (if_pos hc_21).symm.trans hf
        exact P36 r_18 a1 w_16 H locs ls hf hH (lv_sub hl [0] rfl)
  · have hf := (if_pos hc_19).symm.trans hf
    refine lv_iload hx hb dX12_act_21 (lv_at hl 0 rfl) ?_
    refine lv_goto (tgt := 51) hx hb dX12_act_23 (by decide) ?_
    exact P51 r_18 r_18 a1 w_16 H locs ls hf hH (lv_sub hl [0] rfl)

def f_X12_hand (a1 : Int32) (a2 : Int32) (a3 : Int32) (a4 : Int64) (w : am_S) : Option (Int32 × am_S) :=
  am_b2 (f_X12_whyNot a1 a2 a3 w) fun r_13 w_11 => if r_13 = (-1 : Int32) then (am_b2 (f_X12_act a1 a2 a3 a4 w_11) fun r_17 w_15 => some (r_17, w_15)) else (am_chk r_13 4 (am_chk r_13 4 (am_v (am_pi w_11 282 r_13.toNatClampNeg ((w_11.1 282 r_13.toNatClampNeg) + (1 : Int32))) fun (w_20 : am_S) => some ((-1 : Int32), w_20))))
set_option maxRecDepth 100000 in
set_option maxHeartbeats 4000000 in
theorem k_X12_hand {G : am_G} {l : Launch} {a1 : Int32} {a2 : Int32} {a3 : Int32} {a4 : Int64}  {w : am_S} {rr : Int32} {ww : am_S} (hf : f_X12_hand a1 a2 a3 a4 w = some (rr, ww)) : am_Mi G l yX12_hand (Cond.code yX12_hand cX12_hand 7 (some .int) :: am_T) { frames := 10, cells := 0, slots := 0, locals := 640 } [.ref (G.1 + 271), .int a1, .int a2, .int a3, .long a4] w rr ww := by
  refine Met.ofW (cc := cX12_hand) (maxL := 7) (ret := (some .int)) (by decide) rfl ?_
  intro p e s m args below meth c s₁ B hml hv
  obtain ⟨rfl, hx, hb, hr, hts, hown, hlocks, hK, hE, hH⟩ := am_begin B hv
  have hown : s.vm.findClass RX12 = some m.cls := hown
  show W p l e { frames := 10, cells := 0, slots := 0, locals := 640 } s m _ below meth c s.heap [] 0 0 _ _
  refine am_enter (lv := [(0, .ref (G.1 + 271)), (1, .int a1), (2, .int a2), (3, .int a3), (4, .long a4)]) (Nat.le_of_ble_eq_true rfl) rfl (fun ls hl => ?_)
  unfold f_X12_hand at hf
  refine am_start hH (fun H locs hH => ?_)
  refine lv_aload_n hx hb dX12_hand_0 rfl (lv_at hl 0 rfl) ?_
  refine lv_iload_n hx hb dX12_hand_1 rfl (lv_at hl 1 rfl) ?_
  refine lv_iload_n hx hb dX12_hand_2 rfl (lv_at hl 2 rfl) ?_
  refine lv_iload_n hx hb dX12_hand_3 rfl (lv_at hl 3 rfl) ?_
  obtain ⟨r_13, w_11, hq_12, hf⟩ := am_b2_some hf
  refine am_calli (r := r_13) (w' := w_11) (am_runV (n := 3) (As := [.int a1, .int a2, .int a3]) (rest := []) ⟨hx, hb, hml, hown, hts⟩ hK hE hH (k_X12_whyNot hq_12) (am_gV am_q1510 am_q1512 am_qs58 am_q13 am_q1513) (am_o12 (p := 271) (by decide +kernel)) rfl ⟨rfl, rfl⟩ (by decide +kernel) ⟨Nat.le_of_ble_eq_true rfl, Nat.le_of_ble_eq_true rfl⟩ rfl hl.1 rfl (Nat.le_of_ble_eq_true rfl) ⟨Nat.zero_le _, Nat.zero_le _⟩ dX12_hand_4) hH (fun H locs hH => ?_)
  refine lv_istore (lv' := [(6, .int r_13), (0, .ref (G.1 + 271)), (1, .int a1), (2, .int a2), (3, .int a3), (4, .long a4)]) hx hb dX12_hand_7 hl (by decide) rfl (fun ls hl => ?_)
  refine lv_iload hx hb dX12_hand_9 (lv_at hl 0 rfl) ?_
  refine lv_iconst (v := -1) hx hb dX12_hand_11 (by decide) ?_
  refine lv_icmp_eq (tgt := 28) hx hb dX12_hand_12 (by decide) (fun hc_14 => ?_) (fun hc_14 => ?_)
  · have hf := (if_pos hc_14).symm.trans hf
    refine lv_aload_n hx hb dX12_hand_28 rfl (lv_at hl 1 rfl) ?_
    refine lv_iload_n hx hb dX12_hand_29 rfl (lv_at hl 2 rfl) ?_
    refine lv_iload_n hx hb dX12_hand_30 rfl (lv_at hl 3 rfl) ?_
    refine lv_iload_n hx hb dX12_hand_31 rfl (lv_at hl 4 rfl) ?_
    refine lv_lload hx hb dX12_hand_32 (lv_at hl 5 rfl) ?_
    obtain ⟨r_17, w_15, hq_16, hf⟩ := am_b2_some hf
    refine am_calli (r := r_17) (w' := w_15) (am_runV (n := 4) (As := [.int a1, .int a2, .int a3, .long a4]) (rest := []) ⟨hx, hb, hml, hown, hts⟩ hK hE hH (k_X12_act hq_16) (am_gV am_q1594 am_q1596 am_qs79 am_q13 am_q1597) (am_o12 (p := 271) (by decide +kernel)) rfl ⟨rfl, rfl⟩ (by decide +kernel) ⟨Nat.le_of_ble_eq_true rfl, Nat.le_of_ble_eq_true rfl⟩ rfl hl.1 rfl (Nat.le_of_ble_eq_true rfl) ⟨Nat.zero_le _, Nat.zero_le _⟩ dX12_hand_34) hH (fun H locs hH => ?_)
    exact am_reti hx hb hr hlocks hH hf dX12_hand_37
  · have hf := (if_neg hc_14).symm.trans hf
    refine lv_aload_n hx hb dX12_hand_15 rfl (lv_at hl 1 rfl) ?_
    refine am_get hx hb hts hK hown hH (am_o12 (p := 271) (by decide +kernel)) rfl am_inX12 18 (by decide) am_q1337 (v := .ref (G.1 + 282)) rfl dX12_hand_16 ?_
    refine lv_iload hx hb dX12_hand_19 (lv_at hl 0 rfl) ?_
    refine lv_dup2_11 hx hb dX12_hand_21 rfl rfl ?_
    obtain ⟨hi_18, hf⟩ := am_chk_some hf
    refine am_iald hx hb hK hH (am_ai_of (N := 4) (by decide +kernel)) hi_18 dX12_hand_22 ?_
    refine lv_iconst (v := 1) hx hb dX12_hand_23 (by decide) ?_
    refine lv_iadd hx hb dX12_hand_24 ?_
    obtain ⟨hi_19, hf⟩ := am_chk_some hf
    obtain ⟨w_20, hw_20, hf⟩ := am_v_some hf
    refine am_iast hx hb hK hH (am_ai_of (N := 4) (by decide +kernel)) hi_19 dX12_hand_25 (fun H locs hH => ?_)
    rw [← hw_20] at hH
    refine lv_iconst (v := -1) hx hb dX12_hand_26 (by decide) ?_
    exact am_reti hx hb hr hlocks hH hf dX12_hand_27

def f_X12_capture (a1 : Int32) (w : am_S) : Option (Int32 × am_S) :=
  am_b2 (f_X12_hand (5 : Int32) a1 (0 : Int32) (0 : Int64) w) fun r_6 w_4 => some (r_6, w_4)
set_option maxRecDepth 100000 in
set_option maxHeartbeats 4000000 in
theorem k_X12_capture {G : am_G} {l : Launch} {a1 : Int32}  {w : am_S} {rr : Int32} {ww : am_S} (hf : f_X12_capture a1 w = some (rr, ww)) : am_Mi G l yX12_capture (Cond.code yX12_capture cX12_capture 2 (some .int) :: am_T) { frames := 11, cells := 0, slots := 0, locals := 704 } [.ref (G.1 + 271), .int a1] w rr ww := by
  refine Met.ofW (cc := cX12_capture) (maxL := 2) (ret := (some .int)) (by decide) rfl ?_
  intro p e s m args below meth c s₁ B hml hv
  obtain ⟨rfl, hx, hb, hr, hts, hown, hlocks, hK, hE, hH⟩ := am_begin B hv
  have hown : s.vm.findClass RX12 = some m.cls := hown
  show W p l e { frames := 11, cells := 0, slots := 0, locals := 704 } s m _ below meth c s.heap [] 0 0 _ _
  refine am_enter (lv := [(0, .ref (G.1 + 271)), (1, .int a1)]) (Nat.le_of_ble_eq_true rfl) rfl (fun ls hl => ?_)
  unfold f_X12_capture at hf
  refine am_start hH (fun H locs hH => ?_)
  refine lv_aload_n hx hb dX12_capture_0 rfl (lv_at hl 0 rfl) ?_
  refine lv_iconst (v := 5) hx hb dX12_capture_1 (by decide) ?_
  refine lv_iload_n hx hb dX12_capture_2 rfl (lv_at hl 1 rfl) ?_
  refine lv_iconst (v := 0) hx hb dX12_capture_3 (by decide) ?_
  refine lv_lconst (v := 0) hx hb dX12_capture_4 (by decide) ?_
  obtain ⟨r_6, w_4, hq_5, hf⟩ := am_b2_some hf
  refine am_calli (r := r_6) (w' := w_4) (am_runV (n := 4) (As := [.int (5 : Int32), .int a1, .int (0 : Int32), .long (0 : Int64)]) (rest := []) ⟨hx, hb, hml, hown, hts⟩ hK hE hH (k_X12_hand hq_5) (am_gV am_q1506 am_q1508 am_qs57 am_q13 am_q1509) (am_o12 (p := 271) (by decide +kernel)) rfl ⟨rfl, rfl⟩ (by decide +kernel) ⟨Nat.le_of_ble_eq_true rfl, Nat.le_of_ble_eq_true rfl⟩ rfl hl.1 rfl (Nat.le_of_ble_eq_true rfl) ⟨Nat.zero_le _, Nat.zero_le _⟩ dX12_capture_5) hH (fun H locs hH => ?_)
  exact am_reti hx hb hr hlocks hH hf dX12_capture_8

def f_X12_isAsked_38 (a1 : Int32) (a2 : Int32) (s0 : Int32) (w : am_S) : Option (Int32 × am_S) :=
  am_nar .boolean s0 (some (s0, w))
def f_X12_isAsked_37 (a1 : Int32) (a2 : Int32) (w : am_S) : Option (Int32 × am_S) :=
  f_X12_isAsked_38 a1 a2 (0 : Int32) w
def f_X12_isAsked (a1 : Int32) (a2 : Int32) (w : am_S) : Option (Int32 × am_S) :=
  am_b2 (f_X12_isUser a1 w) fun r_20 w_18 => if r_20 = 0 then (f_X12_isAsked_37 a1 a2 w_18) else (am_b2 (f_X12_isSlot a2 w_18) fun r_24 w_22 => if r_24 = 0 then (f_X12_isAsked_37 a1 a2 w_22) else (am_b2 (f_X12_isUnknown a1 w_22) fun r_28 w_26 => if r_28 = 0 then (f_X12_isAsked_37 a1 a2 w_26) else (am_b2 (f_X12_hasCopy a1 a2 w_26) fun r_32 w_30 => if r_32 = 0 then (f_X12_isAsked_37 a1 a2 w_30) else (f_X12_isAsked_38 a1 a2 (1 : Int32) w_30))))
set_option maxRecDepth 100000 in
set_option maxHeartbeats 4000000 in
theorem k_X12_isAsked {G : am_G} {l : Launch} {a1 : Int32} {a2 : Int32}  {w : am_S} {rr : Int32} {ww : am_S} (hf : f_X12_isAsked a1 a2 w = some (rr, ww)) : am_Mi G l yX12_isAsked (Cond.code yX12_isAsked cX12_isAsked 3 (some .boolean) :: am_T) { frames := 3, cells := 0, slots := 0, locals := 192 } [.ref (G.1 + 271), .int a1, .int a2] w rr ww := by
  refine Met.ofW (cc := cX12_isAsked) (maxL := 3) (ret := (some .boolean)) (by decide) rfl ?_
  intro p e s m args below meth c s₁ B hml hv
  obtain ⟨rfl, hx, hb, hr, hts, hown, hlocks, hK, hE, hH⟩ := am_begin B hv
  have hown : s.vm.findClass RX12 = some m.cls := hown
  show W p l e { frames := 3, cells := 0, slots := 0, locals := 192 } s m _ below meth c s.heap [] 0 0 _ _
  have P38 : ∀ (s0 : Int32) (w : am_S) (H : Heap) (locs : List Loc) (ls : Array Slot), f_X12_isAsked_38 a1 a2 s0 w = some (rr, ww) → am_H G w s H locs → lv_has ls 3 [] → W p l e { frames := 3, cells := 0, slots := 0, locals := 192 } s m [.ref (G.1 + 271), .int a1, .int a2].toArray below meth c H locs 0 0 (MQ below (va_Qi (fun (x : Int32) (u : am_S) => x = rr ∧ u = ww) (am_U G) (am_A G)) [.ref (G.1 + 271), .int a1, .int a2].toArray s 0 0 (am_A G)) (F0 m 38 ls [.int s0]) := by
    intro s0 w H locs ls hf hH hl
    unfold f_X12_isAsked_38 at hf
    obtain ⟨hr_17, hf⟩ := am_nar_some hf
    exact am_retz hx hb hr hr_17.1 hlocks hH hf dX12_isAsked_38
  have P37 : ∀ (w : am_S) (H : Heap) (locs : List Loc) (ls : Array Slot), f_X12_isAsked_37 a1 a2 w = some (rr, ww) → am_H G w s H locs → lv_has ls 3 [] → W p l e { frames := 3, cells := 0, slots := 0, locals := 192 } s m [.ref (G.1 + 271), .int a1, .int a2].toArray below meth c H locs 0 0 (MQ below (va_Qi (fun (x : Int32) (u : am_S) => x = rr ∧ u = ww) (am_U G) (am_A G)) [.ref (G.1 + 271), .int a1, .int a2].toArray s 0 0 (am_A G)) (F0 m 37 ls []) := by
    intro w H locs ls hf hH hl
    unfold f_X12_isAsked_37 at hf
    refine lv_iconst (v := 0) hx hb dX12_isAsked_37 (by decide) ?_
    exact P38 (0 : Int32) w H locs ls hf hH (lv_sub hl [] rfl)
  refine am_enter (lv := [(0, .ref (G.1 + 271)), (1, .int a1), (2, .int a2)]) (Nat.le_of_ble_eq_true rfl) rfl (fun ls hl => ?_)
  unfold f_X12_isAsked at hf
  refine am_start hH (fun H locs hH => ?_)
  refine lv_aload_n hx hb dX12_isAsked_0 rfl (lv_at hl 0 rfl) ?_
  refine lv_iload_n hx hb dX12_isAsked_1 rfl (lv_at hl 1 rfl) ?_
  obtain ⟨r_20, w_18, hq_19, hf⟩ := am_b2_some hf
  refine am_calli (r := r_20) (w' := w_18) (am_runV (n := 1) (As := [.int a1]) (rest := []) ⟨hx, hb, hml, hown, hts⟩ hK hE hH (k_X12_isUser hq_19) (am_gV am_q1554 am_q1556 am_qs69 am_q13 am_q1557) (am_o12 (p := 271) (by decide +kernel)) rfl ⟨rfl, rfl⟩ (by decide +kernel) ⟨Nat.le_of_ble_eq_true rfl, Nat.le_of_ble_eq_true rfl⟩ rfl hl.1 rfl (Nat.le_of_ble_eq_true rfl) ⟨Nat.zero_le _, Nat.zero_le _⟩ dX12_isAsked_2) hH (fun H locs hH => ?_)
  refine lv_if_eq (tgt := 37) hx hb dX12_isAsked_5 (by decide) (fun hc_21 => ?_) (fun hc_21 => ?_)
  · have hf := (if_pos hc_21).symm.trans hf
    exact P37 w_18 H locs ls hf hH (lv_sub hl [] rfl)
  · have hf := (if_neg hc_21).symm.trans hf
    refine lv_aload_n hx hb dX12_isAsked_8 rfl (lv_at hl 0 rfl) ?_
    refine lv_iload_n hx hb dX12_isAsked_9 rfl (lv_at hl 2 rfl) ?_
    obtain ⟨r_24, w_22, hq_23, hf⟩ := am_b2_some hf
    refine am_calli (r := r_24) (w' := w_22) (am_runV (n := 1) (As := [.int a2]) (rest := []) ⟨hx, hb, hml, hown, hts⟩ hK hE hH (k_X12_isSlot hq_23) (am_gV am_q1558 am_q1560 am_qs70 am_q13 am_q1561) (am_o12 (p := 271) (by decide +kernel)) rfl ⟨rfl, rfl⟩ (by decide +kernel) ⟨Nat.le_of_ble_eq_true rfl, Nat.le_of_ble_eq_true rfl⟩ rfl hl.1 rfl (Nat.le_of_ble_eq_true rfl) ⟨Nat.zero_le _, Nat.zero_le _⟩ dX12_isAsked_10) hH (fun H locs hH => ?_)
    refine lv_if_eq (tgt := 37) hx hb dX12_isAsked_13 (by decide) (fun hc_25 => ?_) (fun hc_25 => ?_)
    · have hf := (if_pos hc_25).symm.trans hf
      exact P37 w_22 H locs ls hf hH (lv_sub hl [] rfl)
    · have hf := (if_neg hc_25).symm.trans hf
      refine lv_aload_n hx hb dX12_isAsked_16 rfl (lv_at hl 0 rfl) ?_
      refine lv_iload_n hx hb dX12_isAsked_17 rfl (lv_at hl 1 rfl) ?_
      obtain ⟨r_28, w_26, hq_27, hf⟩ := am_b2_some hf
      refine am_calli (r := r_28) (w' := w_26) (am_runV (n := 1) (As := [.int a1]) (rest := []) ⟨hx, hb, hml, hown, hts⟩ hK hE hH (k_X12_isUnknown hq_27) (am_gV am_q1534 am_q1536 am_qs64 am_q13 am_q1537) (am_o12 (p := 271) (by decide +kernel)) rfl ⟨rfl, rfl⟩ (by decide +kernel) ⟨Nat.le_of_ble_eq_true rfl, Nat.le_of_ble_eq_true rfl⟩ rfl hl.1 rfl (Nat.le_of_ble_eq_true rfl) ⟨Nat.zero_le _, Nat.zero_le _⟩ dX12_isAsked_18) hH (fun H locs hH => ?_)
      refine lv_if_eq (tgt := 37) hx hb dX12_isAsked_21 (by decide) (fun hc_29 => ?_) (fun hc_29 => ?_)
      · have hf := (if_pos hc_29).symm.trans hf
        exact P37 w_26 H locs ls hf hH (lv_sub hl [] rfl)
      · have hf := (if_neg hc_29).symm.trans hf
        refine lv_aload_n hx hb dX12_isAsked_24 rfl (lv_at hl 0 rfl) ?_
        refine lv_iload_n hx hb dX12_isAsked_25 rfl (lv_at hl 1 rfl) ?_
        refine lv_iload_n hx hb dX12_isAsked_26 rfl (lv_at hl 2 rfl) ?_
        obtain ⟨r_32, w_30, hq_31, hf⟩ := am_b2_some hf
        refine am_calli (r := r_32) (w' := w_30) (am_runV (n := 2) (As := [.int a1, .int a2]) (rest := []) ⟨hx, hb, hml, hown, hts⟩ hK hE hH (k_X12_hasCopy hq_31) (am_gV am_q1538 am_q1540 am_qs65 am_q13 am_q1541) (am_o12 (p := 271) (by decide +kernel)) rfl ⟨rfl, rfl⟩ (by decide +kernel) ⟨Nat.le_of_ble_eq_true rfl, Nat.le_of_ble_eq_true rfl⟩ rfl hl.1 rfl (Nat.le_of_ble_eq_true rfl) ⟨Nat.zero_le _, Nat.zero_le _⟩ dX12_isAsked_27) hH (fun H locs hH => ?_)
        refine lv_if_eq (tgt := 37) hx hb dX12_isAsked_30 (by decide) (fun hc_33 => ?_) (fun hc_33 => ?_)
        · have hf := (if_pos hc_33).symm.trans hf
          exact P37 w_30 H locs ls hf hH (lv_sub hl [] rfl)
        · have hf := (if_neg hc_33).symm.trans hf
          refine lv_iconst (v := 1) hx hb dX12_isAsked_33 (by decide) ?_
          refine lv_goto (tgt := 38) hx hb dX12_isAsked_34 (by decide) ?_
          exact P38 (1 : Int32) w_30 H locs ls hf hH (lv_sub hl [] rfl)

def f_X12_clear_27 (a1 : Int32) (a2 : Int32) (s0 : Int32) (w : am_S) : Option (Int32 × am_S) :=
  some (s0, w)
def f_X12_clear (a1 : Int32) (a2 : Int32) (w : am_S) : Option (Int32 × am_S) :=
  am_b2 (f_X12_isAsked a1 a2 w) fun r_11 w_9 => if r_11 = 0 then (f_X12_clear_27 a1 a2 (-1 : Int32) w_9) else (am_b2 (f_X12_isClear a1 a2 w_9) fun r_15 w_13 => if r_15 = 0 then (f_X12_clear_27 a1 a2 (0 : Int32) w_13) else (f_X12_clear_27 a1 a2 (1 : Int32) w_13))
set_option maxRecDepth 100000 in
set_option maxHeartbeats 4000000 in
theorem k_X12_clear {G : am_G} {l : Launch} {a1 : Int32} {a2 : Int32}  {w : am_S} {rr : Int32} {ww : am_S} (hf : f_X12_clear a1 a2 w = some (rr, ww)) : am_Mi G l yX12_clear (Cond.code yX12_clear cX12_clear 3 (some .int) :: am_T) { frames := 5, cells := 0, slots := 0, locals := 320 } [.ref (G.1 + 271), .int a1, .int a2] w rr ww := by
  refine Met.ofW (cc := cX12_clear) (maxL := 3) (ret := (some .int)) (by decide) rfl ?_
  intro p e s m args below meth c s₁ B hml hv
  obtain ⟨rfl, hx, hb, hr, hts, hown, hlocks, hK, hE, hH⟩ := am_begin B hv
  have hown : s.vm.findClass RX12 = some m.cls := hown
  show W p l e { frames := 5, cells := 0, slots := 0, locals := 320 } s m _ below meth c s.heap [] 0 0 _ _
  have P27 : ∀ (s0 : Int32) (w : am_S) (H : Heap) (locs : List Loc) (ls : Array Slot), f_X12_clear_27 a1 a2 s0 w = some (rr, ww) → am_H G w s H locs → lv_has ls 3 [] → W p l e { frames := 5, cells := 0, slots := 0, locals := 320 } s m [.ref (G.1 + 271), .int a1, .int a2].toArray below meth c H locs 0 0 (MQ below (va_Qi (fun (x : Int32) (u : am_S) => x = rr ∧ u = ww) (am_U G) (am_A G)) [.ref (G.1 + 271), .int a1, .int a2].toArray s 0 0 (am_A G)) (F0 m 27 ls [.int s0]) := by
    intro s0 w H locs ls hf hH hl
    unfold f_X12_clear_27 at hf
    exact am_reti hx hb hr hlocks hH hf dX12_clear_27
  refine am_enter (lv := [(0, .ref (G.1 + 271)), (1, .int a1), (2, .int a2)]) (Nat.le_of_ble_eq_true rfl) rfl (fun ls hl => ?_)
  unfold f_X12_clear at hf
  refine am_start hH (fun H locs hH => ?_)
  refine lv_aload_n hx hb dX12_clear_0 rfl (lv_at hl 0 rfl) ?_
  refine lv_iload_n hx hb dX12_clear_1 rfl (lv_at hl 1 rfl) ?_
  refine lv_iload_n hx hb dX12_clear_2 rfl (lv_at hl 2 rfl) ?_
  obtain ⟨r_11, w_9, hq_10, hf⟩ := am_b2_some hf
  refine am_calli (r := r_11) (w' := w_9) (am_runV (n := 2) (As := [.int a1, .int a2]) (rest := []) ⟨hx, hb, hml, hown, hts⟩ hK hE hH (k_X12_isAsked hq_10) (am_gV am_q1770 am_q1772 am_qs99 am_q13 am_q1773) (am_o12 (p := 271) (by decide +kernel)) rfl ⟨rfl, rfl⟩ (by decide +kernel) ⟨Nat.le_of_ble_eq_true rfl, Nat.le_of_ble_eq_true rfl⟩ rfl hl.1 rfl (Nat.le_of_ble_eq_true rfl) ⟨Nat.zero_le _, Nat.zero_le _⟩ dX12_clear_3) hH (fun H locs hH => ?_)
  refine lv_if_ne (tgt := 13) hx hb dX12_clear_6 (by decide) (fun hc_12 => ?_) (fun hc_12 => ?_)
  · have hf := (if_neg hc_12).symm.trans hf
    refine lv_aload_n hx hb dX12_clear_13 rfl (lv_at hl 0 rfl) ?_
    refine lv_iload_n hx hb dX12_clear_14 rfl (lv_at hl 1 rfl) ?_
    refine lv_iload_n hx hb dX12_clear_15 rfl (lv_at hl 2 rfl) ?_
    obtain ⟨r_15, w_13, hq_14, hf⟩ := am_b2_some hf
    refine am_calli (r := r_15) (w' := w_13) (am_runV (n := 2) (As := [.int a1, .int a2]) (rest := []) ⟨hx, hb, hml, hown, hts⟩ hK hE hH (k_X12_isClear hq_14) (am_gV am_q1530 am_q1532 am_qs63 am_q13 am_q1533) (am_o12 (p := 271) (by decide +kernel)) rfl ⟨rfl, rfl⟩ (by decide +kernel) ⟨Nat.le_of_ble_eq_true rfl, Nat.le_of_ble_eq_true rfl⟩ rfl hl.1 rfl (Nat.le_of_ble_eq_true rfl) ⟨Nat.zero_le _, Nat.zero_le _⟩ dX12_clear_16) hH (fun H locs hH => ?_)
    refine lv_if_eq (tgt := 26) hx hb dX12_clear_19 (by decide) (fun hc_16 => ?_) (fun hc_16 => ?_)
    · have hf := (if_pos hc_16).symm.trans hf
      refine lv_iconst (v := 0) hx hb dX12_clear_26 (by decide) ?_
      exact P27 (0 : Int32) w_13 H locs ls hf hH (lv_sub hl [] rfl)
    · have hf := (if_neg hc_16).symm.trans hf
      refine lv_iconst (v := 1) hx hb dX12_clear_22 (by decide) ?_
      refine lv_goto (tgt := 27) hx hb dX12_clear_23 (by decide) ?_
      exact P27 (1 : Int32) w_13 H locs ls hf hH (lv_sub hl [] rfl)
  · have hf := (if_pos hc_12).symm.trans hf
    refine lv_iconst (v := -1) hx hb dX12_clear_9 (by decide) ?_
    refine lv_goto (tgt := 27) hx hb dX12_clear_10 (by decide) ?_
    exact P27 (-1 : Int32) w_9 H locs ls hf hH (lv_sub hl [] rfl)

def f_X12_copies_36 (a1 : Int32) (s0 : Int64) (w : am_S) : Option (Int64 × am_S) :=
  some (s0, w)
def f_X12_copies (a1 : Int32) (w : am_S) : Option (Int64 × am_S) :=
  am_b2 (f_X12_isUser a1 w) fun r_9 w_7 => if r_9 = 0 then (f_X12_copies_36 a1 (0 : Int64) w_7) else (am_chk ((20 : Int32) + a1) 245 (am_chk ((10 : Int32) + a1) 245 (f_X12_copies_36 a1 ((am_lshl ((w_7.1 281 ((20 : Int32) + a1).toNatClampNeg).toInt64) (24 : Int32)) ||| ((w_7.1 281 ((10 : Int32) + a1).toNatClampNeg).toInt64)) w_7)))
set_option maxRecDepth 100000 in
set_option maxHeartbeats 4000000 in
theorem k_X12_copies {G : am_G} {l : Launch} {a1 : Int32}  {w : am_S} {rr : Int64} {ww : am_S} (hf : f_X12_copies a1 w = some (rr, ww)) : am_Ml G l yX12_copies (Cond.code yX12_copies cX12_copies 2 (some .long) :: am_T) { frames := 2, cells := 0, slots := 0, locals := 128 } [.ref (G.1 + 271), .int a1] w rr ww := by
  refine Met.ofW (cc := cX12_copies) (maxL := 2) (ret := (some .long)) (by decide) rfl ?_
  intro p e s m args below meth c s₁ B hml hv
  obtain ⟨rfl, hx, hb, hr, hts, hown, hlocks, hK, hE, hH⟩ := am_begin B hv
  have hown : s.vm.findClass RX12 = some m.cls := hown
  show W p l e { frames := 2, cells := 0, slots := 0, locals := 128 } s m _ below meth c s.heap [] 0 0 _ _
  have P36 : ∀ (s0 : Int64) (w : am_S) (H : Heap) (locs : List Loc) (ls : Array Slot), f_X12_copies_36 a1 s0 w = some (rr, ww) → am_H G w s H locs → lv_has ls 2 [] → W p l e { frames := 2, cells := 0, slots := 0, locals := 128 } s m [.ref (G.1 + 271), .int a1].toArray below meth c H locs 0 0 (MQ below (va_Ql (fun (x : Int64) (u : am_S) => x = rr ∧ u = ww) (am_U G) (am_A G)) [.ref (G.1 + 271), .int a1].toArray s 0 0 (am_A G)) (F0 m 36 ls [.long s0]) := by
    intro s0 w H locs ls hf hH hl
    unfold f_X12_copies_36 at hf
    exact am_retl hx hb hr hlocks hH hf dX12_copies_36
  refine am_enter (lv := [(0, .ref (G.1 + 271)), (1, .int a1)]) (Nat.le_of_ble_eq_true rfl) rfl (fun ls hl => ?_)
  unfold f_X12_copies at hf
  refine am_start hH (fun H locs hH => ?_)
  refine lv_aload_n hx hb dX12_copies_0 rfl (lv_at hl 0 rfl) ?_
  refine lv_iload_n hx hb dX12_copies_1 rfl (lv_at hl 1 rfl) ?_
  obtain ⟨r_9, w_7, hq_8, hf⟩ := am_b2_some hf
  refine am_calli (r := r_9) (w' := w_7) (am_runV (n := 1) (As := [.int a1]) (rest := []) ⟨hx, hb, hml, hown, hts⟩ hK hE hH (k_X12_isUser hq_8) (am_gV am_q1554 am_q1556 am_qs69 am_q13 am_q1557) (am_o12 (p := 271) (by decide +kernel)) rfl ⟨rfl, rfl⟩ (by decide +kernel) ⟨Nat.le_of_ble_eq_true rfl, Nat.le_of_ble_eq_true rfl⟩ rfl hl.1 rfl (Nat.le_of_ble_eq_true rfl) ⟨Nat.zero_le _, Nat.zero_le _⟩ dX12_copies_2) hH (fun H locs hH => ?_)
  refine lv_if_eq (tgt := 35) hx hb dX12_copies_5 (by decide) (fun hc_10 => ?_) (fun hc_10 => ?_)
  · have hf := (if_pos hc_10).symm.trans hf
    refine lv_lconst (v := 0) hx hb dX12_copies_35 (by decide) ?_
    exact P36 (0 : Int64) w_7 H locs ls hf hH (lv_sub hl [] rfl)
  · have hf := (if_neg hc_10).symm.trans hf
    refine lv_aload_n hx hb dX12_copies_8 rfl (lv_at hl 0 rfl) ?_
    refine am_get hx hb hts hK hown hH (am_o12 (p := 271) (by decide +kernel)) rfl am_inX12 17 (by decide) am_q1336 (v := .ref (G.1 + 281)) rfl dX12_copies_9 ?_
    refine lv_bipush (v := 20) hx hb dX12_copies_12 (by decide) ?_
    refine lv_iload_n hx hb dX12_copies_14 rfl (lv_at hl 1 rfl) ?_
    refine lv_iadd hx hb dX12_copies_15 ?_
    obtain ⟨hi_11, hf⟩ := am_chk_some hf
    refine am_iald hx hb hK hH (am_ai_of (N := 245) (by decide +kernel)) hi_11 dX12_copies_16 ?_
    refine lv_i2l hx hb dX12_copies_17 rfl ?_
    refine lv_bipush (v := 24) hx hb dX12_copies_18 (by decide) ?_
    refine lv_lshl (v := am_lshl ((w_7.1 281 ((20 : Int32) + a1).toNatClampNeg).toInt64) (24 : Int32)) hx hb dX12_copies_20 rfl ?_
    refine lv_aload_n hx hb dX12_copies_21 rfl (lv_at hl 0 rfl) ?_
    refine am_get hx hb hts hK hown hH (am_o12 (p := 271) (by decide +kernel)) rfl am_inX12 17 (by decide) am_q1336 (v := .ref (G.1 + 281)) rfl dX12_copies_22 ?_
    refine lv_bipush (v := 10) hx hb dX12_copies_25 (by decide) ?_
    refine lv_iload_n hx hb dX12_copies_27 rfl (lv_at hl 1 rfl) ?_
    refine lv_iadd hx hb dX12_copies_28 ?_
    obtain ⟨hi_12, hf⟩ := am_chk_some hf
    refine am_iald hx hb hK hH (am_ai_of (N := 245) (by decide +kernel)) hi_12 dX12_copies_29 ?_
    refine lv_i2l hx hb dX12_copies_30 rfl ?_
    refine lv_lor hx hb dX12_copies_31 ?_
    refine lv_goto (tgt := 36) hx hb dX12_copies_32 (by decide) ?_
    exact P36 ((am_lshl ((w_7.1 281 ((20 : Int32) + a1).toNatClampNeg).toInt64) (24 : Int32)) ||| ((w_7.1 281 ((10 : Int32) + a1).toNatClampNeg).toInt64)) w_7 H locs ls hf hH (lv_sub hl [] rfl)

def f_X12_count (a1 : Int32) (w : am_S) : Option (Int32 × am_S) :=
  (if a1 = (0 : Int32) then (some (w.1 271 13, w)) else (if a1 = (1 : Int32) then (some (w.1 271 16, w)) else (if a1 = (2 : Int32) then (some (w.1 271 2, w)) else (if a1 = (3 : Int32) then (am_chk (64 : Int32) 245 (some (w.1 281 (64 : Int32).toNatClampNeg, w))) else (if a1 = (4 : Int32) then (some (w.1 271 23, w)) else (some ((-1000000 : Int32), w)))))))
set_option maxRecDepth 100000 in
set_option maxHeartbeats 4000000 in
theorem k_X12_count {G : am_G} {l : Launch} {a1 : Int32}  {w : am_S} {rr : Int32} {ww : am_S} (hf : f_X12_count a1 w = some (rr, ww)) : am_Mi G l yX12_count (Cond.code yX12_count cX12_count 2 (some .int) :: am_T) { frames := 0, cells := 0, slots := 0, locals := 0 } [.ref (G.1 + 271), .int a1] w rr ww := by
  refine Met.ofW (cc := cX12_count) (maxL := 2) (ret := (some .int)) (by decide) rfl ?_
  intro p e s m args below meth c s₁ B hml hv
  obtain ⟨rfl, hx, hb, hr, hts, hown, hlocks, hK, hE, hH⟩ := am_begin B hv
  have hown : s.vm.findClass RX12 = some m.cls := hown
  show W p l e { frames := 0, cells := 0, slots := 0, locals := 0 } s m _ below meth c s.heap [] 0 0 _ _
  refine am_enter (lv := [(0, .ref (G.1 + 271)), (1, .int a1)]) (Nat.le_of_ble_eq_true rfl) rfl (fun ls hl => ?_)
  unfold f_X12_count at hf
  refine am_start hH (fun H locs hH => ?_)
  refine lv_iload_n hx hb dX12_count_0 rfl (lv_at hl 1 rfl) ?_
  by_cases he_7 : a1 = (0 : Int32)
  · have hf := (if_pos he_7).symm.trans hf
    refine lv_tableIn (off := 35) (tgt := 36) hx hb dX12_count_1 (by rw [he_7]; decide) (by rw [he_7]; decide) (by rw [he_7]; rfl) (by decide) ?_
    refine lv_aload_n hx hb dX12_count_36 rfl (lv_at hl 0 rfl) ?_
    refine am_get hx hb hts hK hown hH (am_o12 (p := 271) (by decide +kernel)) rfl am_inX12 13 (by decide) am_q1332 (v := .int (w.1 271 13)) rfl dX12_count_37 ?_
    exact am_reti hx hb hr hlocks hH hf dX12_count_40
  have hf := (if_neg he_7).symm.trans hf
  by_cases he_8 : a1 = (1 : Int32)
  · have hf := (if_pos he_8).symm.trans hf
    refine lv_tableIn (off := 40) (tgt := 41) hx hb dX12_count_1 (by rw [he_8]; decide) (by rw [he_8]; decide) (by rw [he_8]; rfl) (by decide) ?_
    refine lv_aload_n hx hb dX12_count_41 rfl (lv_at hl 0 rfl) ?_
    refine am_get hx hb hts hK hown hH (am_o12 (p := 271) (by decide +kernel)) rfl am_inX12 16 (by decide) am_q1335 (v := .int (w.1 271 16)) rfl dX12_count_42 ?_
    exact am_reti hx hb hr hlocks hH hf dX12_count_45
  have hf := (if_neg he_8).symm.trans hf
  by_cases he_9 : a1 = (2 : Int32)
  · have hf := (if_pos he_9).symm.trans hf
    refine lv_tableIn (off := 45) (tgt := 46) hx hb dX12_count_1 (by rw [he_9]; decide) (by rw [he_9]; decide) (by rw [he_9]; rfl) (by decide) ?_
    refine lv_aload_n hx hb dX12_count_46 rfl (lv_at hl 0 rfl) ?_
    refine am_get hx hb hts hK hown hH (am_o12 (p := 271) (by decide +kernel)) rfl am_inX12 2 (by decide) am_q1321 (v := .int (w.1 271 2)) rfl dX12_count_47 ?_
    exact am_reti hx hb hr hlocks hH hf dX12_count_50
  have hf := (if_neg he_9).symm.trans hf
  by_cases he_10 : a1 = (3 : Int32)
  · have hf := (if_pos he_10).symm.trans hf
    refine lv_tableIn (off := 50) (tgt := 51) hx hb dX12_count_1 (by rw [he_10]; decide) (by rw [he_10]; decide) (by rw [he_10]; rfl) (by decide) ?_
    refine lv_aload_n hx hb dX12_count_51 rfl (lv_at hl 0 rfl) ?_
    refine am_get hx hb hts hK hown hH (am_o12 (p := 271) (by decide +kernel)) rfl am_inX12 17 (by decide) am_q1336 (v := .ref (G.1 + 281)) rfl dX12_count_52 ?_
    refine lv_bipush (v := 64) hx hb dX12_count_55 (by decide) ?_
    obtain ⟨hi_12, hf⟩ := am_chk_some hf
    refine am_iald hx hb hK hH (am_ai_of (N := 245) (by decide +kernel)) hi_12 dX12_count_57 ?_
    exact am_reti hx hb hr hlocks hH hf dX12_count_58
  have hf := (if_neg he_10).symm.trans hf
  by_cases he_11 : a1 = (4 : Int32)
  · have hf := (if_pos he_11).symm.trans hf
    refine lv_tableIn (off := 58) (tgt := 59) hx hb dX12_count_1 (by rw [he_11]; decide) (by rw [he_11]; decide) (by rw [he_11]; rfl) (by decide) ?_
    refine lv_aload_n hx hb dX12_count_59 rfl (lv_at hl 0 rfl) ?_
    refine am_get hx hb hts hK hown hH (am_o12 (p := 271) (by decide +kernel)) rfl am_inX12 23 (by decide) am_q1342 (v := .int (w.1 271 23)) rfl dX12_count_60 ?_
    exact am_reti hx hb hr hlocks hH hf dX12_count_63
  have hf := (if_neg he_11).symm.trans hf
  have nhe_7 := am_tne (k := 0) (0 : Int32) (by decide) he_7
  have nhe_8 := am_tne (k := 1) (1 : Int32) (by decide) he_8
  have nhe_9 := am_tne (k := 2) (2 : Int32) (by decide) he_9
  have nhe_10 := am_tne (k := 3) (3 : Int32) (by decide) he_10
  have nhe_11 := am_tne (k := 4) (4 : Int32) (by decide) he_11
  refine lv_tableOut (tgt := 64) hx hb dX12_count_1 (by omega) (by decide) ?_
  refine lv_ldcw (v := -1000000) hx hb hown (hts _ am_q1723) dX12_count_64 ?_
  exact am_reti hx hb hr hlocks hH hf dX12_count_67

def f_Jxf58ca_isNaN_12338_11 (a0 : UInt32) (s0 : Int32) (w : am_S) : Option (Int32 × am_S) :=
  am_nar .boolean s0 (some (s0, w))
def f_Jxf58ca_isNaN_12338 (a0 : UInt32) (w : am_S) : Option (Int32 × am_S) :=
  if (Op.cmpValue (FP.fcmp a0 a0) .l) = 0 then (f_Jxf58ca_isNaN_12338_11 a0 (0 : Int32) w) else (f_Jxf58ca_isNaN_12338_11 a0 (1 : Int32) w)
set_option maxRecDepth 100000 in
set_option maxHeartbeats 4000000 in
theorem k_Jxf58ca_isNaN_12338 {G : am_G} {l : Launch} {a0 : UInt32}  {w : am_S} {rr : Int32} {ww : am_S} (hf : f_Jxf58ca_isNaN_12338 a0 w = some (rr, ww)) : am_Mi G l yJxf58ca_isNaN_12338 (Cond.code yJxf58ca_isNaN_12338 cJxf58ca_isNaN_12338 1 (some .boolean) :: am_T) { frames := 0, cells := 0, slots := 0, locals := 0 } [.float a0] w rr ww := by
  refine va_MetF (cc := cJxf58ca_isNaN_12338) (maxL := 1) (ret := (some .boolean)) (by decide +kernel) rfl ?_
  intro p e s m args below meth c s₁ B hml hv
  obtain ⟨rfl, hx, hb, hr, hts, hown, hlocks, hK, hE, hH⟩ := am_begin B hv
  have hown : s.vm.findClass RJxf58ca = some m.cls := hown
  show W p l e { frames := 0, cells := 0, slots := 0, locals := 0 } s m _ below meth c s.heap [] 0 0 _ _
  have P11 : ∀ (s0 : Int32) (w : am_S) (H : Heap) (locs : List Loc) (ls : Array Slot), f_Jxf58ca_isNaN_12338_11 a0 s0 w = some (rr, ww) → am_H G w s H locs → lv_has ls 1 [] → W p l e { frames := 0, cells := 0, slots := 0, locals := 0 } s m [.float a0].toArray below meth c H locs 0 0 (MQ below (va_Qi (fun (x : Int32) (u : am_S) => x = rr ∧ u = ww) (am_U G) (am_A G)) [.float a0].toArray s 0 0 (am_A G)) (F0 m 11 ls [.int s0]) := by
    intro s0 w H locs ls hf hH hl
    unfold f_Jxf58ca_isNaN_12338_11 at hf
    obtain ⟨hr_2, hf⟩ := am_nar_some hf
    exact am_retz hx hb hr hr_2.1 hlocks hH hf dJxf58ca_isNaN_12338_11
  refine am_enter (lv := [(0, .float a0)]) (Nat.le_of_ble_eq_true rfl) rfl (fun ls hl => ?_)
  unfold f_Jxf58ca_isNaN_12338 at hf
  refine am_start hH (fun H locs hH => ?_)
  refine lv_fload_n hx hb dJxf58ca_isNaN_12338_0 rfl (lv_at hl 0 rfl) ?_
  refine lv_fload_n hx hb dJxf58ca_isNaN_12338_1 rfl (lv_at hl 0 rfl) ?_
  refine lv_fcmp hx hb dJxf58ca_isNaN_12338_2 ?_
  refine lv_if_eq (tgt := 10) hx hb dJxf58ca_isNaN_12338_3 (by decide) (fun hc_3 => ?_) (fun hc_3 => ?_)
  · have hf := (if_pos hc_3).symm.trans hf
    refine lv_iconst (v := 0) hx hb dJxf58ca_isNaN_12338_10 (by decide) ?_
    exact P11 (0 : Int32) w H locs ls hf hH (lv_sub hl [] rfl)
  · have hf := (if_neg hc_3).symm.trans hf
    refine lv_iconst (v := 1) hx hb dJxf58ca_isNaN_12338_6 (by decide) ?_
    refine lv_goto (tgt := 11) hx hb dJxf58ca_isNaN_12338_7 (by decide) ?_
    exact P11 (1 : Int32) w H locs ls hf hH (lv_sub hl [] rfl)

def f_Jxf58ca_floatToIntBits_5c35a (a0 : UInt32) (w : am_S) : Option (Int32 × am_S) :=
  am_b2 (f_Jxf58ca_isNaN_12338 a0 w) fun r_7 w_5 => if r_7 = 0 then (some (a0.toInt32, w_5)) else (some ((2143289344 : Int32), w_5))
set_option maxRecDepth 100000 in
set_option maxHeartbeats 4000000 in
theorem k_Jxf58ca_floatToIntBits_5c35a {G : am_G} {l : Launch} {a0 : UInt32}  {w : am_S} {rr : Int32} {ww : am_S} (hf : f_Jxf58ca_floatToIntBits_5c35a a0 w = some (rr, ww)) : am_Mi G l yJxf58ca_floatToIntBits_5c35a (Cond.code yJxf58ca_floatToIntBits_5c35a cJxf58ca_floatToIntBits_5c35a 1 (some .int) :: am_T) { frames := 2, cells := 0, slots := 0, locals := 128 } [.float a0] w rr ww := by
  refine va_MetF (cc := cJxf58ca_floatToIntBits_5c35a) (maxL := 1) (ret := (some .int)) (by decide +kernel) rfl ?_
  intro p e s m args below meth c s₁ B hml hv
  obtain ⟨rfl, hx, hb, hr, hts, hown, hlocks, hK, hE, hH⟩ := am_begin B hv
  have hown : s.vm.findClass RJxf58ca = some m.cls := hown
  show W p l e { frames := 2, cells := 0, slots := 0, locals := 128 } s m _ below meth c s.heap [] 0 0 _ _
  refine am_enter (lv := [(0, .float a0)]) (Nat.le_of_ble_eq_true rfl) rfl (fun ls hl => ?_)
  unfold f_Jxf58ca_floatToIntBits_5c35a at hf
  refine am_start hH (fun H locs hH => ?_)
  refine lv_fload_n hx hb dJxf58ca_floatToIntBits_5c35a_0 rfl (lv_at hl 0 rfl) ?_
  obtain ⟨r_7, w_5, hq_6, hf⟩ := am_b2_some hf
  refine am_calli (r := r_7) (w' := w_5) (am_runS (n := 1) (As := [.float a0]) (rest := []) ⟨hx, hb, hml, hown, hts⟩ hK hE hH (k_Jxf58ca_isNaN_12338 hq_6) (am_gS am_q1759 am_q1760 am_q29 am_q1761) ⟨rfl, rfl⟩ (by decide +kernel) ⟨Nat.le_of_ble_eq_true rfl, Nat.le_of_ble_eq_true rfl⟩ rfl hl.1 rfl (Nat.le_of_ble_eq_true rfl) ⟨Nat.zero_le _, Nat.zero_le _⟩ dJxf58ca_floatToIntBits_5c35a_1) hH (fun H locs hH => ?_)
  refine lv_if_ne (tgt := 12) hx hb dJxf58ca_floatToIntBits_5c35a_4 (by decide) (fun hc_8 => ?_) (fun hc_8 => ?_)
  · have hf := (if_neg hc_8).symm.trans hf
    refine lv_ldc (v := 2143289344) hx hb hown (hts _ am_q1765) dJxf58ca_floatToIntBits_5c35a_12 ?_
    exact am_reti hx hb hr hlocks hH hf dJxf58ca_floatToIntBits_5c35a_14
  · have hf := (if_pos hc_8).symm.trans hf
    refine lv_fload_n hx hb dJxf58ca_floatToIntBits_5c35a_7 rfl (lv_at hl 0 rfl) ?_
    refine vn_f2i hx hb (hml.trans hl.1.symm) hown (hts _ am_q1762) (hts _ am_q1764) (hts _ am_q1763) (hts _ am_q29) (Nat.le_of_ble_eq_true rfl) (by decide) dJxf58ca_floatToIntBits_5c35a_8 ?_
    exact am_reti hx hb hr hlocks hH hf dJxf58ca_floatToIntBits_5c35a_11

def f_X12_din_22 (a1 : Int32) (a2 : Int32) (s0 : Int32) (w : am_S) : Option (Int32 × am_S) :=
  some (s0, w)
def f_X12_din (a1 : Int32) (a2 : Int32) (w : am_S) : Option (Int32 × am_S) :=
  am_b2 (f_X12_isAsked a1 a2 w) fun r_13 w_11 => if r_13 = 0 then (f_X12_din_22 a1 a2 (-1 : Int32) w_11) else (am_b2 (f_X12_dinAt a1 a2 w_11) fun r_17 w_15 => am_b2 (f_Jxf58ca_floatToIntBits_5c35a r_17 w_15) fun r_20 w_18 => f_X12_din_22 a1 a2 r_20 w_18)
set_option maxRecDepth 100000 in
set_option maxHeartbeats 4000000 in
theorem k_X12_din {G : am_G} {l : Launch} {a1 : Int32} {a2 : Int32}  {w : am_S} {rr : Int32} {ww : am_S} (hf : f_X12_din a1 a2 w = some (rr, ww)) : am_Mi G l yX12_din (Cond.code yX12_din cX12_din 3 (some .int) :: am_T) { frames := 4, cells := 0, slots := 0, locals := 256 } [.ref (G.1 + 271), .int a1, .int a2] w rr ww := by
  refine Met.ofW (cc := cX12_din) (maxL := 3) (ret := (some .int)) (by decide) rfl ?_
  intro p e s m args below meth c s₁ B hml hv
  obtain ⟨rfl, hx, hb, hr, hts, hown, hlocks, hK, hE, hH⟩ := am_begin B hv
  have hown : s.vm.findClass RX12 = some m.cls := hown
  show W p l e { frames := 4, cells := 0, slots := 0, locals := 256 } s m _ below meth c s.heap [] 0 0 _ _
  have P22 : ∀ (s0 : Int32) (w : am_S) (H : Heap) (locs : List Loc) (ls : Array Slot), f_X12_din_22 a1 a2 s0 w = some (rr, ww) → am_H G w s H locs → lv_has ls 3 [] → W p l e { frames := 4, cells := 0, slots := 0, locals := 256 } s m [.ref (G.1 + 271), .int a1, .int a2].toArray below meth c H locs 0 0 (MQ below (va_Qi (fun (x : Int32) (u : am_S) => x = rr ∧ u = ww) (am_U G) (am_A G)) [.ref (G.1 + 271), .int a1, .int a2].toArray s 0 0 (am_A G)) (F0 m 22 ls [.int s0]) := by
    intro s0 w H locs ls hf hH hl
    unfold f_X12_din_22 at hf
    exact am_reti hx hb hr hlocks hH hf dX12_din_22
  refine am_enter (lv := [(0, .ref (G.1 + 271)), (1, .int a1), (2, .int a2)]) (Nat.le_of_ble_eq_true rfl) rfl (fun ls hl => ?_)
  unfold f_X12_din at hf
  refine am_start hH (fun H locs hH => ?_)
  refine lv_aload_n hx hb dX12_din_0 rfl (lv_at hl 0 rfl) ?_
  refine lv_iload_n hx hb dX12_din_1 rfl (lv_at hl 1 rfl) ?_
  refine lv_iload_n hx hb dX12_din_2 rfl (lv_at hl 2 rfl) ?_
  obtain ⟨r_13, w_11, hq_12, hf⟩ := am_b2_some hf
  refine am_calli (r := r_13) (w' := w_11) (am_runV (n := 2) (As := [.int a1, .int a2]) (rest := []) ⟨hx, hb, hml, hown, hts⟩ hK hE hH (k_X12_isAsked hq_12) (am_gV am_q1770 am_q1772 am_qs99 am_q13 am_q1773) (am_o12 (p := 271) (by decide +kernel)) rfl ⟨rfl, rfl⟩ (by decide +kernel) ⟨Nat.le_of_ble_eq_true rfl, Nat.le_of_ble_eq_true rfl⟩ rfl hl.1 rfl (Nat.le_of_ble_eq_true rfl) ⟨Nat.zero_le _, Nat.zero_le _⟩ dX12_din_3) hH (fun H locs hH => ?_)
  refine lv_if_eq (tgt := 21) hx hb dX12_din_6 (by decide) (fun hc_14 => ?_) (fun hc_14 => ?_)
  · have hf := (if_pos hc_14).symm.trans hf
    refine lv_iconst (v := -1) hx hb dX12_din_21 (by decide) ?_
    exact P22 (-1 : Int32) w_11 H locs ls hf hH (lv_sub hl [] rfl)
  · have hf := (if_neg hc_14).symm.trans hf
    refine lv_aload_n hx hb dX12_din_9 rfl (lv_at hl 0 rfl) ?_
    refine lv_iload_n hx hb dX12_din_10 rfl (lv_at hl 1 rfl) ?_
    refine lv_iload_n hx hb dX12_din_11 rfl (lv_at hl 2 rfl) ?_
    obtain ⟨r_17, w_15, hq_16, hf⟩ := am_b2_some hf
    refine am_callf (r := r_17) (w' := w_15) (am_runV (n := 2) (As := [.int a1, .int a2]) (rest := []) ⟨hx, hb, hml, hown, hts⟩ hK hE hH (k_X12_dinAt hq_16) (am_gV am_q1550 am_q1552 am_qs68 am_q13 am_q1553) (am_o12 (p := 271) (by decide +kernel)) rfl ⟨rfl, rfl⟩ (by decide +kernel) ⟨Nat.le_of_ble_eq_true rfl, Nat.le_of_ble_eq_true rfl⟩ rfl hl.1 rfl (Nat.le_of_ble_eq_true rfl) ⟨Nat.zero_le _, Nat.zero_le _⟩ dX12_din_12) hH (fun H locs hH => ?_)
    obtain ⟨r_20, w_18, hq_19, hf⟩ := am_b2_some hf
    refine am_calli (r := r_20) (w' := w_18) (am_runS (n := 1) (As := [.float r_17]) (rest := []) ⟨hx, hb, hml, hown, hts⟩ hK hE hH (k_Jxf58ca_floatToIntBits_5c35a hq_19) (am_gS am_q1756 am_q1757 am_q29 am_q1758) ⟨rfl, rfl⟩ (by decide +kernel) ⟨Nat.le_of_ble_eq_true rfl, Nat.le_of_ble_eq_true rfl⟩ rfl hl.1 rfl (Nat.le_of_ble_eq_true rfl) ⟨Nat.zero_le _, Nat.zero_le _⟩ dX12_din_15) hH (fun H locs hH => ?_)
    refine lv_goto (tgt := 22) hx hb dX12_din_18 (by decide) ?_
    exact P22 r_20 w_18 H locs ls hf hH (lv_sub hl [] rfl)

def f_X12_draw_ (a1 : Int32) (a2 : Int64) (w : am_S) : Option (Int32 × am_S) :=
  am_b2 (f_X12_hand (6 : Int32) a1 (0 : Int32) a2 w) fun r_6 w_4 => some (r_6, w_4)
set_option maxRecDepth 100000 in
set_option maxHeartbeats 4000000 in
theorem k_X12_draw_ {G : am_G} {l : Launch} {a1 : Int32} {a2 : Int64}  {w : am_S} {rr : Int32} {ww : am_S} (hf : f_X12_draw_ a1 a2 w = some (rr, ww)) : am_Mi G l yX12_draw_ (Cond.code yX12_draw_ cX12_draw_ 4 (some .int) :: am_T) { frames := 11, cells := 0, slots := 0, locals := 704 } [.ref (G.1 + 271), .int a1, .long a2] w rr ww := by
  refine Met.ofW (cc := cX12_draw_) (maxL := 4) (ret := (some .int)) (by decide) rfl ?_
  intro p e s m args below meth c s₁ B hml hv
  obtain ⟨rfl, hx, hb, hr, hts, hown, hlocks, hK, hE, hH⟩ := am_begin B hv
  have hown : s.vm.findClass RX12 = some m.cls := hown
  show W p l e { frames := 11, cells := 0, slots := 0, locals := 704 } s m _ below meth c s.heap [] 0 0 _ _
  refine am_enter (lv := [(0, .ref (G.1 + 271)), (1, .int a1), (2, .long a2)]) (Nat.le_of_ble_eq_true rfl) rfl (fun ls hl => ?_)
  unfold f_X12_draw_ at hf
  refine am_start hH (fun H locs hH => ?_)
  refine lv_aload_n hx hb dX12_draw__0 rfl (lv_at hl 0 rfl) ?_
  refine lv_bipush (v := 6) hx hb dX12_draw__1 (by decide) ?_
  refine lv_iload_n hx hb dX12_draw__3 rfl (lv_at hl 1 rfl) ?_
  refine lv_iconst (v := 0) hx hb dX12_draw__4 (by decide) ?_
  refine lv_lload_n hx hb dX12_draw__5 rfl (lv_at hl 2 rfl) ?_
  obtain ⟨r_6, w_4, hq_5, hf⟩ := am_b2_some hf
  refine am_calli (r := r_6) (w' := w_4) (am_runV (n := 4) (As := [.int (6 : Int32), .int a1, .int (0 : Int32), .long a2]) (rest := []) ⟨hx, hb, hml, hown, hts⟩ hK hE hH (k_X12_hand hq_5) (am_gV am_q1506 am_q1508 am_qs57 am_q13 am_q1509) (am_o12 (p := 271) (by decide +kernel)) rfl ⟨rfl, rfl⟩ (by decide +kernel) ⟨Nat.le_of_ble_eq_true rfl, Nat.le_of_ble_eq_true rfl⟩ rfl hl.1 rfl (Nat.le_of_ble_eq_true rfl) ⟨Nat.zero_le _, Nat.zero_le _⟩ dX12_draw__6) hH (fun H locs hH => ?_)
  exact am_reti hx hb hr hlocks hH hf dX12_draw__9

def f_X12_end (a1 : Int32) (w : am_S) : Option (Int32 × am_S) :=
  am_b2 (f_X12_in a1 (0 : Int32) (w.1 271 2) w) fun r_8 w_6 => if r_8 = 0 then (some ((0 : Int32), w_6)) else (am_v (am_pi w_6 271 2 a1) fun (w_10 : am_S) => some ((1 : Int32), w_10))
set_option maxRecDepth 100000 in
set_option maxHeartbeats 4000000 in
theorem k_X12_end {G : am_G} {l : Launch} {a1 : Int32}  {w : am_S} {rr : Int32} {ww : am_S} (hf : f_X12_end a1 w = some (rr, ww)) : am_Mi G l yX12_end (Cond.code yX12_end cX12_end 2 (some .boolean) :: am_T) { frames := 1, cells := 0, slots := 0, locals := 64 } [.ref (G.1 + 271), .int a1] w rr ww := by
  refine Met.ofW (cc := cX12_end) (maxL := 2) (ret := (some .boolean)) (by decide) rfl ?_
  intro p e s m args below meth c s₁ B hml hv
  obtain ⟨rfl, hx, hb, hr, hts, hown, hlocks, hK, hE, hH⟩ := am_begin B hv
  have hown : s.vm.findClass RX12 = some m.cls := hown
  show W p l e { frames := 1, cells := 0, slots := 0, locals := 64 } s m _ below meth c s.heap [] 0 0 _ _
  refine am_enter (lv := [(0, .ref (G.1 + 271)), (1, .int a1)]) (Nat.le_of_ble_eq_true rfl) rfl (fun ls hl => ?_)
  unfold f_X12_end at hf
  refine am_start hH (fun H locs hH => ?_)
  refine lv_iload_n hx hb dX12_end_0 rfl (lv_at hl 1 rfl) ?_
  refine lv_iconst (v := 0) hx hb dX12_end_1 (by decide) ?_
  refine lv_aload_n hx hb dX12_end_2 rfl (lv_at hl 0 rfl) ?_
  refine am_get hx hb hts hK hown hH (am_o12 (p := 271) (by decide +kernel)) rfl am_inX12 2 (by decide) am_q1321 (v := .int (w.1 271 2)) rfl dX12_end_3 ?_
  obtain ⟨r_8, w_6, hq_7, hf⟩ := am_b2_some hf
  refine am_calli (r := r_8) (w' := w_6) (am_runS (n := 3) (As := [.int a1, .int (0 : Int32), .int (w.1 271 2)]) (rest := []) ⟨hx, hb, hml, hown, hts⟩ hK hE hH (k_X12_in hq_7) (am_gS am_q1425 am_q1426 am_q13 am_q1427) ⟨rfl, rfl⟩ (by decide +kernel) ⟨Nat.le_of_ble_eq_true rfl, Nat.le_of_ble_eq_true rfl⟩ rfl hl.1 rfl (Nat.le_of_ble_eq_true rfl) ⟨Nat.zero_le _, Nat.zero_le _⟩ dX12_end_6) hH (fun H locs hH => ?_)
  refine lv_if_ne (tgt := 14) hx hb dX12_end_9 (by decide) (fun hc_9 => ?_) (fun hc_9 => ?_)
  · have hf := (if_neg hc_9).symm.trans hf
    refine lv_aload_n hx hb dX12_end_14 rfl (lv_at hl 0 rfl) ?_
    refine lv_iload_n hx hb dX12_end_15 rfl (lv_at hl 1 rfl) ?_
    obtain ⟨w_10, hw_10, hf⟩ := am_v_some hf
    refine am_puti hx hb hts hK hown hH (am_o12 (p := 271) (by decide +kernel)) rfl am_inX12 tyX12 tyX12_ok nmX12 2 (by decide) am_q1321 rfl rfl rfl (fun _ _ => Nat.le_of_ble_eq_true rfl) (fun _ _ _ => rfl) dX12_end_16 (fun H locs hH => ?_)
    rw [← hw_10] at hH
    refine lv_iconst (v := 1) hx hb dX12_end_19 (by decide) ?_
    exact am_retz hx hb hr rfl hlocks hH hf dX12_end_20
  · have hf := (if_pos hc_9).symm.trans hf
    refine lv_iconst (v := 0) hx hb dX12_end_12 (by decide) ?_
    exact am_retz hx hb hr rfl hlocks hH hf dX12_end_13

def f_X12_usual_51 (a0 : Int32) (a1 : Int32) (s0 : Int32) (w : am_S) : Option (Int32 × am_S) :=
  some (s0, w)
def f_X12_usual_25 (a0 : Int32) (a1 : Int32) (s0 : Int32) (w : am_S) : Option (Int32 × am_S) :=
  some (s0, w)
def f_X12_usual (a0 : Int32) (a1 : Int32) (w : am_S) : Option (Int32 × am_S) :=
  if a0 = (115 : Int32) then (if a1 = 0 then (f_X12_usual_25 a0 a1 (8 : Int32) w) else (if a1 = (1 : Int32) then (f_X12_usual_25 a0 a1 (1 : Int32) w) else (f_X12_usual_25 a0 a1 (0 : Int32) w))) else (if a0 = (117 : Int32) then (if a1 = 0 then (f_X12_usual_51 a0 a1 (10 : Int32) w) else (if a1 = (1 : Int32) then (f_X12_usual_51 a0 a1 (1 : Int32) w) else (f_X12_usual_51 a0 a1 (0 : Int32) w))) else (some ((1 : Int32), w)))
set_option maxRecDepth 100000 in
set_option maxHeartbeats 4000000 in
theorem k_X12_usual {G : am_G} {l : Launch} {a0 : Int32} {a1 : Int32}  {w : am_S} {rr : Int32} {ww : am_S} (hf : f_X12_usual a0 a1 w = some (rr, ww)) : am_Mi G l yX12_usual (Cond.code yX12_usual cX12_usual 2 (some .int) :: am_T) { frames := 0, cells := 0, slots := 0, locals := 0 } [.int a0, .int a1] w rr ww := by
  refine Met.ofW (cc := cX12_usual) (maxL := 2) (ret := (some .int)) (by decide) rfl ?_
  intro p e s m args below meth c s₁ B hml hv
  obtain ⟨rfl, hx, hb, hr, hts, hown, hlocks, hK, hE, hH⟩ := am_begin B hv
  have hown : s.vm.findClass RX12 = some m.cls := hown
  show W p l e { frames := 0, cells := 0, slots := 0, locals := 0 } s m _ below meth c s.heap [] 0 0 _ _
  have P51 : ∀ (s0 : Int32) (w : am_S) (H : Heap) (locs : List Loc) (ls : Array Slot), f_X12_usual_51 a0 a1 s0 w = some (rr, ww) → am_H G w s H locs → lv_has ls 2 [] → W p l e { frames := 0, cells := 0, slots := 0, locals := 0 } s m [.int a0, .int a1].toArray below meth c H locs 0 0 (MQ below (va_Qi (fun (x : Int32) (u : am_S) => x = rr ∧ u = ww) (am_U G) (am_A G)) [.int a0, .int a1].toArray s 0 0 (am_A G)) (F0 m 51 ls [.int s0]) := by
    intro s0 w H locs ls hf hH hl
    unfold f_X12_usual_51 at hf
    exact am_reti hx hb hr hlocks hH hf dX12_usual_51
  have P25 : ∀ (s0 : Int32) (w : am_S) (H : Heap) (locs : List Loc) (ls : Array Slot), f_X12_usual_25 a0 a1 s0 w = some (rr, ww) → am_H G w s H locs → lv_has ls 2 [] → W p l e { frames := 0, cells := 0, slots := 0, locals := 0 } s m [.int a0, .int a1].toArray below meth c H locs 0 0 (MQ below (va_Qi (fun (x : Int32) (u : am_S) => x = rr ∧ u = ww) (am_U G) (am_A G)) [.int a0, .int a1].toArray s 0 0 (am_A G)) (F0 m 25 ls [.int s0]) := by
    intro s0 w H locs ls hf hH hl
    unfold f_X12_usual_25 at hf
    exact am_reti hx hb hr hlocks hH hf dX12_usual_25
  refine am_enter (lv := [(0, .int a0), (1, .int a1)]) (Nat.le_of_ble_eq_true rfl) rfl (fun ls hl => ?_)
  unfold f_X12_usual at hf
  refine am_start hH (fun H locs hH => ?_)
  refine lv_iload_n hx hb dX12_usual_0 rfl (lv_at hl 0 rfl) ?_
  refine lv_bipush (v := 115) hx hb dX12_usual_1 (by decide) ?_
  refine lv_icmp_ne (tgt := 26) hx hb dX12_usual_3 (by decide) (fun hc_7 => ?_) (fun hc_7 => ?_)
  · have hf := (if_neg hc_7).symm.trans hf
    refine lv_iload_n hx hb dX12_usual_26 rfl (lv_at hl 0 rfl) ?_
    refine lv_bipush (v := 117) hx hb dX12_usual_27 (by decide) ?_
    refine lv_icmp_ne (tgt := 52) hx hb dX12_usual_29 (by decide) (fun hc_8 => ?_) (fun hc_8 => ?_)
    · have hf := (if_neg hc_8).symm.trans hf
      refine lv_iconst (v := 1) hx hb dX12_usual_52 (by decide) ?_
      exact am_reti hx hb hr hlocks hH hf dX12_usual_53
    · have hf := (if_pos hc_8).symm.trans hf
      refine lv_iload_n hx hb dX12_usual_32 rfl (lv_at hl 1 rfl) ?_
      refine lv_if_ne (tgt := 41) hx hb dX12_usual_33 (by decide) (fun hc_9 => ?_) (fun hc_9 => ?_)
      · have hf := (if_neg hc_9).symm.trans hf
        refine lv_iload_n hx hb dX12_usual_41 rfl (lv_at hl 1 rfl) ?_
        refine lv_iconst (v := 1) hx hb dX12_usual_42 (by decide) ?_
        refine lv_icmp_ne (tgt := 50) hx hb dX12_usual_43 (by decide) (fun hc_10 => ?_) (fun hc_10 => ?_)
        · have hf := (if_neg hc_10).symm.trans hf
          refine lv_iconst (v := 0) hx hb dX12_usual_50 (by decide) ?_
          exact P51 (0 : Int32) w H locs ls hf hH (lv_sub hl [] rfl)
        · have hf := (if_pos hc_10).symm.trans hf
          refine lv_iconst (v := 1) hx hb dX12_usual_46 (by decide) ?_
          refine lv_goto (tgt := 51) hx hb dX12_usual_47 (by decide) ?_
          exact P51 (1 : Int32) w H locs ls hf hH (lv_sub hl [] rfl)
      · have hf := (if_pos hc_9).symm.trans hf
        refine lv_bipush (v := 10) hx hb dX12_usual_36 (by decide) ?_
        refine lv_goto (tgt := 51) hx hb dX12_usual_38 (by decide) ?_
        exact P51 (10 : Int32) w H locs ls hf hH (lv_sub hl [] rfl)
  · have hf := (if_pos hc_7).symm.trans hf
    refine lv_iload_n hx hb dX12_usual_6 rfl (lv_at hl 1 rfl) ?_
    refine lv_if_ne (tgt := 15) hx hb dX12_usual_7 (by decide) (fun hc_11 => ?_) (fun hc_11 => ?_)
    · have hf := (if_neg hc_11).symm.trans hf
      refine lv_iload_n hx hb dX12_usual_15 rfl (lv_at hl 1 rfl) ?_
      refine lv_iconst (v := 1) hx hb dX12_usual_16 (by decide) ?_
      refine lv_icmp_ne (tgt := 24) hx hb dX12_usual_17 (by decide) (fun hc_12 => ?_) (fun hc_12 => ?_)
      · have hf := (if_neg hc_12).symm.trans hf
        refine lv_iconst (v := 0) hx hb dX12_usual_24 (by decide) ?_
        exact P25 (0 : Int32) w H locs ls hf hH (lv_sub hl [] rfl)
      · have hf := (if_pos hc_12).symm.trans hf
        refine lv_iconst (v := 1) hx hb dX12_usual_20 (by decide) ?_
        refine lv_goto (tgt := 25) hx hb dX12_usual_21 (by decide) ?_
        exact P25 (1 : Int32) w H locs ls hf hH (lv_sub hl [] rfl)
    · have hf := (if_pos hc_11).symm.trans hf
      refine lv_bipush (v := 8) hx hb dX12_usual_10 (by decide) ?_
      refine lv_goto (tgt := 25) hx hb dX12_usual_12 (by decide) ?_
      exact P25 (8 : Int32) w H locs ls hf hH (lv_sub hl [] rfl)

def f_X12_here_24  (s0 : Int32) (w : am_S) : Option (Int32 × am_S) :=
  some (s0, w)
def f_X12_here  (w : am_S) : Option (Int32 × am_S) :=
  if (w.1 271 2) ≤ (w.1 271 3) then (f_X12_here_24 (-1 : Int32) w) else (am_chk (w.1 271 3) 240 (f_X12_here_24 (w.1 272 (w.1 271 3).toNatClampNeg) w))
set_option maxRecDepth 100000 in
set_option maxHeartbeats 4000000 in
theorem k_X12_here {G : am_G} {l : Launch}   {w : am_S} {rr : Int32} {ww : am_S} (hf : f_X12_here  w = some (rr, ww)) : am_Mi G l yX12_here (Cond.code yX12_here cX12_here 1 (some .int) :: am_T) { frames := 0, cells := 0, slots := 0, locals := 0 } [.ref (G.1 + 271)] w rr ww := by
  refine Met.ofW (cc := cX12_here) (maxL := 1) (ret := (some .int)) (by decide) rfl ?_
  intro p e s m args below meth c s₁ B hml hv
  obtain ⟨rfl, hx, hb, hr, hts, hown, hlocks, hK, hE, hH⟩ := am_begin B hv
  have hown : s.vm.findClass RX12 = some m.cls := hown
  show W p l e { frames := 0, cells := 0, slots := 0, locals := 0 } s m _ below meth c s.heap [] 0 0 _ _
  have P24 : ∀ (s0 : Int32) (w : am_S) (H : Heap) (locs : List Loc) (ls : Array Slot), f_X12_here_24 s0 w = some (rr, ww) → am_H G w s H locs → lv_has ls 1 [] → W p l e { frames := 0, cells := 0, slots := 0, locals := 0 } s m [.ref (G.1 + 271)].toArray below meth c H locs 0 0 (MQ below (va_Qi (fun (x : Int32) (u : am_S) => x = rr ∧ u = ww) (am_U G) (am_A G)) [.ref (G.1 + 271)].toArray s 0 0 (am_A G)) (F0 m 24 ls [.int s0]) := by
    intro s0 w H locs ls hf hH hl
    unfold f_X12_here_24 at hf
    exact am_reti hx hb hr hlocks hH hf dX12_here_24
  refine am_enter (lv := [(0, .ref (G.1 + 271))]) (Nat.le_of_ble_eq_true rfl) rfl (fun ls hl => ?_)
  unfold f_X12_here at hf
  refine am_start hH (fun H locs hH => ?_)
  refine lv_aload_n hx hb dX12_here_0 rfl (lv_at hl 0 rfl) ?_
  refine am_get hx hb hts hK hown hH (am_o12 (p := 271) (by decide +kernel)) rfl am_inX12 3 (by decide) am_q1322 (v := .int (w.1 271 3)) rfl dX12_here_1 ?_
  refine lv_aload_n hx hb dX12_here_4 rfl (lv_at hl 0 rfl) ?_
  refine am_get hx hb hts hK hown hH (am_o12 (p := 271) (by decide +kernel)) rfl am_inX12 2 (by decide) am_q1321 (v := .int (w.1 271 2)) rfl dX12_here_5 ?_
  refine lv_icmp_ge (tgt := 23) hx hb dX12_here_8 (by decide) (fun hc_3 => ?_) (fun hc_3 => ?_)
  · have hf := (if_pos hc_3).symm.trans hf
    refine lv_iconst (v := -1) hx hb dX12_here_23 (by decide) ?_
    exact P24 (-1 : Int32) w H locs ls hf hH (lv_sub hl [] rfl)
  · have hf := (if_neg hc_3).symm.trans hf
    refine lv_aload_n hx hb dX12_here_11 rfl (lv_at hl 0 rfl) ?_
    refine am_get hx hb hts hK hown hH (am_o12 (p := 271) (by decide +kernel)) rfl am_inX12 1 (by decide) am_q1320 (v := .ref (G.1 + 272)) rfl dX12_here_12 ?_
    refine lv_aload_n hx hb dX12_here_15 rfl (lv_at hl 0 rfl) ?_
    refine am_get hx hb hts hK hown hH (am_o12 (p := 271) (by decide +kernel)) rfl am_inX12 3 (by decide) am_q1322 (v := .int (w.1 271 3)) rfl dX12_here_16 ?_
    obtain ⟨hi_4, hf⟩ := am_chk_some hf
    refine am_iald hx hb hK hH (am_ai_of (N := 240) (by decide +kernel)) hi_4 dX12_here_19 ?_
    refine lv_goto (tgt := 24) hx hb dX12_here_20 (by decide) ?_
    exact P24 (w.1 272 (w.1 271 3).toNatClampNeg) w H locs ls hf hH (lv_sub hl [] rfl)
