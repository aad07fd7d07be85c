/-! functions and contracts of methods, by program (wip/whole/gen.py) -/
def f_X12_limit_14  (w : am_S) : Option (Int32 × am_S) :=
  some ((-1 : Int32), w)
def f_X12_limit_19b  (x1 : Int32) (w : am_S) : Option ((Int32 × am_S) ⊕ (Int32 × am_S)) :=
  if x1 ≤ 0 then (am_x (some ((-1 : Int32), w))) else (am_b2 (f_X12_shareOf x1 (40 : Int32) w) fun r_19 w_17 => if 0 ≤ (Op.cmpValue (FP.dcmp r_19 (4562254508917369340 : UInt64)) .g) then (am_v (x1 + (-1 : Int32)) fun (x1_21 : Int32) => some (.inr (x1_21, w_17))) else (am_x (some (x1, w_17))))
def f_X12_limit_19  (x1 : Int32) (w : am_S) : Option (Int32 × am_S) :=
  am_loop (fun (st : (Int32 × am_S)) => f_X12_limit_19b st.1 st.2) am_fuel (x1, w)
def f_X12_limit  (w : am_S) : Option (Int32 × am_S) :=
  am_b2 (f_X12_isField w) fun r_25 w_23 => if r_25 = 0 then (f_X12_limit_14 w_23) else (am_b2 (f_X12_degreesOfAll w_23) fun r_29 w_27 => if r_29 = 0 then (f_X12_limit_14 w_27) else (f_X12_limit_19 (60 : Int32) w_27))
set_option maxRecDepth 100000 in
set_option maxHeartbeats 4000000 in
theorem k_X12_limit {G : am_G} {l : Launch}   {w : am_S} {rr : Int32} {ww : am_S} (hf : f_X12_limit  w = some (rr, ww)) : am_Mi G l yX12_limit (Cond.code yX12_limit cX12_limit 2 (some .int) :: am_T) { frames := 3, cells := 0, slots := 0, locals := 192 } [.ref (G.1 + 271)] w rr ww := by
  refine Met.ofW (cc := cX12_limit) (maxL := 2) (ret := (some .int)) (by decide) rfl ?_
  intro p e s m args below meth c s₁ B hml hv
  obtain ⟨rfl, hx, hb, hr, hts, hown, hlocks, hK, hE, hH⟩ := am_begin B hv
  have hown : s.vm.findClass RX12 = some m.cls := hown
  show W p l e { frames := 3, cells := 0, slots := 0, locals := 192 } s m _ below meth c s.heap [] 0 0 _ _
  have P14 : ∀ (w : am_S) (H : Heap) (locs : List Loc) (ls : Array Slot), f_X12_limit_14 w = some (rr, ww) → am_H G w s H locs → lv_has ls 2 [] → W p l e { frames := 3, cells := 0, slots := 0, locals := 192 } s m [.ref (G.1 + 271)].toArray below meth c H locs 0 0 (MQ below (va_Qi (fun (x : Int32) (u : am_S) => x = rr ∧ u = ww) (am_U G) (am_A G)) [.ref (G.1 + 271)].toArray s 0 0 (am_A G)) (F0 m 14 ls []) := by
    intro w H locs ls hf hH hl
    unfold f_X12_limit_14 at hf
    refine lv_iconst (v := -1) hx hb dX12_limit_14 (by decide) ?_
    exact am_reti hx hb hr hlocks hH hf dX12_limit_15
  have P19 : ∀ (n1 : Nat) (x1 : Int32) (w : am_S) (H : Heap) (locs : List Loc) (ls : Array Slot), am_loop (fun (st : (Int32 × am_S)) => f_X12_limit_19b st.1 st.2) n1 (x1, w) = some (rr, ww) → am_H G w s H locs → lv_has ls 2 [(0, .ref (G.1 + 271)), (1, .int x1)] → W p l e { frames := 3, cells := 0, slots := 0, locals := 192 } s m [.ref (G.1 + 271)].toArray below meth c H locs 0 0 (MQ below (va_Qi (fun (x : Int32) (u : am_S) => x = rr ∧ u = ww) (am_U G) (am_A G)) [.ref (G.1 + 271)].toArray s 0 0 (am_A G)) (F0 m 19 ls []) := by
    intro n1
    induction n1 with
    | zero =>
      intro x1 w H locs ls hf hH hl
      exact (am_loop_zero hf).elim
    | succ n1 ih1 =>
      intro x1 w H locs ls hf hH hl
      obtain ⟨z1, hf, hk1⟩ := am_loop_succ hf
      have hf : f_X12_limit_19b x1 w = some z1 := hf
      unfold f_X12_limit_19b at hf
      refine lv_iload_n hx hb dX12_limit_19 rfl (lv_at hl 1 rfl) ?_
      refine lv_if_le (tgt := 45) hx hb dX12_limit_20 (by decide) (fun hc_15 => ?_) (fun hc_15 => ?_)
      · have hf := (if_pos hc_15).symm.trans hf
        obtain ⟨y_16, hf, hzy_16⟩ := am_x_some hf
        rw [hzy_16] at hk1
        have hf := hf.trans (congrArg some (show y_16 = (rr, ww) from hk1))
        refine lv_iconst (v := -1) hx hb dX12_limit_45 (by decide) ?_
        exact am_reti hx hb hr hlocks hH hf dX12_limit_46
      · have hf := (if_neg hc_15).symm.trans hf
        refine lv_aload_n hx hb dX12_limit_23 rfl (lv_at hl 0 rfl) ?_
        refine lv_iload_n hx hb dX12_limit_24 rfl (lv_at hl 1 rfl) ?_
        refine lv_bipush (v := 40) hx hb dX12_limit_25 (by decide) ?_
        obtain ⟨r_19, w_17, hq_18, hf⟩ := am_b2_some hf
        refine am_calld (r := r_19) (w' := w_17) (am_runV (n := 2) (As := [.int x1, .int (40 : Int32)]) (rest := []) ⟨hx, hb, hml, hown, hts⟩ hK hE hH (k_X12_shareOf hq_18) (am_gV am_q1909 am_q1911 am_qs113 am_q13 am_q1912) (am_o12 (p := 271) (by decide +kernel)) rfl ⟨rfl, rfl⟩ (by decide +kernel) ⟨Nat.le_of_ble_eq_true rfl, Nat.le_of_ble_eq_true rfl⟩ rfl hl.1 rfl (Nat.le_of_ble_eq_true rfl) ⟨Nat.zero_le _, Nat.zero_le _⟩ dX12_limit_27) hH (fun H locs hH => ?_)
        refine lv_ldc2d (v := 4562254508917369340) hx hb hown (hts _ am_q1937) dX12_limit_30 ?_
        refine lv_dcmp hx hb dX12_limit_33 ?_
        refine lv_if_ge (tgt := 39) hx hb dX12_limit_34 (by decide) (fun hc_20 => ?_) (fun hc_20 => ?_)
        · have hf := (if_pos hc_20).symm.trans hf
          obtain ⟨x1_21, hx1_21, hf⟩ := am_v_some hf
          refine lv_iinc (v := x1_21) (lv' := [(1, .int x1_21), (0, .ref (G.1 + 271))]) hx hb dX12_limit_39 hl (k := 1) rfl (by rw [hx1_21]; rfl) (by decide) rfl (fun ls hl => ?_)
          refine lv_goto (tgt := 19) hx hb dX12_limit_42 (by decide) ?_
          obtain rfl := Option.some.inj hf
          exact ih1 x1_21 w_17 H locs ls hk1 hH (lv_sub hl [1, 0] rfl)
        · have hf := (if_neg hc_20).symm.trans hf
          obtain ⟨y_22, hf, hzy_22⟩ := am_x_some hf
          rw [hzy_22] at hk1
          have hf := hf.trans (congrArg some (show y_22 = (rr, ww) from hk1))
          refine lv_iload_n hx hb dX12_limit_37 rfl (lv_at hl 1 rfl) ?_
          exact am_reti hx hb hr hlocks hH hf dX12_limit_38
  refine am_enter (lv := [(0, .ref (G.1 + 271))]) (Nat.le_of_ble_eq_true rfl) rfl (fun ls hl => ?_)
  unfold f_X12_limit at hf
  refine am_start hH (fun H locs hH => ?_)
  refine lv_aload_n hx hb dX12_limit_0 rfl (lv_at hl 0 rfl) ?_
  obtain ⟨r_25, w_23, hq_24, hf⟩ := am_b2_some hf
  refine am_calli (r := r_25) (w' := w_23) (am_runV (n := 0) (As := []) (rest := []) ⟨hx, hb, hml, hown, hts⟩ hK hE hH (k_X12_isField hq_24) (am_gV am_q1514 am_q1516 am_qs59 am_q13 am_q1517) (am_o12 (p := 271) (by decide +kernel)) rfl ⟨rfl, rfl⟩ (by decide +kernel) ⟨Nat.le_of_ble_eq_true rfl, Nat.le_of_ble_eq_true rfl⟩ rfl hl.1 rfl (Nat.le_of_ble_eq_true rfl) ⟨Nat.zero_le _, Nat.zero_le _⟩ dX12_limit_1) hH (fun H locs hH => ?_)
  refine lv_if_eq (tgt := 14) hx hb dX12_limit_4 (by decide) (fun hc_26 => ?_) (fun hc_26 => ?_)
  · have hf := (if_pos hc_26).symm.trans hf
    exact P14 w_23 H locs ls hf hH (lv_sub hl [] rfl)
  · have hf := (if_neg hc_26).symm.trans hf
    refine lv_aload_n hx hb dX12_limit_7 rfl (lv_at hl 0 rfl) ?_
    obtain ⟨r_29, w_27, hq_28, hf⟩ := am_b2_some hf
    refine am_calli (r := r_29) (w' := w_27) (am_runV (n := 0) (As := []) (rest := []) ⟨hx, hb, hml, hown, hts⟩ hK hE hH (k_X12_degreesOfAll hq_28) (am_gV am_q1574 am_q1576 am_qs74 am_q13 am_q1577) (am_o12 (p := 271) (by decide +kernel)) rfl ⟨rfl, rfl⟩ (by decide +kernel) ⟨Nat.le_of_ble_eq_true rfl, Nat.le_of_ble_eq_true rfl⟩ rfl hl.1 rfl (Nat.le_of_ble_eq_true rfl) ⟨Nat.zero_le _, Nat.zero_le _⟩ dX12_limit_8) hH (fun H locs hH => ?_)
    refine lv_if_ne (tgt := 16) hx hb dX12_limit_11 (by decide) (fun hc_30 => ?_) (fun hc_30 => ?_)
    · have hf := (if_neg hc_30).symm.trans hf
      refine lv_bipush (v := 60) hx hb dX12_limit_16 (by decide) ?_
      refine lv_istore_n (lv' := [(1, .int (60 : Int32)), (0, .ref (G.1 + 271))]) hx hb dX12_limit_18 rfl hl (by decide) rfl (fun ls hl => ?_)
      exact P19 am_fuel (60 : Int32) w_27 H locs ls hf hH (lv_sub hl [1, 0] rfl)
    · have hf := (if_pos hc_30).symm.trans hf
      exact P14 w_27 H locs ls hf hH (lv_sub hl [] rfl)

def f_X12_load_33 (a1 : Int32) (s0 : Int32) (w : am_S) : Option (Int32 × am_S) :=
  some (s0, w)
def f_X12_load_32 (a1 : Int32) (w : am_S) : Option (Int32 × am_S) :=
  f_X12_load_33 a1 (-1 : Int32) w
def f_X12_load (a1 : Int32) (w : am_S) : Option (Int32 × am_S) :=
  am_b2 (f_X12_isField w) fun r_15 w_13 => if r_15 = 0 then (f_X12_load_32 a1 w_13) else (am_b2 (f_X12_in a1 (0 : Int32) (999 : Int32) w_13) fun r_19 w_17 => if r_19 = 0 then (f_X12_load_32 a1 w_17) else (am_b2 (f_X12_slotMany w_17) fun r_23 w_21 => am_nz r_23 (f_X12_load_33 a1 ((a1 * (w_17.1 271 13)) / r_23) w_21)))
set_option maxRecDepth 100000 in
set_option maxHeartbeats 4000000 in
theorem k_X12_load {G : am_G} {l : Launch} {a1 : Int32}  {w : am_S} {rr : Int32} {ww : am_S} (hf : f_X12_load a1 w = some (rr, ww)) : am_Mi G l yX12_load (Cond.code yX12_load cX12_load 2 (some .int) :: am_T) { frames := 2, cells := 0, slots := 0, locals := 128 } [.ref (G.1 + 271), .int a1] w rr ww := by
  refine Met.ofW (cc := cX12_load) (maxL := 2) (ret := (some .int)) (by decide) rfl ?_
  intro p e s m args below meth c s₁ B hml hv
  obtain ⟨rfl, hx, hb, hr, hts, hown, hlocks, hK, hE, hH⟩ := am_begin B hv
  have hown : s.vm.findClass RX12 = some m.cls := hown
  show W p l e { frames := 2, cells := 0, slots := 0, locals := 128 } s m _ below meth c s.heap [] 0 0 _ _
  have P33 : ∀ (s0 : Int32) (w : am_S) (H : Heap) (locs : List Loc) (ls : Array Slot), f_X12_load_33 a1 s0 w = some (rr, ww) → am_H G w s H locs → lv_has ls 2 [] → W p l e { frames := 2, cells := 0, slots := 0, locals := 128 } s m [.ref (G.1 + 271), .int a1].toArray below meth c H locs 0 0 (MQ below (va_Qi (fun (x : Int32) (u : am_S) => x = rr ∧ u = ww) (am_U G) (am_A G)) [.ref (G.1 + 271), .int a1].toArray s 0 0 (am_A G)) (F0 m 33 ls [.int s0]) := by
    intro s0 w H locs ls hf hH hl
    unfold f_X12_load_33 at hf
    exact am_reti hx hb hr hlocks hH hf dX12_load_33
  have P32 : ∀ (w : am_S) (H : Heap) (locs : List Loc) (ls : Array Slot), f_X12_load_32 a1 w = some (rr, ww) → am_H G w s H locs → lv_has ls 2 [] → W p l e { frames := 2, cells := 0, slots := 0, locals := 128 } s m [.ref (G.1 + 271), .int a1].toArray below meth c H locs 0 0 (MQ below (va_Qi (fun (x : Int32) (u : am_S) => x = rr ∧ u = ww) (am_U G) (am_A G)) [.ref (G.1 + 271), .int a1].toArray s 0 0 (am_A G)) (F0 m 32 ls []) := by
    intro w H locs ls hf hH hl
    unfold f_X12_load_32 at hf
    refine lv_iconst (v := -1) hx hb dX12_load_32 (by decide) ?_
    exact P33 (-1 : Int32) w H locs ls hf hH (lv_sub hl [] rfl)
  refine am_enter (lv := [(0, .ref (G.1 + 271)), (1, .int a1)]) (Nat.le_of_ble_eq_true rfl) rfl (fun ls hl => ?_)
  unfold f_X12_load at hf
  refine am_start hH (fun H locs hH => ?_)
  refine lv_aload_n hx hb dX12_load_0 rfl (lv_at hl 0 rfl) ?_
  obtain ⟨r_15, w_13, hq_14, hf⟩ := am_b2_some hf
  refine am_calli (r := r_15) (w' := w_13) (am_runV (n := 0) (As := []) (rest := []) ⟨hx, hb, hml, hown, hts⟩ hK hE hH (k_X12_isField hq_14) (am_gV am_q1514 am_q1516 am_qs59 am_q13 am_q1517) (am_o12 (p := 271) (by decide +kernel)) rfl ⟨rfl, rfl⟩ (by decide +kernel) ⟨Nat.le_of_ble_eq_true rfl, Nat.le_of_ble_eq_true rfl⟩ rfl hl.1 rfl (Nat.le_of_ble_eq_true rfl) ⟨Nat.zero_le _, Nat.zero_le _⟩ dX12_load_1) hH (fun H locs hH => ?_)
  refine lv_if_eq (tgt := 32) hx hb dX12_load_4 (by decide) (fun hc_16 => ?_) (fun hc_16 => ?_)
  · have hf := (if_pos hc_16).symm.trans hf
    exact P32 w_13 H locs ls hf hH (lv_sub hl [] rfl)
  · have hf := (if_neg hc_16).symm.trans hf
    refine lv_iload_n hx hb dX12_load_7 rfl (lv_at hl 1 rfl) ?_
    refine lv_iconst (v := 0) hx hb dX12_load_8 (by decide) ?_
    refine lv_sipush (v := 999) hx hb dX12_load_9 (by decide) ?_
    obtain ⟨r_19, w_17, hq_18, hf⟩ := am_b2_some hf
    refine am_calli (r := r_19) (w' := w_17) (am_runS (n := 3) (As := [.int a1, .int (0 : Int32), .int (999 : Int32)]) (rest := []) ⟨hx, hb, hml, hown, hts⟩ hK hE hH (k_X12_in hq_18) (am_gS am_q1425 am_q1426 am_q13 am_q1427) ⟨rfl, rfl⟩ (by decide +kernel) ⟨Nat.le_of_ble_eq_true rfl, Nat.le_of_ble_eq_true rfl⟩ rfl hl.1 rfl (Nat.le_of_ble_eq_true rfl) ⟨Nat.zero_le _, Nat.zero_le _⟩ dX12_load_12) hH (fun H locs hH => ?_)
    refine lv_if_eq (tgt := 32) hx hb dX12_load_15 (by decide) (fun hc_20 => ?_) (fun hc_20 => ?_)
    · have hf := (if_pos hc_20).symm.trans hf
      exact P32 w_17 H locs ls hf hH (lv_sub hl [] rfl)
    · have hf := (if_neg hc_20).symm.trans hf
      refine lv_iload_n hx hb dX12_load_18 rfl (lv_at hl 1 rfl) ?_
      refine lv_aload_n hx hb dX12_load_19 rfl (lv_at hl 0 rfl) ?_
      refine am_get hx hb hts hK hown hH (am_o12 (p := 271) (by decide +kernel)) rfl am_inX12 13 (by decide) am_q1332 (v := .int (w_17.1 271 13)) rfl dX12_load_20 ?_
      refine lv_imul hx hb dX12_load_23 ?_
      refine lv_aload_n hx hb dX12_load_24 rfl (lv_at hl 0 rfl) ?_
      obtain ⟨r_23, w_21, hq_22, hf⟩ := am_b2_some hf
      refine am_calli (r := r_23) (w' := w_21) (am_runV (n := 0) (As := []) (rest := [.int (a1 * (w_17.1 271 13))]) ⟨hx, hb, hml, hown, hts⟩ hK hE hH (k_X12_slotMany hq_22) (am_gV am_q1518 am_q1520 am_qs60 am_q13 am_q1521) (am_o12 (p := 271) (by decide +kernel)) rfl ⟨rfl, rfl⟩ (by decide +kernel) ⟨Nat.le_of_ble_eq_true rfl, Nat.le_of_ble_eq_true rfl⟩ rfl hl.1 rfl (Nat.le_of_ble_eq_true rfl) ⟨Nat.zero_le _, Nat.zero_le _⟩ dX12_load_25) hH (fun H locs hH => ?_)
      obtain ⟨hz_24, hf⟩ := am_nz_some hf
      refine lv_idiv hx hb dX12_load_28 hz_24 ?_
      refine lv_goto (tgt := 33) hx hb dX12_load_29 (by decide) ?_
      exact P33 ((a1 * (w_17.1 271 13)) / r_23) w_21 H locs ls hf hH (lv_sub hl [] rfl)

def f_X12_log_55 (a1 : Int32) (a2 : Int32) (s0 : Int32) (w : am_S) : Option (Int32 × am_S) :=
  some (s0, w)
def f_X12_log_52 (a1 : Int32) (a2 : Int32) (w : am_S) : Option (Int32 × am_S) :=
  f_X12_log_55 a1 a2 (-1000000 : Int32) w
def f_X12_log (a1 : Int32) (a2 : Int32) (w : am_S) : Option (Int32 × am_S) :=
  am_chk (64 : Int32) 245 (am_b2 (f_X12_in a1 (0 : Int32) ((w.1 281 (64 : Int32).toNatClampNeg) - (1 : Int32)) w) fun r_15 w_13 => if r_15 = 0 then (f_X12_log_52 a1 a2 w_13) else (am_b2 (f_X12_in a2 (0 : Int32) (2 : Int32) w_13) fun r_19 w_17 => if r_19 = 0 then (f_X12_log_52 a1 a2 w_17) else (am_chk (64 : Int32) 245 (am_chk (((65 : Int32) + ((3 : Int32) * (((w_17.1 281 (64 : Int32).toNatClampNeg) - (1 : Int32)) - a1))) + a2) 245 (f_X12_log_55 a1 a2 (w_17.1 281 (((65 : Int32) + ((3 : Int32) * (((w_17.1 281 (64 : Int32).toNatClampNeg) - (1 : Int32)) - a1))) + a2).toNatClampNeg) w_17)))))
set_option maxRecDepth 100000 in
set_option maxHeartbeats 4000000 in
theorem k_X12_log {G : am_G} {l : Launch} {a1 : Int32} {a2 : Int32}  {w : am_S} {rr : Int32} {ww : am_S} (hf : f_X12_log a1 a2 w = some (rr, ww)) : am_Mi G l yX12_log (Cond.code yX12_log cX12_log 3 (some .int) :: am_T) { frames := 1, cells := 0, slots := 0, locals := 64 } [.ref (G.1 + 271), .int a1, .int a2] w rr ww := by
  refine Met.ofW (cc := cX12_log) (maxL := 3) (ret := (some .int)) (by decide) rfl ?_
  intro p e s m args below meth c s₁ B hml hv
  obtain ⟨rfl, hx, hb, hr, hts, hown, hlocks, hK, hE, hH⟩ := am_begin B hv
  have hown : s.vm.findClass RX12 = some m.cls := hown
  show W p l e { frames := 1, cells := 0, slots := 0, locals := 64 } s m _ below meth c s.heap [] 0 0 _ _
  have P55 : ∀ (s0 : Int32) (w : am_S) (H : Heap) (locs : List Loc) (ls : Array Slot), f_X12_log_55 a1 a2 s0 w = some (rr, ww) → am_H G w s H locs → lv_has ls 3 [] → W p l e { frames := 1, cells := 0, slots := 0, locals := 64 } s m [.ref (G.1 + 271), .int a1, .int a2].toArray below meth c H locs 0 0 (MQ below (va_Qi (fun (x : Int32) (u : am_S) => x = rr ∧ u = ww) (am_U G) (am_A G)) [.ref (G.1 + 271), .int a1, .int a2].toArray s 0 0 (am_A G)) (F0 m 55 ls [.int s0]) := by
    intro s0 w H locs ls hf hH hl
    unfold f_X12_log_55 at hf
    exact am_reti hx hb hr hlocks hH hf dX12_log_55
  have P52 : ∀ (w : am_S) (H : Heap) (locs : List Loc) (ls : Array Slot), f_X12_log_52 a1 a2 w = some (rr, ww) → am_H G w s H locs → lv_has ls 3 [] → W p l e { frames := 1, cells := 0, slots := 0, locals := 64 } s m [.ref (G.1 + 271), .int a1, .int a2].toArray below meth c H locs 0 0 (MQ below (va_Qi (fun (x : Int32) (u : am_S) => x = rr ∧ u = ww) (am_U G) (am_A G)) [.ref (G.1 + 271), .int a1, .int a2].toArray s 0 0 (am_A G)) (F0 m 52 ls []) := by
    intro w H locs ls hf hH hl
    unfold f_X12_log_52 at hf
    refine lv_ldcw (v := -1000000) hx hb hown (hts _ am_q1723) dX12_log_52 ?_
    exact P55 (-1000000 : Int32) w H locs ls hf hH (lv_sub hl [] rfl)
  refine am_enter (lv := [(0, .ref (G.1 + 271)), (1, .int a1), (2, .int a2)]) (Nat.le_of_ble_eq_true rfl) rfl (fun ls hl => ?_)
  unfold f_X12_log at hf
  refine am_start hH (fun H locs hH => ?_)
  refine lv_iload_n hx hb dX12_log_0 rfl (lv_at hl 1 rfl) ?_
  refine lv_iconst (v := 0) hx hb dX12_log_1 (by decide) ?_
  refine lv_aload_n hx hb dX12_log_2 rfl (lv_at hl 0 rfl) ?_
  refine am_get hx hb hts hK hown hH (am_o12 (p := 271) (by decide +kernel)) rfl am_inX12 17 (by decide) am_q1336 (v := .ref (G.1 + 281)) rfl dX12_log_3 ?_
  refine lv_bipush (v := 64) hx hb dX12_log_6 (by decide) ?_
  obtain ⟨hi_12, hf⟩ := am_chk_some hf
  refine am_iald hx hb hK hH (am_ai_of (N := 245) (by decide +kernel)) hi_12 dX12_log_8 ?_
  refine lv_iconst (v := 1) hx hb dX12_log_9 (by decide) ?_
  refine lv_isub hx hb dX12_log_10 ?_
  obtain ⟨r_15, w_13, hq_14, hf⟩ := am_b2_some hf
  refine am_calli (r := r_15) (w' := w_13) (am_runS (n := 3) (As := [.int a1, .int (0 : Int32), .int ((w.1 281 (64 : Int32).toNatClampNeg) - (1 : Int32))]) (rest := []) ⟨hx, hb, hml, hown, hts⟩ hK hE hH (k_X12_in hq_14) (am_gS am_q1425 am_q1426 am_q13 am_q1427) ⟨rfl, rfl⟩ (by decide +kernel) ⟨Nat.le_of_ble_eq_true rfl, Nat.le_of_ble_eq_true rfl⟩ rfl hl.1 rfl (Nat.le_of_ble_eq_true rfl) ⟨Nat.zero_le _, Nat.zero_le _⟩ dX12_log_11) hH (fun H locs hH => ?_)
  refine lv_if_eq (tgt := 52) hx hb dX12_log_14 (by decide) (fun hc_16 => ?_) (fun hc_16 => ?_)
  · have hf := (if_pos hc_16).symm.trans hf
    exact P52 w_13 H locs ls hf hH (lv_sub hl [] rfl)
  · have hf := (if_neg hc_16).symm.trans hf
    refine lv_iload_n hx hb dX12_log_17 rfl (lv_at hl 2 rfl) ?_
    refine lv_iconst (v := 0) hx hb dX12_log_18 (by decide) ?_
    refine lv_iconst (v := 2) hx hb dX12_log_19 (by decide) ?_
    obtain ⟨r_19, w_17, hq_18, hf⟩ := am_b2_some hf
    refine am_calli (r := r_19) (w' := w_17) (am_runS (n := 3) (As := [.int a2, .int (0 : Int32), .int (2 : Int32)]) (rest := []) ⟨hx, hb, hml, hown, hts⟩ hK hE hH (k_X12_in hq_18) (am_gS am_q1425 am_q1426 am_q13 am_q1427) ⟨rfl, rfl⟩ (by decide +kernel) ⟨Nat.le_of_ble_eq_true rfl, Nat.le_of_ble_eq_true rfl⟩ rfl hl.1 rfl (Nat.le_of_ble_eq_true rfl) ⟨Nat.zero_le _, Nat.zero_le _⟩ dX12_log_20) hH (fun H locs hH => ?_)
    refine lv_if_eq (tgt := 52) hx hb dX12_log_23 (by decide) (fun hc_20 => ?_) (fun hc_20 => ?_)
    · have hf := (if_pos hc_20).symm.trans hf
      exact P52 w_17 H locs ls hf hH (lv_sub hl [] rfl)
    · have hf := (if_neg hc_20).symm.trans hf
      refine lv_aload_n hx hb dX12_log_26 rfl (lv_at hl 0 rfl) ?_
      refine am_get hx hb hts hK hown hH (am_o12 (p := 271) (by decide +kernel)) rfl am_inX12 17 (by decide) am_q1336 (v := .ref (G.1 + 281)) rfl dX12_log_27 ?_
      refine lv_bipush (v := 65) hx hb dX12_log_30 (by decide) ?_
      refine lv_iconst (v := 3) hx hb dX12_log_32 (by decide) ?_
      refine lv_aload_n hx hb dX12_log_33 rfl (lv_at hl 0 rfl) ?_
      refine am_get hx hb hts hK hown hH (am_o12 (p := 271) (by decide +kernel)) rfl am_inX12 17 (by decide) am_q1336 (v := .ref (G.1 + 281)) rfl dX12_log_34 ?_
      refine lv_bipush (v := 64) hx hb dX12_log_37 (by decide) ?_
      obtain ⟨hi_21, hf⟩ := am_chk_some hf
      refine am_iald hx hb hK hH (am_ai_of (N := 245) (by decide +kernel)) hi_21 dX12_log_39 ?_
      refine lv_iconst (v := 1) hx hb dX12_log_40 (by decide) ?_
      refine lv_isub hx hb dX12_log_41 ?_
      refine lv_iload_n hx hb dX12_log_42 rfl (lv_at hl 1 rfl) ?_
      refine lv_isub hx hb dX12_log_43 ?_
      refine lv_imul hx hb dX12_log_44 ?_
      refine lv_iadd hx hb dX12_log_45 ?_
      refine lv_iload_n hx hb dX12_log_46 rfl (lv_at hl 2 rfl) ?_
      refine lv_iadd hx hb dX12_log_47 ?_
      obtain ⟨hi_22, hf⟩ := am_chk_some hf
      refine am_iald hx hb hK hH (am_ai_of (N := 245) (by decide +kernel)) hi_22 dX12_log_48 ?_
      refine lv_goto (tgt := 55) hx hb dX12_log_49 (by decide) ?_
      exact P55 (w_17.1 281 (((65 : Int32) + ((3 : Int32) * (((w_17.1 281 (64 : Int32).toNatClampNeg) - (1 : Int32)) - a1))) + a2).toNatClampNeg) w_17 H locs ls hf hH (lv_sub hl [] rfl)

def f_X12_margin_29 (a1 : Int32) (a2 : Int32) (s0 : Int32) (w : am_S) : Option (Int32 × am_S) :=
  some (s0, w)
def f_X12_margin (a1 : Int32) (a2 : Int32) (w : am_S) : Option (Int32 × am_S) :=
  am_b2 (f_X12_isAsked a1 a2 w) fun r_15 w_13 => if r_15 = 0 then (f_X12_margin_29 a1 a2 (-1 : Int32) w_13) else (am_chk a1 10 (am_b2 (f_X12_bar a1 a2 w_13) fun r_20 w_18 => am_n32 (FP.fsub (w_13.2.2 283 a1.toNatClampNeg) r_20) (am_b2 (f_Jxf58ca_floatToIntBits_5c35a (FP.fsub (w_13.2.2 283 a1.toNatClampNeg) r_20) w_18) fun r_24 w_22 => f_X12_margin_29 a1 a2 r_24 w_22)))
set_option maxRecDepth 100000 in
set_option maxHeartbeats 4000000 in
theorem k_X12_margin {G : am_G} {l : Launch} {a1 : Int32} {a2 : Int32}  {w : am_S} {rr : Int32} {ww : am_S} (hf : f_X12_margin a1 a2 w = some (rr, ww)) : am_Mi G l yX12_margin (Cond.code yX12_margin cX12_margin 3 (some .int) :: am_T) { frames := 4, cells := 0, slots := 0, locals := 256 } [.ref (G.1 + 271), .int a1, .int a2] w rr ww := by
  refine Met.ofW (cc := cX12_margin) (maxL := 3) (ret := (some .int)) (by decide) rfl ?_
  intro p e s m args below meth c s₁ B hml hv
  obtain ⟨rfl, hx, hb, hr, hts, hown, hlocks, hK, hE, hH⟩ := am_begin B hv
  have hown : s.vm.findClass RX12 = some m.cls := hown
  show W p l e { frames := 4, cells := 0, slots := 0, locals := 256 } s m _ below meth c s.heap [] 0 0 _ _
  have P29 : ∀ (s0 : Int32) (w : am_S) (H : Heap) (locs : List Loc) (ls : Array Slot), f_X12_margin_29 a1 a2 s0 w = some (rr, ww) → am_H G w s H locs → lv_has ls 3 [] → W p l e { frames := 4, cells := 0, slots := 0, locals := 256 } s m [.ref (G.1 + 271), .int a1, .int a2].toArray below meth c H locs 0 0 (MQ below (va_Qi (fun (x : Int32) (u : am_S) => x = rr ∧ u = ww) (am_U G) (am_A G)) [.ref (G.1 + 271), .int a1, .int a2].toArray s 0 0 (am_A G)) (F0 m 29 ls [.int s0]) := by
    intro s0 w H locs ls hf hH hl
    unfold f_X12_margin_29 at hf
    exact am_reti hx hb hr hlocks hH hf dX12_margin_29
  refine am_enter (lv := [(0, .ref (G.1 + 271)), (1, .int a1), (2, .int a2)]) (Nat.le_of_ble_eq_true rfl) rfl (fun ls hl => ?_)
  unfold f_X12_margin at hf
  refine am_start hH (fun H locs hH => ?_)
  refine lv_aload_n hx hb dX12_margin_0 rfl (lv_at hl 0 rfl) ?_
  refine lv_iload_n hx hb dX12_margin_1 rfl (lv_at hl 1 rfl) ?_
  refine lv_iload_n hx hb dX12_margin_2 rfl (lv_at hl 2 rfl) ?_
  obtain ⟨r_15, w_13, hq_14, hf⟩ := am_b2_some hf
  refine am_calli (r := r_15) (w' := w_13) (am_runV (n := 2) (As := [.int a1, .int a2]) (rest := []) ⟨hx, hb, hml, hown, hts⟩ hK hE hH (k_X12_isAsked hq_14) (am_gV am_q1770 am_q1772 am_qs99 am_q13 am_q1773) (am_o12 (p := 271) (by decide +kernel)) rfl ⟨rfl, rfl⟩ (by decide +kernel) ⟨Nat.le_of_ble_eq_true rfl, Nat.le_of_ble_eq_true rfl⟩ rfl hl.1 rfl (Nat.le_of_ble_eq_true rfl) ⟨Nat.zero_le _, Nat.zero_le _⟩ dX12_margin_3) hH (fun H locs hH => ?_)
  refine lv_if_eq (tgt := 28) hx hb dX12_margin_6 (by decide) (fun hc_16 => ?_) (fun hc_16 => ?_)
  · have hf := (if_pos hc_16).symm.trans hf
    refine lv_iconst (v := -1) hx hb dX12_margin_28 (by decide) ?_
    exact P29 (-1 : Int32) w_13 H locs ls hf hH (lv_sub hl [] rfl)
  · have hf := (if_neg hc_16).symm.trans hf
    refine lv_aload_n hx hb dX12_margin_9 rfl (lv_at hl 0 rfl) ?_
    refine am_get hx hb hts hK hown hH (am_o12 (p := 271) (by decide +kernel)) rfl am_inX12 19 (by decide) am_q1338 (v := .ref (G.1 + 283)) rfl dX12_margin_10 ?_
    refine lv_iload_n hx hb dX12_margin_13 rfl (lv_at hl 1 rfl) ?_
    obtain ⟨hi_17, hf⟩ := am_chk_some hf
    refine am_fald hx hb hK hH (am_af_of (N := 10) (by decide +kernel)) hi_17 dX12_margin_14 ?_
    refine lv_aload_n hx hb dX12_margin_15 rfl (lv_at hl 0 rfl) ?_
    refine lv_iload_n hx hb dX12_margin_16 rfl (lv_at hl 1 rfl) ?_
    refine lv_iload_n hx hb dX12_margin_17 rfl (lv_at hl 2 rfl) ?_
    obtain ⟨r_20, w_18, hq_19, hf⟩ := am_b2_some hf
    refine am_callf (r := r_20) (w' := w_18) (am_runV (n := 2) (As := [.int a1, .int a2]) (rest := [.float (w_13.2.2 283 a1.toNatClampNeg)]) ⟨hx, hb, hml, hown, hts⟩ hK hE hH (k_X12_bar hq_19) (am_gV am_q1546 am_q1548 am_qs67 am_q13 am_q1549) (am_o12 (p := 271) (by decide +kernel)) rfl ⟨rfl, rfl⟩ (by decide +kernel) ⟨Nat.le_of_ble_eq_true rfl, Nat.le_of_ble_eq_true rfl⟩ rfl hl.1 rfl (Nat.le_of_ble_eq_true rfl) ⟨Nat.zero_le _, Nat.zero_le _⟩ dX12_margin_18) hH (fun H locs hH => ?_)
    obtain ⟨hn_21, hf⟩ := am_n32_some hf
    refine lv_fsub hx hb dX12_margin_21 hn_21 ?_
    obtain ⟨r_24, w_22, hq_23, hf⟩ := am_b2_some hf
    refine am_calli (r := r_24) (w' := w_22) (am_runS (n := 1) (As := [.float (FP.fsub (w_13.2.2 283 a1.toNatClampNeg) r_20)]) (rest := []) ⟨hx, hb, hml, hown, hts⟩ hK hE hH (k_Jxf58ca_floatToIntBits_5c35a hq_23) (am_gS am_q1756 am_q1757 am_q29 am_q1758) ⟨rfl, rfl⟩ (by decide +kernel) ⟨Nat.le_of_ble_eq_true rfl, Nat.le_of_ble_eq_true rfl⟩ rfl hl.1 rfl (Nat.le_of_ble_eq_true rfl) ⟨Nat.zero_le _, Nat.zero_le _⟩ dX12_margin_22) hH (fun H locs hH => ?_)
    refine lv_goto (tgt := 29) hx hb dX12_margin_25 (by decide) ?_
    exact P29 r_24 w_22 H locs ls hf hH (lv_sub hl [] rfl)

def f_X12_more_17 (a1 : Int32) (a2 : Int32) (w : am_S) : Option (Int32 × am_S) :=
  some ((-1000000 : Int32), w)
def f_X12_more_129 (a1 : Int32) (a2 : Int32) (s0 : Int32) (w : am_S) : Option (Int32 × am_S) :=
  some (s0, w)
def f_X12_more_113 (a1 : Int32) (a2 : Int32) (x3 : Int32) (x4 : Int32) (x5 : Int32) (w : am_S) : Option ((Int32 × am_S) ⊕ (Int32 × Int32 × Int32 × am_S)) :=
  am_v (x5 + (1 : Int32)) fun (x5_42 : Int32) => some (.inr (x3, x4, x5_42, w))
def f_X12_more_106 (a1 : Int32) (a2 : Int32) (x5 : Int32) (x6 : Int32) (w : am_S) : Option ((Int32 × am_S) ⊕ (Int32 × Int32 × Int32 × am_S)) :=
  f_X12_more_113 a1 a2 x5 x6 x5 w
def f_X12_more_33b (a1 : Int32) (a2 : Int32) (x3 : Int32) (x4 : Int32) (x5 : Int32) (w : am_S) : Option ((Int32 × am_S) ⊕ (Int32 × Int32 × Int32 × am_S)) :=
  am_b2 (f_X12_beginOf a1 w) fun r_45 w_43 => am_b2 (f_X12_widthOf a1 w_43) fun r_48 w_46 => if (r_45 + r_48) ≤ x5 then (am_x (if a2 = 0 then (f_X12_more_129 a1 a2 x3 w_46) else (f_X12_more_129 a1 a2 x4 w_46))) else (am_b2 (f_X12_hasCopy a1 x5 w_46) fun r_54 w_52 => if r_54 = 0 then (am_b1 (f_X12_layOccupied w_52) fun w_56 => am_chk x5 48 (am_chk x5 48 (am_v (am_pi w_56 287 x5.toNatClampNeg ((w_56.1 287 x5.toNatClampNeg) ||| ((1 : Int32) <<< (a1 &&& 31)))) fun (w_60 : am_S) => am_b2 (f_X12_unknownOnes w_60) fun r_63 w_61 => am_b2 (f_X12_remaining r_63 w_61) fun r_66 w_64 => am_b2 (f_X12_bits r_66 w_64) fun r_69 w_67 => am_v ((w_60.1 271 13) - r_69) fun (x6_70 : Int32) => if x3 = (-1 : Int32) then (f_X12_more_106 a1 a2 x5 x6_70 w_67) else (if x6_70 ≤ x4 then (f_X12_more_113 a1 a2 x3 x4 x5 w_67) else (f_X12_more_106 a1 a2 x5 x6_70 w_67))))) else (f_X12_more_113 a1 a2 x3 x4 x5 w_52))
def f_X12_more_33 (a1 : Int32) (a2 : Int32) (x3 : Int32) (x4 : Int32) (x5 : Int32) (w : am_S) : Option (Int32 × am_S) :=
  am_loop (fun (st : (Int32 × Int32 × Int32 × am_S)) => f_X12_more_33b a1 a2 st.1 st.2.1 st.2.2.1 st.2.2.2) am_fuel (x3, x4, x5, w)
def f_X12_more (a1 : Int32) (a2 : Int32) (w : am_S) : Option (Int32 × am_S) :=
  am_b2 (f_X12_isUser a1 w) fun r_75 w_73 => if r_75 = 0 then (f_X12_more_17 a1 a2 w_73) else (am_b2 (f_X12_in a2 (0 : Int32) (1 : Int32) w_73) fun r_79 w_77 => if r_79 = 0 then (f_X12_more_17 a1 a2 w_77) else (am_b2 (f_X12_beginOf a1 w_77) fun r_83 w_81 => f_X12_more_33 a1 a2 (-1 : Int32) (0 : Int32) r_83 w_81))
set_option maxRecDepth 100000 in
set_option maxHeartbeats 4000000 in
theorem k_X12_more {G : am_G} {l : Launch} {a1 : Int32} {a2 : Int32}  {w : am_S} {rr : Int32} {ww : am_S} (hf : f_X12_more a1 a2 w = some (rr, ww)) : am_Mi G l yX12_more (Cond.code yX12_more cX12_more 7 (some .int) :: am_T) { frames := 3, cells := 0, slots := 0, locals := 192 } [.ref (G.1 + 271), .int a1, .int a2] w rr ww := by
  refine Met.ofW (cc := cX12_more) (maxL := 7) (ret := (some .int)) (by decide) rfl ?_
  intro p e s m args below meth c s₁ B hml hv
  obtain ⟨rfl, hx, hb, hr, hts, hown, hlocks, hK, hE, hH⟩ := am_begin B hv
  have hown : s.vm.findClass RX12 = some m.cls := hown
  show W p l e { frames := 3, cells := 0, slots := 0, locals := 192 } s m _ below meth c s.heap [] 0 0 _ _
  have P17 : ∀ (w : am_S) (H : Heap) (locs : List Loc) (ls : Array Slot), f_X12_more_17 a1 a2 w = some (rr, ww) → am_H G w s H locs → lv_has ls 7 [] → W p l e { frames := 3, cells := 0, slots := 0, locals := 192 } s m [.ref (G.1 + 271), .int a1, .int a2].toArray below meth c H locs 0 0 (MQ below (va_Qi (fun (x : Int32) (u : am_S) => x = rr ∧ u = ww) (am_U G) (am_A G)) [.ref (G.1 + 271), .int a1, .int a2].toArray s 0 0 (am_A G)) (F0 m 17 ls []) := by
    intro w H locs ls hf hH hl
    unfold f_X12_more_17 at hf
    refine lv_ldcw (v := -1000000) hx hb hown (hts _ am_q1723) dX12_more_17 ?_
    exact am_reti hx hb hr hlocks hH hf dX12_more_20
  have P129 : ∀ (s0 : Int32) (w : am_S) (H : Heap) (locs : List Loc) (ls : Array Slot), f_X12_more_129 a1 a2 s0 w = some (rr, ww) → am_H G w s H locs → lv_has ls 7 [] → W p l e { frames := 3, cells := 0, slots := 0, locals := 192 } s m [.ref (G.1 + 271), .int a1, .int a2].toArray below meth c H locs 0 0 (MQ below (va_Qi (fun (x : Int32) (u : am_S) => x = rr ∧ u = ww) (am_U G) (am_A G)) [.ref (G.1 + 271), .int a1, .int a2].toArray s 0 0 (am_A G)) (F0 m 129 ls [.int s0]) := by
    intro s0 w H locs ls hf hH hl
    unfold f_X12_more_129 at hf
    exact am_reti hx hb hr hlocks hH hf dX12_more_129
  have P33 : ∀ (n1 : Nat) (x3 : Int32) (x4 : Int32) (x5 : Int32) (w : am_S) (H : Heap) (locs : List Loc) (ls : Array Slot), am_loop (fun (st : (Int32 × Int32 × Int32 × am_S)) => f_X12_more_33b a1 a2 st.1 st.2.1 st.2.2.1 st.2.2.2) n1 (x3, x4, x5, w) = some (rr, ww) → am_H G w s H locs → lv_has ls 7 [(0, .ref (G.1 + 271)), (1, .int a1), (2, .int a2), (3, .int x3), (4, .int x4), (5, .int x5)] → W p l e { frames := 3, cells := 0, slots := 0, locals := 192 } s m [.ref (G.1 + 271), .int a1, .int a2].toArray below meth c H locs 0 0 (MQ below (va_Qi (fun (x : Int32) (u : am_S) => x = rr ∧ u = ww) (am_U G) (am_A G)) [.ref (G.1 + 271), .int a1, .int a2].toArray s 0 0 (am_A G)) (F0 m 33 ls []) := by
    intro n1
    induction n1 with
    | zero =>
      intro x3 x4 x5 w H locs ls hf hH hl
      exact (am_loop_zero hf).elim
    | succ n1 ih1 =>
      intro x3 x4 x5 w H locs ls hf hH hl
      obtain ⟨z1, hf, hk1⟩ := am_loop_succ hf
      have hf : f_X12_more_33b a1 a2 x3 x4 x5 w = some z1 := hf
      have P113 : ∀ (x3 : Int32) (x4 : Int32) (x5 : Int32) (w : am_S) (z1 : ((Int32 × am_S) ⊕ (Int32 × Int32 × Int32 × am_S))) (H : Heap) (locs : List Loc) (ls : Array Slot), f_X12_more_113 a1 a2 x3 x4 x5 w = some z1 → am_lk (fun (st : (Int32 × Int32 × Int32 × am_S)) => f_X12_more_33b a1 a2 st.1 st.2.1 st.2.2.1 st.2.2.2) n1 (rr, ww) z1 → am_H G w s H locs → lv_has ls 7 [(0, .ref (G.1 + 271)), (1, .int a1), (2, .int a2), (3, .int x3), (4, .int x4), (5, .int x5)] → W p l e { frames := 3, cells := 0, slots := 0, locals := 192 } s m [.ref (G.1 + 271), .int a1, .int a2].toArray below meth c H locs 0 0 (MQ below (va_Qi (fun (x : Int32) (u : am_S) => x = rr ∧ u = ww) (am_U G) (am_A G)) [.ref (G.1 + 271), .int a1, .int a2].toArray s 0 0 (am_A G)) (F0 m 113 ls []) := by
        intro x3 x4 x5 w z1 H locs ls hf hk1 hH hl
        unfold f_X12_more_113 at hf
        obtain ⟨x5_42, hx5_42, hf⟩ := am_v_some hf
        refine lv_iinc (v := x5_42) (lv' := [(5, .int x5_42), (0, .ref (G.1 + 271)), (1, .int a1), (2, .int a2), (3, .int x3), (4, .int x4)]) hx hb dX12_more_113 hl (k := 5) rfl (by rw [hx5_42]; rfl) (by decide) rfl (fun ls hl => ?_)
        refine lv_goto (tgt := 33) hx hb dX12_more_116 (by decide) ?_
        obtain rfl := Option.some.inj hf
        exact ih1 x3 x4 x5_42 w H locs ls hk1 hH (lv_sub hl [1, 2, 3, 4, 5, 0] rfl)
      have P106 : ∀ (x5 : Int32) (x6 : Int32) (w : am_S) (z1 : ((Int32 × am_S) ⊕ (Int32 × Int32 × Int32 × am_S))) (H : Heap) (locs : List Loc) (ls : Array Slot), f_X12_more_106 a1 a2 x5 x6 w = some z1 → am_lk (fun (st : (Int32 × Int32 × Int32 × am_S)) => f_X12_more_33b a1 a2 st.1 st.2.1 st.2.2.1 st.2.2.2) n1 (rr, ww) z1 → am_H G w s H locs → lv_has ls 7 [(0, .ref (G.1 + 271)), (1, .int a1), (2, .int a2), (5, .int x5), (6, .int x6)] → W p l e { frames := 3, cells := 0, slots := 0, locals := 192 } s m [.ref (G.1 + 271), .int a1, .int a2].toArray below meth c H locs 0 0 (MQ below (va_Qi (fun (x : Int32) (u : am_S) => x = rr ∧ u = ww) (am_U G) (am_A G)) [.ref (G.1 + 271), .int a1, .int a2].toArray s 0 0 (am_A G)) (F0 m 106 ls []) := by
        intro x5 x6 w z1 H locs ls hf hk1 hH hl
        unfold f_X12_more_106 at hf
        refine lv_iload hx hb dX12_more_106 (lv_at hl 3 rfl) ?_
        refine lv_istore_n (lv' := [(3, .int x5), (0, .ref (G.1 + 271)), (1, .int a1), (2, .int a2), (5, .int x5), (6, .int x6)]) hx hb dX12_more_108 rfl hl (by decide) rfl (fun ls hl => ?_)
        refine lv_iload hx hb dX12_more_109 (lv_at hl 5 rfl) ?_
        refine lv_istore (lv' := [(4, .int x6), (3, .int x5), (0, .ref (G.1 + 271)), (1, .int a1), (2, .int a2), (5, .int x5), (6, .int x6)]) hx hb dX12_more_111 hl (by decide) rfl (fun ls hl => ?_)
        exact P113 x5 x6 x5 w z1 H locs ls hf hk1 hH (lv_sub hl [2, 3, 4, 1, 0, 5] rfl)
      unfold f_X12_more_33b at hf
      refine lv_iload hx hb dX12_more_33 (lv_at hl 5 rfl) ?_
      refine lv_aload_n hx hb dX12_more_35 rfl (lv_at hl 0 rfl) ?_
      refine lv_iload_n hx hb dX12_more_36 rfl (lv_at hl 1 rfl) ?_
      obtain ⟨r_45, w_43, hq_44, hf⟩ := am_b2_some hf
      refine am_calli (r := r_45) (w' := w_43) (am_runV (n := 1) (As := [.int a1]) (rest := [.int x5]) ⟨hx, hb, hml, hown, hts⟩ hK hE hH (k_X12_beginOf hq_44) (am_gV am_q1566 am_q1568 am_qs72 am_q13 am_q1569) (am_o12 (p := 271) (by decide +kernel)) rfl ⟨rfl, rfl⟩ (by decide +kernel) ⟨Nat.le_of_ble_eq_true rfl, Nat.le_of_ble_eq_true rfl⟩ rfl hl.1 rfl (Nat.le_of_ble_eq_true rfl) ⟨Nat.zero_le _, Nat.zero_le _⟩ dX12_more_37) hH (fun H locs hH => ?_)
      refine lv_aload_n hx hb dX12_more_40 rfl (lv_at hl 0 rfl) ?_
      refine lv_iload_n hx hb dX12_more_41 rfl (lv_at hl 1 rfl) ?_
      obtain ⟨r_48, w_46, hq_47, hf⟩ := am_b2_some hf
      refine am_calli (r := r_48) (w' := w_46) (am_runV (n := 1) (As := [.int a1]) (rest := [.int r_45, .int x5]) ⟨hx, hb, hml, hown, hts⟩ hK hE hH (k_X12_widthOf hq_47) (am_gV am_q1570 am_q1572 am_qs73 am_q13 am_q1573) (am_o12 (p := 271) (by decide +kernel)) rfl ⟨rfl, rfl⟩ (by decide +kernel) ⟨Nat.le_of_ble_eq_true rfl, Nat.le_of_ble_eq_true rfl⟩ rfl hl.1 rfl (Nat.le_of_ble_eq_true rfl) ⟨Nat.zero_le _, Nat.zero_le _⟩ dX12_more_42) hH (fun H locs hH => ?_)
      refine lv_iadd hx hb dX12_more_45 ?_
      refine lv_icmp_ge (tgt := 119) hx hb dX12_more_46 (by decide) (fun hc_49 => ?_) (fun hc_49 => ?_)
      · have hf := (if_pos hc_49).symm.trans hf
        obtain ⟨y_50, hf, hzy_50⟩ := am_x_some hf
        rw [hzy_50] at hk1
        have hf := hf.trans (congrArg some (show y_50 = (rr, ww) from hk1))
        refine lv_iload_n hx hb dX12_more_119 rfl (lv_at hl 2 rfl) ?_
        refine lv_if_ne (tgt := 127) hx hb dX12_more_120 (by decide) (fun hc_51 => ?_) (fun hc_51 => ?_)
        · have hf := (if_neg hc_51).symm.trans hf
          refine lv_iload hx hb dX12_more_127 (lv_at hl 4 rfl) ?_
          exact P129 x4 w_46 H locs ls hf hH (lv_sub hl [] rfl)
        · have hf := (if_pos hc_51).symm.trans hf
          refine lv_iload_n hx hb dX12_more_123 rfl (lv_at hl 3 rfl) ?_
          refine lv_goto (tgt := 129) hx hb dX12_more_124 (by decide) ?_
          exact P129 x3 w_46 H locs ls hf hH (lv_sub hl [] rfl)
      · have hf := (if_neg hc_49).symm.trans hf
        refine lv_aload_n hx hb dX12_more_49 rfl (lv_at hl 0 rfl) ?_
        refine lv_iload_n hx hb dX12_more_50 rfl (lv_at hl 1 rfl) ?_
        refine lv_iload hx hb dX12_more_51 (lv_at hl 5 rfl) ?_
        obtain ⟨r_54, w_52, hq_53, hf⟩ := am_b2_some hf
        refine am_calli (r := r_54) (w' := w_52) (am_runV (n := 2) (As := [.int a1, .int x5]) (rest := []) ⟨hx, hb, hml, hown, hts⟩ hK hE hH (k_X12_hasCopy hq_53) (am_gV am_q1538 am_q1540 am_qs65 am_q13 am_q1541) (am_o12 (p := 271) (by decide +kernel)) rfl ⟨rfl, rfl⟩ (by decide +kernel) ⟨Nat.le_of_ble_eq_true rfl, Nat.le_of_ble_eq_true rfl⟩ rfl hl.1 rfl (Nat.le_of_ble_eq_true rfl) ⟨Nat.zero_le _, Nat.zero_le _⟩ dX12_more_53) hH (fun H locs hH => ?_)
        refine lv_if_ne (tgt := 113) hx hb dX12_more_56 (by decide) (fun hc_55 => ?_) (fun hc_55 => ?_)
        · have hf := (if_neg hc_55).symm.trans hf
          exact P113 x3 x4 x5 w_52 z1 H locs ls hf hk1 hH (lv_sub hl [0, 1, 2, 3, 4, 5] rfl)
        · have hf := (if_pos hc_55).symm.trans hf
          refine lv_aload_n hx hb dX12_more_59 rfl (lv_at hl 0 rfl) ?_
          obtain ⟨w_56, hq_57, hf⟩ := am_b1_some hf
          refine am_callv (w' := w_56) (am_runV (n := 0) (As := []) (rest := []) ⟨hx, hb, hml, hown, hts⟩ hK hE hH (k_X12_layOccupied hq_57) (am_gV am_q1794 am_q1796 am_qs101 am_q13 am_q1797) (am_o12 (p := 271) (by decide +kernel)) rfl ⟨rfl, rfl⟩ (by decide +kernel) ⟨Nat.le_of_ble_eq_true rfl, Nat.le_of_ble_eq_true rfl⟩ rfl hl.1 rfl (Nat.le_of_ble_eq_true rfl) ⟨Nat.zero_le _, Nat.zero_le _⟩ dX12_more_60) hH (fun H locs hH => ?_)
          refine lv_aload_n hx hb dX12_more_63 rfl (lv_at hl 0 rfl) ?_
          refine am_get hx hb hts hK hown hH (am_o12 (p := 271) (by decide +kernel)) rfl am_inX12 26 (by decide) am_q1345 (v := .ref (G.1 + 287)) rfl dX12_more_64 ?_
          refine lv_iload hx hb dX12_more_67 (lv_at hl 5 rfl) ?_
          refine lv_dup2_11 hx hb dX12_more_69 rfl rfl ?_
          obtain ⟨hi_58, hf⟩ := am_chk_some hf
          refine am_iald hx hb hK hH (am_ai_of (N := 48) (by decide +kernel)) hi_58 dX12_more_70 ?_
          refine lv_iconst (v := 1) hx hb dX12_more_71 (by decide) ?_
          refine lv_iload_n hx hb dX12_more_72 rfl (lv_at hl 1 rfl) ?_
          refine lv_ishl hx hb dX12_more_73 ?_
          refine lv_ior hx hb dX12_more_74 ?_
          obtain ⟨hi_59, hf⟩ := am_chk_some hf
          obtain ⟨w_60, hw_60, hf⟩ := am_v_some hf
          refine am_iast hx hb hK hH (am_ai_of (N := 48) (by decide +kernel)) hi_59 dX12_more_75 (fun H locs hH => ?_)
          rw [← hw_60] at hH
          refine lv_aload_n hx hb dX12_more_76 rfl (lv_at hl 0 rfl) ?_
          refine am_get hx hb hts hK hown hH (am_o12 (p := 271) (by decide +kernel)) rfl am_inX12 13 (by decide) am_q1332 (v := .int (w_60.1 271 13)) rfl dX12_more_77 ?_
          refine lv_aload_n hx hb dX12_more_80 rfl (lv_at hl 0 rfl) ?_
          refine lv_aload_n hx hb dX12_more_81 rfl (lv_at hl 0 rfl) ?_
          obtain ⟨r_63, w_61, hq_62, hf⟩ := am_b2_some hf
          refine am_calli (r := r_63) (w' := w_61) (am_runV (n := 0) (As := []) (rest := [.ref (G.1 + 271), .int (w_60.1 271 13)]) ⟨hx, hb, hml, hown, hts⟩ hK hE hH (k_X12_unknownOnes hq_62) (am_gV am_q1798 am_q1800 am_qs102 am_q13 am_q1801) (am_o12 (p := 271) (by decide +kernel)) rfl ⟨rfl, rfl⟩ (by decide +kernel) ⟨Nat.le_of_ble_eq_true rfl, Nat.le_of_ble_eq_true rfl⟩ rfl hl.1 rfl (Nat.le_of_ble_eq_true rfl) ⟨Nat.zero_le _, Nat.zero_le _⟩ dX12_more_82) hH (fun H locs hH => ?_)
          obtain ⟨r_66, w_64, hq_65, hf⟩ := am_b2_some hf
          refine am_calli (r := r_66) (w' := w_64) (am_runV (n := 1) (As := [.int r_63]) (rest := [.int (w_60.1 271 13)]) ⟨hx, hb, hml, hown, hts⟩ hK hE hH (k_X12_remaining hq_65) (am_gV am_q1806 am_q1808 am_qs104 am_q13 am_q1809) (am_o12 (p := 271) (by decide +kernel)) rfl ⟨rfl, rfl⟩ (by decide +kernel) ⟨Nat.le_of_ble_eq_true rfl, Nat.le_of_ble_eq_true rfl⟩ rfl hl.1 rfl (Nat.le_of_ble_eq_true rfl) ⟨Nat.zero_le _, Nat.zero_le _⟩ dX12_more_85) hH (fun H locs hH => ?_)
          obtain ⟨r_69, w_67, hq_68, hf⟩ := am_b2_some hf
          refine am_calli (r := r_69) (w' := w_67) (am_runS (n := 1) (As := [.int r_66]) (rest := [.int (w_60.1 271 13)]) ⟨hx, hb, hml, hown, hts⟩ hK hE hH (k_X12_bits hq_68) (am_gS am_q1629 am_q1630 am_q13 am_q1631) ⟨rfl, rfl⟩ (by decide +kernel) ⟨Nat.le_of_ble_eq_true rfl, Nat.le_of_ble_eq_true rfl⟩ rfl hl.1 rfl (Nat.le_of_ble_eq_true rfl) ⟨Nat.zero_le _, Nat.zero_le _⟩ dX12_more_88) hH (fun H locs hH => ?_)
          refine lv_isub hx hb dX12_more_91 ?_
          obtain ⟨x6_70, hx6_70, hf⟩ := am_v_some hf
          refine am_topi hx6_70 ?_
          refine lv_istore (lv' := [(6, .int x6_70), (0, .ref (G.1 + 271)), (1, .int a1), (2, .int a2), (3, .int x3), (4, .int x4), (5, .int x5)]) hx hb dX12_more_92 hl (by decide) rfl (fun ls hl => ?_)
          refine lv_iload_n hx hb dX12_more_94 rfl (lv_at hl 4 rfl) ?_
          refine lv_iconst (v := -1) hx hb dX12_more_95 (by decide) ?_
          refine lv_icmp_eq (tgt := 106) hx hb dX12_more_96 (by decide) (fun hc_71 => ?_) (fun hc_71 => ?_)
          · have hf := (if_pos hc_71).symm.trans hf
            exact P106 x5 x6_70 w_67 z1 H locs ls hf hk1 hH (lv_sub hl [1, 2, 3, 6, 0] rfl)
          · have hf := (if_neg hc_71).symm.trans hf
            refine lv_iload hx hb dX12_more_99 (lv_at hl 0 rfl) ?_
            refine lv_iload hx hb dX12_more_101 (lv_at hl 5 rfl) ?_
            refine lv_icmp_le (tgt := 113) hx hb dX12_more_103 (by decide) (fun hc_72 => ?_) (fun hc_72 => ?_)
            · have hf := (if_pos hc_72).symm.trans hf
              exact P113 x3 x4 x5 w_67 z1 H locs ls hf hk1 hH (lv_sub hl [1, 2, 3, 4, 5, 6] rfl)
            · have hf := (if_neg hc_72).symm.trans hf
              exact P106 x5 x6_70 w_67 z1 H locs ls hf hk1 hH (lv_sub hl [1, 2, 3, 6, 0] rfl)
  refine am_enter (lv := [(0, .ref (G.1 + 271)), (1, .int a1), (2, .int a2)]) (Nat.le_of_ble_eq_true rfl) rfl (fun ls hl => ?_)
  unfold f_X12_more at hf
  refine am_start hH (fun H locs hH => ?_)
  refine lv_aload_n hx hb dX12_more_0 rfl (lv_at hl 0 rfl) ?_
  refine lv_iload_n hx hb dX12_more_1 rfl (lv_at hl 1 rfl) ?_
  obtain ⟨r_75, w_73, hq_74, hf⟩ := am_b2_some hf
  refine am_calli (r := r_75) (w' := w_73) (am_runV (n := 1) (As := [.int a1]) (rest := []) ⟨hx, hb, hml, hown, hts⟩ hK hE hH (k_X12_isUser hq_74) (am_gV am_q1554 am_q1556 am_qs69 am_q13 am_q1557) (am_o12 (p := 271) (by decide +kernel)) rfl ⟨rfl, rfl⟩ (by decide +kernel) ⟨Nat.le_of_ble_eq_true rfl, Nat.le_of_ble_eq_true rfl⟩ rfl hl.1 rfl (Nat.le_of_ble_eq_true rfl) ⟨Nat.zero_le _, Nat.zero_le _⟩ dX12_more_2) hH (fun H locs hH => ?_)
  refine lv_if_eq (tgt := 17) hx hb dX12_more_5 (by decide) (fun hc_76 => ?_) (fun hc_76 => ?_)
  · have hf := (if_pos hc_76).symm.trans hf
    exact P17 w_73 H locs ls hf hH (lv_sub hl [] rfl)
  · have hf := (if_neg hc_76).symm.trans hf
    refine lv_iload_n hx hb dX12_more_8 rfl (lv_at hl 2 rfl) ?_
    refine lv_iconst (v := 0) hx hb dX12_more_9 (by decide) ?_
    refine lv_iconst (v := 1) hx hb dX12_more_10 (by decide) ?_
    obtain ⟨r_79, w_77, hq_78, hf⟩ := am_b2_some hf
    refine am_calli (r := r_79) (w' := w_77) (am_runS (n := 3) (As := [.int a2, .int (0 : Int32), .int (1 : Int32)]) (rest := []) ⟨hx, hb, hml, hown, hts⟩ hK hE hH (k_X12_in hq_78) (am_gS am_q1425 am_q1426 am_q13 am_q1427) ⟨rfl, rfl⟩ (by decide +kernel) ⟨Nat.le_of_ble_eq_true rfl, Nat.le_of_ble_eq_true rfl⟩ rfl hl.1 rfl (Nat.le_of_ble_eq_true rfl) ⟨Nat.zero_le _, Nat.zero_le _⟩ dX12_more_11) hH (fun H locs hH => ?_)
    refine lv_if_ne (tgt := 21) hx hb dX12_more_14 (by decide) (fun hc_80 => ?_) (fun hc_80 => ?_)
    · have hf := (if_neg hc_80).symm.trans hf
      refine lv_iconst (v := -1) hx hb dX12_more_21 (by decide) ?_
      refine lv_istore_n (lv' := [(3, .int (-1 : Int32)), (0, .ref (G.1 + 271)), (1, .int a1), (2, .int a2)]) hx hb dX12_more_22 rfl hl (by decide) rfl (fun ls hl => ?_)
      refine lv_iconst (v := 0) hx hb dX12_more_23 (by decide) ?_
      refine lv_istore (lv' := [(4, .int (0 : Int32)), (3, .int (-1 : Int32)), (0, .ref (G.1 + 271)), (1, .int a1), (2, .int a2)]) hx hb dX12_more_24 hl (by decide) rfl (fun ls hl => ?_)
      refine lv_aload_n hx hb dX12_more_26 rfl (lv_at hl 2 rfl) ?_
      refine lv_iload_n hx hb dX12_more_27 rfl (lv_at hl 3 rfl) ?_
      obtain ⟨r_83, w_81, hq_82, hf⟩ := am_b2_some hf
      refine am_calli (r := r_83) (w' := w_81) (am_runV (n := 1) (As := [.int a1]) (rest := []) ⟨hx, hb, hml, hown, hts⟩ hK hE hH (k_X12_beginOf hq_82) (am_gV am_q1566 am_q1568 am_qs72 am_q13 am_q1569) (am_o12 (p := 271) (by decide +kernel)) rfl ⟨rfl, rfl⟩ (by decide +kernel) ⟨Nat.le_of_ble_eq_true rfl, Nat.le_of_ble_eq_true rfl⟩ rfl hl.1 rfl (Nat.le_of_ble_eq_true rfl) ⟨Nat.zero_le _, Nat.zero_le _⟩ dX12_more_28) hH (fun H locs hH => ?_)
      refine lv_istore (lv' := [(5, .int r_83), (4, .int (0 : Int32)), (3, .int (-1 : Int32)), (0, .ref (G.1 + 271)), (1, .int a1), (2, .int a2)]) hx hb dX12_more_31 hl (by decide) rfl (fun ls hl => ?_)
      exact P33 am_fuel (-1 : Int32) (0 : Int32) r_83 w_81 H locs ls hf hH (lv_sub hl [3, 4, 5, 2, 1, 0] rfl)
    · have hf := (if_pos hc_80).symm.trans hf
      exact P17 w_77 H locs ls hf hH (lv_sub hl [] rfl)

def f_X12_fullestSlot_30  (x2 : Int32) (s0 : Int32) (w : am_S) : Option ((Int32 × am_S) ⊕ (Int32 × Int32 × am_S)) :=
  am_v (x2 + (1 : Int32)) fun (x2_13 : Int32) => some (.inr (s0, x2_13, w))
def f_X12_fullestSlot_4b  (x1 : Int32) (x2 : Int32) (w : am_S) : Option ((Int32 × am_S) ⊕ (Int32 × Int32 × am_S)) :=
  am_b2 (f_X12_slotMany w) fun r_16 w_14 => if r_16 ≤ x2 then (am_x (some (x1, w_14))) else (am_b2 (f_X12_copiesIn x2 w_14) fun r_21 w_19 => am_b2 (f_X12_copiesIn x1 w_19) fun r_24 w_22 => if r_21 ≤ r_24 then (f_X12_fullestSlot_30 x2 x1 w_22) else (f_X12_fullestSlot_30 x2 x2 w_22))
def f_X12_fullestSlot_4  (x1 : Int32) (x2 : Int32) (w : am_S) : Option (Int32 × am_S) :=
  am_loop (fun (st : (Int32 × Int32 × am_S)) => f_X12_fullestSlot_4b st.1 st.2.1 st.2.2) am_fuel (x1, x2, w)
def f_X12_fullestSlot  (w : am_S) : Option (Int32 × am_S) :=
  f_X12_fullestSlot_4 (0 : Int32) (1 : Int32) w
set_option maxRecDepth 100000 in
set_option maxHeartbeats 4000000 in
theorem k_X12_fullestSlot {G : am_G} {l : Launch}   {w : am_S} {rr : Int32} {ww : am_S} (hf : f_X12_fullestSlot  w = some (rr, ww)) : am_Mi G l yX12_fullestSlot (Cond.code yX12_fullestSlot cX12_fullestSlot 3 (some .int) :: am_T) { frames := 3, cells := 0, slots := 0, locals := 192 } [.ref (G.1 + 271)] w rr ww := by
  refine Met.ofW (cc := cX12_fullestSlot) (maxL := 3) (ret := (some .int)) (by decide) rfl ?_
  intro p e s m args below meth c s₁ B hml hv
  obtain ⟨rfl, hx, hb, hr, hts, hown, hlocks, hK, hE, hH⟩ := am_begin B hv
  have hown : s.vm.findClass RX12 = some m.cls := hown
  show W p l e { frames := 3, cells := 0, slots := 0, locals := 192 } s m _ below meth c s.heap [] 0 0 _ _
  have P4 : ∀ (n1 : Nat) (x1 : Int32) (x2 : Int32) (w : am_S) (H : Heap) (locs : List Loc) (ls : Array Slot), am_loop (fun (st : (Int32 × Int32 × am_S)) => f_X12_fullestSlot_4b st.1 st.2.1 st.2.2) n1 (x1, x2, w) = some (rr, ww) → am_H G w s H locs → lv_has ls 3 [(0, .ref (G.1 + 271)), (1, .int x1), (2, .int x2)] → W p l e { frames := 3, cells := 0, slots := 0, locals := 192 } s m [.ref (G.1 + 271)].toArray below meth c H locs 0 0 (MQ below (va_Qi (fun (x : Int32) (u : am_S) => x = rr ∧ u = ww) (am_U G) (am_A G)) [.ref (G.1 + 271)].toArray s 0 0 (am_A G)) (F0 m 4 ls []) := by
    intro n1
    induction n1 with
    | zero =>
      intro x1 x2 w H locs ls hf hH hl
      exact (am_loop_zero hf).elim
    | succ n1 ih1 =>
      intro x1 x2 w H locs ls hf hH hl
      obtain ⟨z1, hf, hk1⟩ := am_loop_succ hf
      have hf : f_X12_fullestSlot_4b x1 x2 w = some z1 := hf
      have P30 : ∀ (x2 : Int32) (s0 : Int32) (w : am_S) (z1 : ((Int32 × am_S) ⊕ (Int32 × Int32 × am_S))) (H : Heap) (locs : List Loc) (ls : Array Slot), f_X12_fullestSlot_30 x2 s0 w = some z1 → am_lk (fun (st : (Int32 × Int32 × am_S)) => f_X12_fullestSlot_4b st.1 st.2.1 st.2.2) n1 (rr, ww) z1 → am_H G w s H locs → lv_has ls 3 [(0, .ref (G.1 + 271)), (2, .int x2)] → W p l e { frames := 3, cells := 0, slots := 0, locals := 192 } s m [.ref (G.1 + 271)].toArray below meth c H locs 0 0 (MQ below (va_Qi (fun (x : Int32) (u : am_S) => x = rr ∧ u = ww) (am_U G) (am_A G)) [.ref (G.1 + 271)].toArray s 0 0 (am_A G)) (F0 m 30 ls [.int s0]) := by
        intro x2 s0 w z1 H locs ls hf hk1 hH hl
        unfold f_X12_fullestSlot_30 at hf
        refine lv_istore_n (lv' := [(1, .int s0), (0, .ref (G.1 + 271)), (2, .int x2)]) hx hb dX12_fullestSlot_30 rfl hl (by decide) rfl (fun ls hl => ?_)
        obtain ⟨x2_13, hx2_13, hf⟩ := am_v_some hf
        refine lv_iinc (v := x2_13) (lv' := [(2, .int x2_13), (1, .int s0), (0, .ref (G.1 + 271))]) hx hb dX12_fullestSlot_31 hl (k := 2) rfl (by rw [hx2_13]; rfl) (by decide) rfl (fun ls hl => ?_)
        refine lv_goto (tgt := 4) hx hb dX12_fullestSlot_34 (by decide) ?_
        obtain rfl := Option.some.inj hf
        exact ih1 s0 x2_13 w H locs ls hk1 hH (lv_sub hl [2, 1, 0] rfl)
      unfold f_X12_fullestSlot_4b at hf
      refine lv_iload_n hx hb dX12_fullestSlot_4 rfl (lv_at hl 2 rfl) ?_
      refine lv_aload_n hx hb dX12_fullestSlot_5 rfl (lv_at hl 0 rfl) ?_
      obtain ⟨r_16, w_14, hq_15, hf⟩ := am_b2_some hf
      refine am_calli (r := r_16) (w' := w_14) (am_runV (n := 0) (As := []) (rest := [.int x2]) ⟨hx, hb, hml, hown, hts⟩ hK hE hH (k_X12_slotMany hq_15) (am_gV am_q1518 am_q1520 am_qs60 am_q13 am_q1521) (am_o12 (p := 271) (by decide +kernel)) rfl ⟨rfl, rfl⟩ (by decide +kernel) ⟨Nat.le_of_ble_eq_true rfl, Nat.le_of_ble_eq_true rfl⟩ rfl hl.1 rfl (Nat.le_of_ble_eq_true rfl) ⟨Nat.zero_le _, Nat.zero_le _⟩ dX12_fullestSlot_6) hH (fun H locs hH => ?_)
      refine lv_icmp_ge (tgt := 37) hx hb dX12_fullestSlot_9 (by decide) (fun hc_17 => ?_) (fun hc_17 => ?_)
      · have hf := (if_pos hc_17).symm.trans hf
        obtain ⟨y_18, hf, hzy_18⟩ := am_x_some hf
        rw [hzy_18] at hk1
        have hf := hf.trans (congrArg some (show y_18 = (rr, ww) from hk1))
        refine lv_iload_n hx hb dX12_fullestSlot_37 rfl (lv_at hl 1 rfl) ?_
        exact am_reti hx hb hr hlocks hH hf dX12_fullestSlot_38
      · have hf := (if_neg hc_17).symm.trans hf
        refine lv_aload_n hx hb dX12_fullestSlot_12 rfl (lv_at hl 0 rfl) ?_
        refine lv_iload_n hx hb dX12_fullestSlot_13 rfl (lv_at hl 2 rfl) ?_
        obtain ⟨r_21, w_19, hq_20, hf⟩ := am_b2_some hf
        refine am_calli (r := r_21) (w' := w_19) (am_runV (n := 1) (As := [.int x2]) (rest := []) ⟨hx, hb, hml, hown, hts⟩ hK hE hH (k_X12_copiesIn hq_20) (am_gV am_q1786 am_q1788 am_qs100 am_q13 am_q1789) (am_o12 (p := 271) (by decide +kernel)) rfl ⟨rfl, rfl⟩ (by decide +kernel) ⟨Nat.le_of_ble_eq_true rfl, Nat.le_of_ble_eq_true rfl⟩ rfl hl.1 rfl (Nat.le_of_ble_eq_true rfl) ⟨Nat.zero_le _, Nat.zero_le _⟩ dX12_fullestSlot_14) hH (fun H locs hH => ?_)
        refine lv_aload_n hx hb dX12_fullestSlot_17 rfl (lv_at hl 0 rfl) ?_
        refine lv_iload_n hx hb dX12_fullestSlot_18 rfl (lv_at hl 1 rfl) ?_
        obtain ⟨r_24, w_22, hq_23, hf⟩ := am_b2_some hf
        refine am_calli (r := r_24) (w' := w_22) (am_runV (n := 1) (As := [.int x1]) (rest := [.int r_21]) ⟨hx, hb, hml, hown, hts⟩ hK hE hH (k_X12_copiesIn hq_23) (am_gV am_q1786 am_q1788 am_qs100 am_q13 am_q1789) (am_o12 (p := 271) (by decide +kernel)) rfl ⟨rfl, rfl⟩ (by decide +kernel) ⟨Nat.le_of_ble_eq_true rfl, Nat.le_of_ble_eq_true rfl⟩ rfl hl.1 rfl (Nat.le_of_ble_eq_true rfl) ⟨Nat.zero_le _, Nat.zero_le _⟩ dX12_fullestSlot_19) hH (fun H locs hH => ?_)
        refine lv_icmp_le (tgt := 29) hx hb dX12_fullestSlot_22 (by decide) (fun hc_25 => ?_) (fun hc_25 => ?_)
        · have hf := (if_pos hc_25).symm.trans hf
          refine lv_iload_n hx hb dX12_fullestSlot_29 rfl (lv_at hl 1 rfl) ?_
          exact P30 x2 x1 w_22 z1 H locs ls hf hk1 hH (lv_sub hl [0, 2] rfl)
        · have hf := (if_neg hc_25).symm.trans hf
          refine lv_iload_n hx hb dX12_fullestSlot_25 rfl (lv_at hl 2 rfl) ?_
          refine lv_goto (tgt := 30) hx hb dX12_fullestSlot_26 (by decide) ?_
          exact P30 x2 x2 w_22 z1 H locs ls hf hk1 hH (lv_sub hl [0, 2] rfl)
  refine am_enter (lv := [(0, .ref (G.1 + 271))]) (Nat.le_of_ble_eq_true rfl) rfl (fun ls hl => ?_)
  unfold f_X12_fullestSlot at hf
  refine am_start hH (fun H locs hH => ?_)
  refine lv_iconst (v := 0) hx hb dX12_fullestSlot_0 (by decide) ?_
  refine lv_istore_n (lv' := [(1, .int (0 : Int32)), (0, .ref (G.1 + 271))]) hx hb dX12_fullestSlot_1 rfl hl (by decide) rfl (fun ls hl => ?_)
  refine lv_iconst (v := 1) hx hb dX12_fullestSlot_2 (by decide) ?_
  refine lv_istore_n (lv' := [(2, .int (1 : Int32)), (1, .int (0 : Int32)), (0, .ref (G.1 + 271))]) hx hb dX12_fullestSlot_3 rfl hl (by decide) rfl (fun ls hl => ?_)
  exact P4 am_fuel (0 : Int32) (1 : Int32) w H locs ls hf hH (lv_sub hl [2, 1, 0] rfl)

def f_X12_busiest_30  (x2 : Int32) (s0 : Int32) (w : am_S) : Option ((Int32 × am_S) ⊕ (Int32 × Int32 × am_S)) :=
  am_v (x2 + (1 : Int32)) fun (x2_10 : Int32) => some (.inr (s0, x2_10, w))
def f_X12_busiest_4b  (x1 : Int32) (x2 : Int32) (w : am_S) : Option ((Int32 × am_S) ⊕ (Int32 × Int32 × am_S)) :=
  if (w.1 271 13) ≤ x2 then (am_x (some (x1, w))) else (am_b2 (f_X12_copyMany x2 w) fun r_15 w_13 => am_b2 (f_X12_copyMany x1 w_13) fun r_18 w_16 => if r_15 ≤ r_18 then (f_X12_busiest_30 x2 x1 w_16) else (f_X12_busiest_30 x2 x2 w_16))
def f_X12_busiest_4  (x1 : Int32) (x2 : Int32) (w : am_S) : Option (Int32 × am_S) :=
  am_loop (fun (st : (Int32 × Int32 × am_S)) => f_X12_busiest_4b st.1 st.2.1 st.2.2) am_fuel (x1, x2, w)
def f_X12_busiest  (w : am_S) : Option (Int32 × am_S) :=
  f_X12_busiest_4 (0 : Int32) (1 : Int32) w
set_option maxRecDepth 100000 in
set_option maxHeartbeats 4000000 in
theorem k_X12_busiest {G : am_G} {l : Launch}   {w : am_S} {rr : Int32} {ww : am_S} (hf : f_X12_busiest  w = some (rr, ww)) : am_Mi G l yX12_busiest (Cond.code yX12_busiest cX12_busiest 3 (some .int) :: am_T) { frames := 2, cells := 0, slots := 0, locals := 128 } [.ref (G.1 + 271)] w rr ww := by
  refine Met.ofW (cc := cX12_busiest) (maxL := 3) (ret := (some .int)) (by decide) rfl ?_
  intro p e s m args below meth c s₁ B hml hv
  obtain ⟨rfl, hx, hb, hr, hts, hown, hlocks, hK, hE, hH⟩ := am_begin B hv
  have hown : s.vm.findClass RX12 = some m.cls := hown
  show W p l e { frames := 2, cells := 0, slots := 0, locals := 128 } s m _ below meth c s.heap [] 0 0 _ _
  have P4 : ∀ (n1 : Nat) (x1 : Int32) (x2 : Int32) (w : am_S) (H : Heap) (locs : List Loc) (ls : Array Slot), am_loop (fun (st : (Int32 × Int32 × am_S)) => f_X12_busiest_4b st.1 st.2.1 st.2.2) n1 (x1, x2, w) = some (rr, ww) → am_H G w s H locs → lv_has ls 3 [(0, .ref (G.1 + 271)), (1, .int x1), (2, .int x2)] → W p l e { frames := 2, cells := 0, slots := 0, locals := 128 } s m [.ref (G.1 + 271)].toArray below meth c H locs 0 0 (MQ below (va_Qi (fun (x : Int32) (u : am_S) => x = rr ∧ u = ww) (am_U G) (am_A G)) [.ref (G.1 + 271)].toArray s 0 0 (am_A G)) (F0 m 4 ls []) := by
    intro n1
    induction n1 with
    | zero =>
      intro x1 x2 w H locs ls hf hH hl
      exact (am_loop_zero hf).elim
    | succ n1 ih1 =>
      intro x1 x2 w H locs ls hf hH hl
      obtain ⟨z1, hf, hk1⟩ := am_loop_succ hf
      have hf : f_X12_busiest_4b x1 x2 w = some z1 := hf
      have P30 : ∀ (x2 : Int32) (s0 : Int32) (w : am_S) (z1 : ((Int32 × am_S) ⊕ (Int32 × Int32 × am_S))) (H : Heap) (locs : List Loc) (ls : Array Slot), f_X12_busiest_30 x2 s0 w = some z1 → am_lk (fun (st : (Int32 × Int32 × am_S)) => f_X12_busiest_4b st.1 st.2.1 st.2.2) n1 (rr, ww) z1 → am_H G w s H locs → lv_has ls 3 [(0, .ref (G.1 + 271)), (2, .int x2)] → W p l e { frames := 2, cells := 0, slots := 0, locals := 128 } s m [.ref (G.1 + 271)].toArray below meth c H locs 0 0 (MQ below (va_Qi (fun (x : Int32) (u : am_S) => x = rr ∧ u = ww) (am_U G) (am_A G)) [.ref (G.1 + 271)].toArray s 0 0 (am_A G)) (F0 m 30 ls [.int s0]) := by
        intro x2 s0 w z1 H locs ls hf hk1 hH hl
        unfold f_X12_busiest_30 at hf
        refine lv_istore_n (lv' := [(1, .int s0), (0, .ref (G.1 + 271)), (2, .int x2)]) hx hb dX12_busiest_30 rfl hl (by decide) rfl (fun ls hl => ?_)
        obtain ⟨x2_10, hx2_10, hf⟩ := am_v_some hf
        refine lv_iinc (v := x2_10) (lv' := [(2, .int x2_10), (1, .int s0), (0, .ref (G.1 + 271))]) hx hb dX12_busiest_31 hl (k := 2) rfl (by rw [hx2_10]; rfl) (by decide) rfl (fun ls hl => ?_)
        refine lv_goto (tgt := 4) hx hb dX12_busiest_34 (by decide) ?_
        obtain rfl := Option.some.inj hf
        exact ih1 s0 x2_10 w H locs ls hk1 hH (lv_sub hl [2, 1, 0] rfl)
      unfold f_X12_busiest_4b at hf
      refine lv_iload_n hx hb dX12_busiest_4 rfl (lv_at hl 2 rfl) ?_
      refine lv_aload_n hx hb dX12_busiest_5 rfl (lv_at hl 0 rfl) ?_
      refine am_get hx hb hts hK hown hH (am_o12 (p := 271) (by decide +kernel)) rfl am_inX12 13 (by decide) am_q1332 (v := .int (w.1 271 13)) rfl dX12_busiest_6 ?_
      refine lv_icmp_ge (tgt := 37) hx hb dX12_busiest_9 (by decide) (fun hc_11 => ?_) (fun hc_11 => ?_)
      · have hf := (if_pos hc_11).symm.trans hf
        obtain ⟨y_12, hf, hzy_12⟩ := am_x_some hf
        rw [hzy_12] at hk1
        have hf := hf.trans (congrArg some (show y_12 = (rr, ww) from hk1))
        refine lv_iload_n hx hb dX12_busiest_37 rfl (lv_at hl 1 rfl) ?_
        exact am_reti hx hb hr hlocks hH hf dX12_busiest_38
      · have hf := (if_neg hc_11).symm.trans hf
        refine lv_aload_n hx hb dX12_busiest_12 rfl (lv_at hl 0 rfl) ?_
        refine lv_iload_n hx hb dX12_busiest_13 rfl (lv_at hl 2 rfl) ?_
        obtain ⟨r_15, w_13, hq_14, hf⟩ := am_b2_some hf
        refine am_calli (r := r_15) (w' := w_13) (am_runV (n := 1) (As := [.int x2]) (rest := []) ⟨hx, hb, hml, hown, hts⟩ hK hE hH (k_X12_copyMany hq_14) (am_gV am_q1632 am_q1634 am_qs87 am_q13 am_q1635) (am_o12 (p := 271) (by decide +kernel)) rfl ⟨rfl, rfl⟩ (by decide +kernel) ⟨Nat.le_of_ble_eq_true rfl, Nat.le_of_ble_eq_true rfl⟩ rfl hl.1 rfl (Nat.le_of_ble_eq_true rfl) ⟨Nat.zero_le _, Nat.zero_le _⟩ dX12_busiest_14) hH (fun H locs hH => ?_)
        refine lv_aload_n hx hb dX12_busiest_17 rfl (lv_at hl 0 rfl) ?_
        refine lv_iload_n hx hb dX12_busiest_18 rfl (lv_at hl 1 rfl) ?_
        obtain ⟨r_18, w_16, hq_17, hf⟩ := am_b2_some hf
        refine am_calli (r := r_18) (w' := w_16) (am_runV (n := 1) (As := [.int x1]) (rest := [.int r_15]) ⟨hx, hb, hml, hown, hts⟩ hK hE hH (k_X12_copyMany hq_17) (am_gV am_q1632 am_q1634 am_qs87 am_q13 am_q1635) (am_o12 (p := 271) (by decide +kernel)) rfl ⟨rfl, rfl⟩ (by decide +kernel) ⟨Nat.le_of_ble_eq_true rfl, Nat.le_of_ble_eq_true rfl⟩ rfl hl.1 rfl (Nat.le_of_ble_eq_true rfl) ⟨Nat.zero_le _, Nat.zero_le _⟩ dX12_busiest_19) hH (fun H locs hH => ?_)
        refine lv_icmp_le (tgt := 29) hx hb dX12_busiest_22 (by decide) (fun hc_19 => ?_) (fun hc_19 => ?_)
        · have hf := (if_pos hc_19).symm.trans hf
          refine lv_iload_n hx hb dX12_busiest_29 rfl (lv_at hl 1 rfl) ?_
          exact P30 x2 x1 w_16 z1 H locs ls hf hk1 hH (lv_sub hl [0, 2] rfl)
        · have hf := (if_neg hc_19).symm.trans hf
          refine lv_iload_n hx hb dX12_busiest_25 rfl (lv_at hl 2 rfl) ?_
          refine lv_goto (tgt := 30) hx hb dX12_busiest_26 (by decide) ?_
          exact P30 x2 x2 w_16 z1 H locs ls hf hk1 hH (lv_sub hl [0, 2] rfl)
  refine am_enter (lv := [(0, .ref (G.1 + 271))]) (Nat.le_of_ble_eq_true rfl) rfl (fun ls hl => ?_)
  unfold f_X12_busiest at hf
  refine am_start hH (fun H locs hH => ?_)
  refine lv_iconst (v := 0) hx hb dX12_busiest_0 (by decide) ?_
  refine lv_istore_n (lv' := [(1, .int (0 : Int32)), (0, .ref (G.1 + 271))]) hx hb dX12_busiest_1 rfl hl (by decide) rfl (fun ls hl => ?_)
  refine lv_iconst (v := 1) hx hb dX12_busiest_2 (by decide) ?_
  refine lv_istore_n (lv' := [(2, .int (1 : Int32)), (1, .int (0 : Int32)), (0, .ref (G.1 + 271))]) hx hb dX12_busiest_3 rfl hl (by decide) rfl (fun ls hl => ?_)
  exact P4 am_fuel (0 : Int32) (1 : Int32) w H locs ls hf hH (lv_sub hl [2, 1, 0] rfl)

def f_X12_strongest_33  (x2 : Int32) (s0 : Int32) (w : am_S) : Option ((Int32 × am_S) ⊕ (Int32 × Int32 × am_S)) :=
  am_v (x2 + (1 : Int32)) fun (x2_6 : Int32) => some (.inr (s0, x2_6, w))
def f_X12_strongest_4b  (x1 : Int32) (x2 : Int32) (w : am_S) : Option ((Int32 × am_S) ⊕ (Int32 × Int32 × am_S)) :=
  if (w.1 271 13) ≤ x2 then (am_x (some (x1, w))) else (am_chk x2 10 (am_chk x1 10 (if (Op.cmpValue (FP.fcmp (w.2.2 283 x2.toNatClampNeg) (w.2.2 283 x1.toNatClampNeg)) .l) ≤ 0 then (f_X12_strongest_33 x2 x1 w) else (f_X12_strongest_33 x2 x2 w))))
def f_X12_strongest_4  (x1 : Int32) (x2 : Int32) (w : am_S) : Option (Int32 × am_S) :=
  am_loop (fun (st : (Int32 × Int32 × am_S)) => f_X12_strongest_4b st.1 st.2.1 st.2.2) am_fuel (x1, x2, w)
def f_X12_strongest  (w : am_S) : Option (Int32 × am_S) :=
  f_X12_strongest_4 (0 : Int32) (1 : Int32) w
set_option maxRecDepth 100000 in
set_option maxHeartbeats 4000000 in
theorem k_X12_strongest {G : am_G} {l : Launch}   {w : am_S} {rr : Int32} {ww : am_S} (hf : f_X12_strongest  w = some (rr, ww)) : am_Mi G l yX12_strongest (Cond.code yX12_strongest cX12_strongest 3 (some .int) :: am_T) { frames := 0, cells := 0, slots := 0, locals := 0 } [.ref (G.1 + 271)] w rr ww := by
  refine Met.ofW (cc := cX12_strongest) (maxL := 3) (ret := (some .int)) (by decide) rfl ?_
  intro p e s m args below meth c s₁ B hml hv
  obtain ⟨rfl, hx, hb, hr, hts, hown, hlocks, hK, hE, hH⟩ := am_begin B hv
  have hown : s.vm.findClass RX12 = some m.cls := hown
  show W p l e { frames := 0, cells := 0, slots := 0, locals := 0 } s m _ below meth c s.heap [] 0 0 _ _
  have P4 : ∀ (n1 : Nat) (x1 : Int32) (x2 : Int32) (w : am_S) (H : Heap) (locs : List Loc) (ls : Array Slot), am_loop (fun (st : (Int32 × Int32 × am_S)) => f_X12_strongest_4b st.1 st.2.1 st.2.2) n1 (x1, x2, w) = some (rr, ww) → am_H G w s H locs → lv_has ls 3 [(0, .ref (G.1 + 271)), (1, .int x1), (2, .int x2)] → W p l e { frames := 0, cells := 0, slots := 0, locals := 0 } s m [.ref (G.1 + 271)].toArray below meth c H locs 0 0 (MQ below (va_Qi (fun (x : Int32) (u : am_S) => x = rr ∧ u = ww) (am_U G) (am_A G)) [.ref (G.1 + 271)].toArray s 0 0 (am_A G)) (F0 m 4 ls []) := by
    intro n1
    induction n1 with
    | zero =>
      intro x1 x2 w H locs ls hf hH hl
      exact (am_loop_zero hf).elim
    | succ n1 ih1 =>
      intro x1 x2 w H locs ls hf hH hl
      obtain ⟨z1, hf, hk1⟩ := am_loop_succ hf
      have hf : f_X12_strongest_4b x1 x2 w = some z1 := hf
      have P33 : ∀ (x2 : Int32) (s0 : Int32) (w : am_S) (z1 : ((Int32 × am_S) ⊕ (Int32 × Int32 × am_S))) (H : Heap) (locs : List Loc) (ls : Array Slot), f_X12_strongest_33 x2 s0 w = some z1 → am_lk (fun (st : (Int32 × Int32 × am_S)) => f_X12_strongest_4b st.1 st.2.1 st.2.2) n1 (rr, ww) z1 → am_H G w s H locs → lv_has ls 3 [(0, .ref (G.1 + 271)), (2, .int x2)] → W p l e { frames := 0, cells := 0, slots := 0, locals := 0 } s m [.ref (G.1 + 271)].toArray below meth c H locs 0 0 (MQ below (va_Qi (fun (x : Int32) (u : am_S) => x = rr ∧ u = ww) (am_U G) (am_A G)) [.ref (G.1 + 271)].toArray s 0 0 (am_A G)) (F0 m 33 ls [.int s0]) := by
        intro x2 s0 w z1 H locs ls hf hk1 hH hl
        unfold f_X12_strongest_33 at hf
        refine lv_istore_n (lv' := [(1, .int s0), (0, .ref (G.1 + 271)), (2, .int x2)]) hx hb dX12_strongest_33 rfl hl (by decide) rfl (fun ls hl => ?_)
        obtain ⟨x2_6, hx2_6, hf⟩ := am_v_some hf
        refine lv_iinc (v := x2_6) (lv' := [(2, .int x2_6), (1, .int s0), (0, .ref (G.1 + 271))]) hx hb dX12_strongest_34 hl (k := 2) rfl (by rw [hx2_6]; rfl) (by decide) rfl (fun ls hl => ?_)
        refine lv_goto (tgt := 4) hx hb dX12_strongest_37 (by decide) ?_
        obtain rfl := Option.some.inj hf
        exact ih1 s0 x2_6 w H locs ls hk1 hH (lv_sub hl [2, 1, 0] rfl)
      unfold f_X12_strongest_4b at hf
      refine lv_iload_n hx hb dX12_strongest_4 rfl (lv_at hl 2 rfl) ?_
      refine lv_aload_n hx hb dX12_strongest_5 rfl (lv_at hl 0 rfl) ?_
      refine am_get hx hb hts hK hown hH (am_o12 (p := 271) (by decide +kernel)) rfl am_inX12 13 (by decide) am_q1332 (v := .int (w.1 271 13)) rfl dX12_strongest_6 ?_
      refine lv_icmp_ge (tgt := 40) hx hb dX12_strongest_9 (by decide) (fun hc_7 => ?_) (fun hc_7 => ?_)
      · have hf := (if_pos hc_7).symm.trans hf
        obtain ⟨y_8, hf, hzy_8⟩ := am_x_some hf
        rw [hzy_8] at hk1
        have hf := hf.trans (congrArg some (show y_8 = (rr, ww) from hk1))
        refine lv_iload_n hx hb dX12_strongest_40 rfl (lv_at hl 1 rfl) ?_
        exact am_reti hx hb hr hlocks hH hf dX12_strongest_41
      · have hf := (if_neg hc_7).symm.trans hf
        refine lv_aload_n hx hb dX12_strongest_12 rfl (lv_at hl 0 rfl) ?_
        refine am_get hx hb hts hK hown hH (am_o12 (p := 271) (by decide +kernel)) rfl am_inX12 19 (by decide) am_q1338 (v := .ref (G.1 + 283)) rfl dX12_strongest_13 ?_
        refine lv_iload_n hx hb dX12_strongest_16 rfl (lv_at hl 2 rfl) ?_
        obtain ⟨hi_9, hf⟩ := am_chk_some hf
        refine am_fald hx hb hK hH (am_af_of (N := 10) (by decide +kernel)) hi_9 dX12_strongest_17 ?_
        refine lv_aload_n hx hb dX12_strongest_18 rfl (lv_at hl 0 rfl) ?_
        refine am_get hx hb hts hK hown hH (am_o12 (p := 271) (by decide +kernel)) rfl am_inX12 19 (by decide) am_q1338 (v := .ref (G.1 + 283)) rfl dX12_strongest_19 ?_
        refine lv_iload_n hx hb dX12_strongest_22 rfl (lv_at hl 1 rfl) ?_
        obtain ⟨hi_10, hf⟩ := am_chk_some hf
        refine am_fald hx hb hK hH (am_af_of (N := 10) (by decide +kernel)) hi_10 dX12_strongest_23 ?_
        refine lv_fcmp hx hb dX12_strongest_24 ?_
        refine lv_if_le (tgt := 32) hx hb dX12_strongest_25 (by decide) (fun hc_11 => ?_) (fun hc_11 => ?_)
        · have hf := (if_pos hc_11).symm.trans hf
          refine lv_iload_n hx hb dX12_strongest_32 rfl (lv_at hl 1 rfl) ?_
          exact P33 x2 x1 w z1 H locs ls hf hk1 hH (lv_sub hl [0, 2] rfl)
        · have hf := (if_neg hc_11).symm.trans hf
          refine lv_iload_n hx hb dX12_strongest_28 rfl (lv_at hl 2 rfl) ?_
          refine lv_goto (tgt := 33) hx hb dX12_strongest_29 (by decide) ?_
          exact P33 x2 x2 w z1 H locs ls hf hk1 hH (lv_sub hl [0, 2] rfl)
  refine am_enter (lv := [(0, .ref (G.1 + 271))]) (Nat.le_of_ble_eq_true rfl) rfl (fun ls hl => ?_)
  unfold f_X12_strongest at hf
  refine am_start hH (fun H locs hH => ?_)
  refine lv_iconst (v := 0) hx hb dX12_strongest_0 (by decide) ?_
  refine lv_istore_n (lv' := [(1, .int (0 : Int32)), (0, .ref (G.1 + 271))]) hx hb dX12_strongest_1 rfl hl (by decide) rfl (fun ls hl => ?_)
  refine lv_iconst (v := 1) hx hb dX12_strongest_2 (by decide) ?_
  refine lv_istore_n (lv' := [(2, .int (1 : Int32)), (1, .int (0 : Int32)), (0, .ref (G.1 + 271))]) hx hb dX12_strongest_3 rfl hl (by decide) rfl (fun ls hl => ?_)
  exact P4 am_fuel (0 : Int32) (1 : Int32) w H locs ls hf hH (lv_sub hl [2, 1, 0] rfl)

def f_X12_slotsWith_27 (a1 : Int32) (x3 : Int32) (s0 : Int32) (s1 : Int32) (w : am_S) : Option ((Int32 × am_S) ⊕ (Int32 × Int32 × am_S)) :=
  am_v (s1 + s0) fun (x2_11 : Int32) => am_v (x3 + (1 : Int32)) fun (x3_12 : Int32) => some (.inr (x2_11, x3_12, w))
def f_X12_slotsWith_4b (a1 : Int32) (x2 : Int32) (x3 : Int32) (w : am_S) : Option ((Int32 × am_S) ⊕ (Int32 × Int32 × am_S)) :=
  am_b2 (f_X12_slotMany w) fun r_15 w_13 => if r_15 ≤ x3 then (am_x (some (x2, w_13))) else (am_b2 (f_X12_copiesIn x3 w_13) fun r_20 w_18 => if r_20 = a1 then (f_X12_slotsWith_27 a1 x3 (1 : Int32) x2 w_18) else (f_X12_slotsWith_27 a1 x3 (0 : Int32) x2 w_18))
def f_X12_slotsWith_4 (a1 : Int32) (x2 : Int32) (x3 : Int32) (w : am_S) : Option (Int32 × am_S) :=
  am_loop (fun (st : (Int32 × Int32 × am_S)) => f_X12_slotsWith_4b a1 st.1 st.2.1 st.2.2) am_fuel (x2, x3, w)
def f_X12_slotsWith (a1 : Int32) (w : am_S) : Option (Int32 × am_S) :=
  f_X12_slotsWith_4 a1 (0 : Int32) (0 : Int32) w
set_option maxRecDepth 100000 in
set_option maxHeartbeats 4000000 in
theorem k_X12_slotsWith {G : am_G} {l : Launch} {a1 : Int32}  {w : am_S} {rr : Int32} {ww : am_S} (hf : f_X12_slotsWith a1 w = some (rr, ww)) : am_Mi G l yX12_slotsWith (Cond.code yX12_slotsWith cX12_slotsWith 4 (some .int) :: am_T) { frames := 3, cells := 0, slots := 0, locals := 192 } [.ref (G.1 + 271), .int a1] w rr ww := by
  refine Met.ofW (cc := cX12_slotsWith) (maxL := 4) (ret := (some .int)) (by decide) rfl ?_
  intro p e s m args below meth c s₁ B hml hv
  obtain ⟨rfl, hx, hb, hr, hts, hown, hlocks, hK, hE, hH⟩ := am_begin B hv
  have hown : s.vm.findClass RX12 = some m.cls := hown
  show W p l e { frames := 3, cells := 0, slots := 0, locals := 192 } s m _ below meth c s.heap [] 0 0 _ _
  have P4 : ∀ (n1 : Nat) (x2 : Int32) (x3 : Int32) (w : am_S) (H : Heap) (locs : List Loc) (ls : Array Slot), am_loop (fun (st : (Int32 × Int32 × am_S)) => f_X12_slotsWith_4b a1 st.1 st.2.1 st.2.2) n1 (x2, x3, w) = some (rr, ww) → am_H G w s H locs → lv_has ls 4 [(0, .ref (G.1 + 271)), (1, .int a1), (2, .int x2), (3, .int x3)] → W p l e { frames := 3, cells := 0, slots := 0, locals := 192 } s m [.ref (G.1 + 271), .int a1].toArray below meth c H locs 0 0 (MQ below (va_Qi (fun (x : Int32) (u : am_S) => x = rr ∧ u = ww) (am_U G) (am_A G)) [.ref (G.1 + 271), .int a1].toArray s 0 0 (am_A G)) (F0 m 4 ls []) := by
    intro n1
    induction n1 with
    | zero =>
      intro x2 x3 w H locs ls hf hH hl
      exact (am_loop_zero hf).elim
    | succ n1 ih1 =>
      intro x2 x3 w H locs ls hf hH hl
      obtain ⟨z1, hf, hk1⟩ := am_loop_succ hf
      have hf : f_X12_slotsWith_4b a1 x2 x3 w = some z1 := hf
      have P27 : ∀ (x3 : Int32) (s0 : Int32) (s1 : Int32) (w : am_S) (z1 : ((Int32 × am_S) ⊕ (Int32 × Int32 × am_S))) (H : Heap) (locs : List Loc) (ls : Array Slot), f_X12_slotsWith_27 a1 x3 s0 s1 w = some z1 → am_lk (fun (st : (Int32 × Int32 × am_S)) => f_X12_slotsWith_4b a1 st.1 st.2.1 st.2.2) n1 (rr, ww) z1 → am_H G w s H locs → lv_has ls 4 [(0, .ref (G.1 + 271)), (1, .int a1), (3, .int x3)] → W p l e { frames := 3, cells := 0, slots := 0, locals := 192 } s m [.ref (G.1 + 271), .int a1].toArray below meth c H locs 0 0 (MQ below (va_Qi (fun (x : Int32) (u : am_S) => x = rr ∧ u = ww) (am_U G) (am_A G)) [.ref (G.1 + 271), .int a1].toArray s 0 0 (am_A G)) (F0 m 27 ls [.int s0, .int s1]) := by
        intro x3 s0 s1 w z1 H locs ls hf hk1 hH hl
        unfold f_X12_slotsWith_27 at hf
        refine lv_iadd hx hb dX12_slotsWith_27 ?_
        obtain ⟨x2_11, hx2_11, hf⟩ := am_v_some hf
        refine am_topi hx2_11 ?_
        refine lv_istore_n (lv' := [(2, .int x2_11), (0, .ref (G.1 + 271)), (1, .int a1), (3, .int x3)]) hx hb dX12_slotsWith_28 rfl hl (by decide) rfl (fun ls hl => ?_)
        obtain ⟨x3_12, hx3_12, hf⟩ := am_v_some hf
        refine lv_iinc (v := x3_12) (lv' := [(3, .int x3_12), (2, .int x2_11), (0, .ref (G.1 + 271)), (1, .int a1)]) hx hb dX12_slotsWith_29 hl (k := 3) rfl (by rw [hx3_12]; rfl) (by decide) rfl (fun ls hl => ?_)
        refine lv_goto (tgt := 4) hx hb dX12_slotsWith_32 (by decide) ?_
        obtain rfl := Option.some.inj hf
        exact ih1 x2_11 x3_12 w H locs ls hk1 hH (lv_sub hl [2, 3, 1, 0] rfl)
      unfold f_X12_slotsWith_4b at hf
      refine lv_iload_n hx hb dX12_slotsWith_4 rfl (lv_at hl 3 rfl) ?_
      refine lv_aload_n hx hb dX12_slotsWith_5 rfl (lv_at hl 0 rfl) ?_
      obtain ⟨r_15, w_13, hq_14, hf⟩ := am_b2_some hf
      refine am_calli (r := r_15) (w' := w_13) (am_runV (n := 0) (As := []) (rest := [.int x3]) ⟨hx, hb, hml, hown, hts⟩ hK hE hH (k_X12_slotMany hq_14) (am_gV am_q1518 am_q1520 am_qs60 am_q13 am_q1521) (am_o12 (p := 271) (by decide +kernel)) rfl ⟨rfl, rfl⟩ (by decide +kernel) ⟨Nat.le_of_ble_eq_true rfl, Nat.le_of_ble_eq_true rfl⟩ rfl hl.1 rfl (Nat.le_of_ble_eq_true rfl) ⟨Nat.zero_le _, Nat.zero_le _⟩ dX12_slotsWith_6) hH (fun H locs hH => ?_)
      refine lv_icmp_ge (tgt := 35) hx hb dX12_slotsWith_9 (by decide) (fun hc_16 => ?_) (fun hc_16 => ?_)
      · have hf := (if_pos hc_16).symm.trans hf
        obtain ⟨y_17, hf, hzy_17⟩ := am_x_some hf
        rw [hzy_17] at hk1
        have hf := hf.trans (congrArg some (show y_17 = (rr, ww) from hk1))
        refine lv_iload_n hx hb dX12_slotsWith_35 rfl (lv_at hl 2 rfl) ?_
        exact am_reti hx hb hr hlocks hH hf dX12_slotsWith_36
      · have hf := (if_neg hc_16).symm.trans hf
        refine lv_iload_n hx hb dX12_slotsWith_12 rfl (lv_at hl 2 rfl) ?_
        refine lv_aload_n hx hb dX12_slotsWith_13 rfl (lv_at hl 0 rfl) ?_
        refine lv_iload_n hx hb dX12_slotsWith_14 rfl (lv_at hl 3 rfl) ?_
        obtain ⟨r_20, w_18, hq_19, hf⟩ := am_b2_some hf
        refine am_calli (r := r_20) (w' := w_18) (am_runV (n := 1) (As := [.int x3]) (rest := [.int x2]) ⟨hx, hb, hml, hown, hts⟩ hK hE hH (k_X12_copiesIn hq_19) (am_gV am_q1786 am_q1788 am_qs100 am_q13 am_q1789) (am_o12 (p := 271) (by decide +kernel)) rfl ⟨rfl, rfl⟩ (by decide +kernel) ⟨Nat.le_of_ble_eq_true rfl, Nat.le_of_ble_eq_true rfl⟩ rfl hl.1 rfl (Nat.le_of_ble_eq_true rfl) ⟨Nat.zero_le _, Nat.zero_le _⟩ dX12_slotsWith_15) hH (fun H locs hH => ?_)
        refine lv_iload_n hx hb dX12_slotsWith_18 rfl (lv_at hl 1 rfl) ?_
        refine lv_icmp_ne (tgt := 26) hx hb dX12_slotsWith_19 (by decide) (fun hc_21 => ?_) (fun hc_21 => ?_)
        · have hf := (if_neg hc_21).symm.trans hf
          refine lv_iconst (v := 0) hx hb dX12_slotsWith_26 (by decide) ?_
          exact P27 x3 (0 : Int32) x2 w_18 z1 H locs ls hf hk1 hH (lv_sub hl [0, 1, 3] rfl)
        · have hf := (if_pos hc_21).symm.trans hf
          refine lv_iconst (v := 1) hx hb dX12_slotsWith_22 (by decide) ?_
          refine lv_goto (tgt := 27) hx hb dX12_slotsWith_23 (by decide) ?_
          exact P27 x3 (1 : Int32) x2 w_18 z1 H locs ls hf hk1 hH (lv_sub hl [0, 1, 3] rfl)
  refine am_enter (lv := [(0, .ref (G.1 + 271)), (1, .int a1)]) (Nat.le_of_ble_eq_true rfl) rfl (fun ls hl => ?_)
  unfold f_X12_slotsWith at hf
  refine am_start hH (fun H locs hH => ?_)
  refine lv_iconst (v := 0) hx hb dX12_slotsWith_0 (by decide) ?_
  refine lv_istore_n (lv' := [(2, .int (0 : Int32)), (0, .ref (G.1 + 271)), (1, .int a1)]) hx hb dX12_slotsWith_1 rfl hl (by decide) rfl (fun ls hl => ?_)
  refine lv_iconst (v := 0) hx hb dX12_slotsWith_2 (by decide) ?_
  refine lv_istore_n (lv' := [(3, .int (0 : Int32)), (2, .int (0 : Int32)), (0, .ref (G.1 + 271)), (1, .int a1)]) hx hb dX12_slotsWith_3 rfl hl (by decide) rfl (fun ls hl => ?_)
  exact P4 am_fuel (0 : Int32) (0 : Int32) w H locs ls hf hH (lv_sub hl [2, 3, 1, 0] rfl)

def f_X12_copiesOfAll_4b  (x1 : Int32) (x2 : Int32) (w : am_S) : Option ((Int32 × am_S) ⊕ (Int32 × Int32 × am_S)) :=
  if (w.1 271 13) ≤ x2 then (am_x (some (x1, w))) else (am_b2 (f_X12_copyMany x2 w) fun r_11 w_9 => am_v (x1 + r_11) fun (x1_12 : Int32) => am_v (x2 + (1 : Int32)) fun (x2_13 : Int32) => some (.inr (x1_12, x2_13, w_9)))
def f_X12_copiesOfAll_4  (x1 : Int32) (x2 : Int32) (w : am_S) : Option (Int32 × am_S) :=
  am_loop (fun (st : (Int32 × Int32 × am_S)) => f_X12_copiesOfAll_4b st.1 st.2.1 st.2.2) am_fuel (x1, x2, w)
def f_X12_copiesOfAll  (w : am_S) : Option (Int32 × am_S) :=
  f_X12_copiesOfAll_4 (0 : Int32) (0 : Int32) w
set_option maxRecDepth 100000 in
set_option maxHeartbeats 4000000 in
theorem k_X12_copiesOfAll {G : am_G} {l : Launch}   {w : am_S} {rr : Int32} {ww : am_S} (hf : f_X12_copiesOfAll  w = some (rr, ww)) : am_Mi G l yX12_copiesOfAll (Cond.code yX12_copiesOfAll cX12_copiesOfAll 3 (some .int) :: am_T) { frames := 2, cells := 0, slots := 0, locals := 128 } [.ref (G.1 + 271)] w rr ww := by
  refine Met.ofW (cc := cX12_copiesOfAll) (maxL := 3) (ret := (some .int)) (by decide) rfl ?_
  intro p e s m args below meth c s₁ B hml hv
  obtain ⟨rfl, hx, hb, hr, hts, hown, hlocks, hK, hE, hH⟩ := am_begin B hv
  have hown : s.vm.findClass RX12 = some m.cls := hown
  show W p l e { frames := 2, cells := 0, slots := 0, locals := 128 } s m _ below meth c s.heap [] 0 0 _ _
  have P4 : ∀ (n1 : Nat) (x1 : Int32) (x2 : Int32) (w : am_S) (H : Heap) (locs : List Loc) (ls : Array Slot), am_loop (fun (st : (Int32 × Int32 × am_S)) => f_X12_copiesOfAll_4b st.1 st.2.1 st.2.2) n1 (x1, x2, w) = some (rr, ww) → am_H G w s H locs → lv_has ls 3 [(0, .ref (G.1 + 271)), (1, .int x1), (2, .int x2)] → W p l e { frames := 2, cells := 0, slots := 0, locals := 128 } s m [.ref (G.1 + 271)].toArray below meth c H locs 0 0 (MQ below (va_Qi (fun (x : Int32) (u : am_S) => x = rr ∧ u = ww) (am_U G) (am_A G)) [.ref (G.1 + 271)].toArray s 0 0 (am_A G)) (F0 m 4 ls []) := by
    intro n1
    induction n1 with
    | zero =>
      intro x1 x2 w H locs ls hf hH hl
      exact (am_loop_zero hf).elim
    | succ n1 ih1 =>
      intro x1 x2 w H locs ls hf hH hl
      obtain ⟨z1, hf, hk1⟩ := am_loop_succ hf
      have hf : f_X12_copiesOfAll_4b x1 x2 w = some z1 := hf
      unfold f_X12_copiesOfAll_4b at hf
      refine lv_iload_n hx hb dX12_copiesOfAll_4 rfl (lv_at hl 2 rfl) ?_
      refine lv_aload_n hx hb dX12_copiesOfAll_5 rfl (lv_at hl 0 rfl) ?_
      refine am_get hx hb hts hK hown hH (am_o12 (p := 271) (by decide +kernel)) rfl am_inX12 13 (by decide) am_q1332 (v := .int (w.1 271 13)) rfl dX12_copiesOfAll_6 ?_
      refine lv_icmp_ge (tgt := 26) hx hb dX12_copiesOfAll_9 (by decide) (fun hc_7 => ?_) (fun hc_7 => ?_)
      · have hf := (if_pos hc_7).symm.trans hf
        obtain ⟨y_8, hf, hzy_8⟩ := am_x_some hf
        rw [hzy_8] at hk1
        have hf := hf.trans (congrArg some (show y_8 = (rr, ww) from hk1))
        refine lv_iload_n hx hb dX12_copiesOfAll_26 rfl (lv_at hl 1 rfl) ?_
        exact am_reti hx hb hr hlocks hH hf dX12_copiesOfAll_27
      · have hf := (if_neg hc_7).symm.trans hf
        refine lv_iload_n hx hb dX12_copiesOfAll_12 rfl (lv_at hl 1 rfl) ?_
        refine lv_aload_n hx hb dX12_copiesOfAll_13 rfl (lv_at hl 0 rfl) ?_
        refine lv_iload_n hx hb dX12_copiesOfAll_14 rfl (lv_at hl 2 rfl) ?_
        obtain ⟨r_11, w_9, hq_10, hf⟩ := am_b2_some hf
        refine am_calli (r := r_11) (w' := w_9) (am_runV (n := 1) (As := [.int x2]) (rest := [.int x1]) ⟨hx, hb, hml, hown, hts⟩ hK hE hH (k_X12_copyMany hq_10) (am_gV am_q1632 am_q1634 am_qs87 am_q13 am_q1635) (am_o12 (p := 271) (by decide +kernel)) rfl ⟨rfl, rfl⟩ (by decide +kernel) ⟨Nat.le_of_ble_eq_true rfl, Nat.le_of_ble_eq_true rfl⟩ rfl hl.1 rfl (Nat.le_of_ble_eq_true rfl) ⟨Nat.zero_le _, Nat.zero_le _⟩ dX12_copiesOfAll_15) hH (fun H locs hH => ?_)
        refine lv_iadd hx hb dX12_copiesOfAll_18 ?_
        obtain ⟨x1_12, hx1_12, hf⟩ := am_v_some hf
        refine am_topi hx1_12 ?_
        refine lv_istore_n (lv' := [(1, .int x1_12), (0, .ref (G.1 + 271)), (2, .int x2)]) hx hb dX12_copiesOfAll_19 rfl hl (by decide) rfl (fun ls hl => ?_)
        obtain ⟨x2_13, hx2_13, hf⟩ := am_v_some hf
        refine lv_iinc (v := x2_13) (lv' := [(2, .int x2_13), (1, .int x1_12), (0, .ref (G.1 + 271))]) hx hb dX12_copiesOfAll_20 hl (k := 2) rfl (by rw [hx2_13]; rfl) (by decide) rfl (fun ls hl => ?_)
        refine lv_goto (tgt := 4) hx hb dX12_copiesOfAll_23 (by decide) ?_
        obtain rfl := Option.some.inj hf
        exact ih1 x1_12 x2_13 w_9 H locs ls hk1 hH (lv_sub hl [2, 1, 0] rfl)
  refine am_enter (lv := [(0, .ref (G.1 + 271))]) (Nat.le_of_ble_eq_true rfl) rfl (fun ls hl => ?_)
  unfold f_X12_copiesOfAll at hf
  refine am_start hH (fun H locs hH => ?_)
  refine lv_iconst (v := 0) hx hb dX12_copiesOfAll_0 (by decide) ?_
  refine lv_istore_n (lv' := [(1, .int (0 : Int32)), (0, .ref (G.1 + 271))]) hx hb dX12_copiesOfAll_1 rfl hl (by decide) rfl (fun ls hl => ?_)
  refine lv_iconst (v := 0) hx hb dX12_copiesOfAll_2 (by decide) ?_
  refine lv_istore_n (lv' := [(2, .int (0 : Int32)), (1, .int (0 : Int32)), (0, .ref (G.1 + 271))]) hx hb dX12_copiesOfAll_3 rfl hl (by decide) rfl (fun ls hl => ?_)
  exact P4 am_fuel (0 : Int32) (0 : Int32) w H locs ls hf hH (lv_sub hl [2, 1, 0] rfl)

def f_X12_touches (a1 : Int32) (a2 : Int32) (w : am_S) : Option (Int32 × am_S) :=
  am_chk ((10 : Int32) + a1) 245 (am_chk ((10 : Int32) + a2) 245 (am_b2 (f_X12_bits ((w.1 281 ((10 : Int32) + a1).toNatClampNeg) &&& (w.1 281 ((10 : Int32) + a2).toNatClampNeg)) w) fun r_15 w_13 => am_chk ((20 : Int32) + a1) 245 (am_chk ((20 : Int32) + a2) 245 (am_b2 (f_X12_bits ((w_13.1 281 ((20 : Int32) + a1).toNatClampNeg) &&& (w_13.1 281 ((20 : Int32) + a2).toNatClampNeg)) w_13) fun r_20 w_18 => some (r_15 + r_20, w_18)))))
set_option maxRecDepth 100000 in
set_option maxHeartbeats 4000000 in
theorem k_X12_touches {G : am_G} {l : Launch} {a1 : Int32} {a2 : Int32}  {w : am_S} {rr : Int32} {ww : am_S} (hf : f_X12_touches a1 a2 w = some (rr, ww)) : am_Mi G l yX12_touches (Cond.code yX12_touches cX12_touches 3 (some .int) :: am_T) { frames := 1, cells := 0, slots := 0, locals := 64 } [.ref (G.1 + 271), .int a1, .int a2] w rr ww := by
  refine Met.ofW (cc := cX12_touches) (maxL := 3) (ret := (some .int)) (by decide) rfl ?_
  intro p e s m args below meth c s₁ B hml hv
  obtain ⟨rfl, hx, hb, hr, hts, hown, hlocks, hK, hE, hH⟩ := am_begin B hv
  have hown : s.vm.findClass RX12 = some m.cls := hown
  show W p l e { frames := 1, cells := 0, slots := 0, locals := 64 } s m _ below meth c s.heap [] 0 0 _ _
  refine am_enter (lv := [(0, .ref (G.1 + 271)), (1, .int a1), (2, .int a2)]) (Nat.le_of_ble_eq_true rfl) rfl (fun ls hl => ?_)
  unfold f_X12_touches at hf
  refine am_start hH (fun H locs hH => ?_)
  refine lv_aload_n hx hb dX12_touches_0 rfl (lv_at hl 0 rfl) ?_
  refine am_get hx hb hts hK hown hH (am_o12 (p := 271) (by decide +kernel)) rfl am_inX12 17 (by decide) am_q1336 (v := .ref (G.1 + 281)) rfl dX12_touches_1 ?_
  refine lv_bipush (v := 10) hx hb dX12_touches_4 (by decide) ?_
  refine lv_iload_n hx hb dX12_touches_6 rfl (lv_at hl 1 rfl) ?_
  refine lv_iadd hx hb dX12_touches_7 ?_
  obtain ⟨hi_11, hf⟩ := am_chk_some hf
  refine am_iald hx hb hK hH (am_ai_of (N := 245) (by decide +kernel)) hi_11 dX12_touches_8 ?_
  refine lv_aload_n hx hb dX12_touches_9 rfl (lv_at hl 0 rfl) ?_
  refine am_get hx hb hts hK hown hH (am_o12 (p := 271) (by decide +kernel)) rfl am_inX12 17 (by decide) am_q1336 (v := .ref (G.1 + 281)) rfl dX12_touches_10 ?_
  refine lv_bipush (v := 10) hx hb dX12_touches_13 (by decide) ?_
  refine lv_iload_n hx hb dX12_touches_15 rfl (lv_at hl 2 rfl) ?_
  refine lv_iadd hx hb dX12_touches_16 ?_
  obtain ⟨hi_12, hf⟩ := am_chk_some hf
  refine am_iald hx hb hK hH (am_ai_of (N := 245) (by decide +kernel)) hi_12 dX12_touches_17 ?_
  refine lv_iand hx hb dX12_touches_18 ?_
  obtain ⟨r_15, w_13, hq_14, hf⟩ := am_b2_some hf
  refine am_calli (r := r_15) (w' := w_13) (am_runS (n := 1) (As := [.int ((w.1 281 ((10 : Int32) + a1).toNatClampNeg) &&& (w.1 281 ((10 : Int32) + a2).toNatClampNeg))]) (rest := []) ⟨hx, hb, hml, hown, hts⟩ hK hE hH (k_X12_bits hq_14) (am_gS am_q1629 am_q1630 am_q13 am_q1631) ⟨rfl, rfl⟩ (by decide +kernel) ⟨Nat.le_of_ble_eq_true rfl, Nat.le_of_ble_eq_true rfl⟩ rfl hl.1 rfl (Nat.le_of_ble_eq_true rfl) ⟨Nat.zero_le _, Nat.zero_le _⟩ dX12_touches_19) hH (fun H locs hH => ?_)
  refine lv_aload_n hx hb dX12_touches_22 rfl (lv_at hl 0 rfl) ?_
  refine am_get hx hb hts hK hown hH (am_o12 (p := 271) (by decide +kernel)) rfl am_inX12 17 (by decide) am_q1336 (v := .ref (G.1 + 281)) rfl dX12_touches_23 ?_
  refine lv_bipush (v := 20) hx hb dX12_touches_26 (by decide) ?_
  refine lv_iload_n hx hb dX12_touches_28 rfl (lv_at hl 1 rfl) ?_
  refine lv_iadd hx hb dX12_touches_29 ?_
  obtain ⟨hi_16, hf⟩ := am_chk_some hf
  refine am_iald hx hb hK hH (am_ai_of (N := 245) (by decide +kernel)) hi_16 dX12_touches_30 ?_
  refine lv_aload_n hx hb dX12_touches_31 rfl (lv_at hl 0 rfl) ?_
  refine am_get hx hb hts hK hown hH (am_o12 (p := 271) (by decide +kernel)) rfl am_inX12 17 (by decide) am_q1336 (v := .ref (G.1 + 281)) rfl dX12_touches_32 ?_
  refine lv_bipush (v := 20) hx hb dX12_touches_35 (by decide) ?_
  refine lv_iload_n hx hb dX12_touches_37 rfl (lv_at hl 2 rfl) ?_
  refine lv_iadd hx hb dX12_touches_38 ?_
  obtain ⟨hi_17, hf⟩ := am_chk_some hf
  refine am_iald hx hb hK hH (am_ai_of (N := 245) (by decide +kernel)) hi_17 dX12_touches_39 ?_
  refine lv_iand hx hb dX12_touches_40 ?_
  obtain ⟨r_20, w_18, hq_19, hf⟩ := am_b2_some hf
  refine am_calli (r := r_20) (w' := w_18) (am_runS (n := 1) (As := [.int ((w_13.1 281 ((20 : Int32) + a1).toNatClampNeg) &&& (w_13.1 281 ((20 : Int32) + a2).toNatClampNeg))]) (rest := [.int r_15]) ⟨hx, hb, hml, hown, hts⟩ hK hE hH (k_X12_bits hq_19) (am_gS am_q1629 am_q1630 am_q13 am_q1631) ⟨rfl, rfl⟩ (by decide +kernel) ⟨Nat.le_of_ble_eq_true rfl, Nat.le_of_ble_eq_true rfl⟩ rfl hl.1 rfl (Nat.le_of_ble_eq_true rfl) ⟨Nat.zero_le _, Nat.zero_le _⟩ dX12_touches_41) hH (fun H locs hH => ?_)
  refine lv_iadd hx hb dX12_touches_44 ?_
  exact am_reti hx hb hr hlocks hH hf dX12_touches_45

def f_X12_parts_90  (x1 : Int32) (x2 : Int32) (x4 : Int32) (x5 : Int32) (x6 : Int32) (s0 : Int32) (s1 : Int32) (w : am_S) : Option (((((Int32 × am_S) ⊕ (Int32 × Int32 × am_S)) ⊕ (Int32 × Int32 × am_S)) ⊕ (Int32 × Int32 × am_S)) ⊕ (Int32 × Int32 × am_S)) :=
  am_v (s1 ||| s0) fun (x3_26 : Int32) => am_v (x6 + (1 : Int32)) fun (x6_27 : Int32) => some (.inr (x3_26, x6_27, w))
def f_X12_parts_89  (x1 : Int32) (x2 : Int32) (x4 : Int32) (x5 : Int32) (x6 : Int32) (s0 : Int32) (w : am_S) : Option (((((Int32 × am_S) ⊕ (Int32 × Int32 × am_S)) ⊕ (Int32 × Int32 × am_S)) ⊕ (Int32 × Int32 × am_S)) ⊕ (Int32 × Int32 × am_S)) :=
  f_X12_parts_90 x1 x2 x4 x5 x6 (0 : Int32) s0 w
def f_X12_parts_43b  (x1 : Int32) (x2 : Int32) (x4 : Int32) (x5 : Int32) (x3 : Int32) (x6 : Int32) (w : am_S) : Option (((((Int32 × am_S) ⊕ (Int32 × Int32 × am_S)) ⊕ (Int32 × Int32 × am_S)) ⊕ (Int32 × Int32 × am_S)) ⊕ (Int32 × Int32 × am_S)) :=
  if (w.1 271 13) ≤ x6 then (am_x (am_v (x5 + (1 : Int32)) fun (x5_30 : Int32) => some (.inr (x3, x5_30, w)))) else (am_b2 (f_X12_has x3 x5 w) fun r_33 w_31 => if r_33 = 0 then (f_X12_parts_89 x1 x2 x4 x5 x6 x3 w_31) else (am_b2 (f_X12_has x1 x6 w_31) fun r_37 w_35 => if r_37 = 0 then (f_X12_parts_89 x1 x2 x4 x5 x6 x3 w_35) else (am_b2 (f_X12_touches x5 x6 w_35) fun r_41 w_39 => if r_41 ≤ 0 then (f_X12_parts_89 x1 x2 x4 x5 x6 x3 w_39) else (f_X12_parts_90 x1 x2 x4 x5 x6 ((1 : Int32) <<< (x6 &&& 31)) x3 w_39))))
def f_X12_parts_43  (x1 : Int32) (x2 : Int32) (x3 : Int32) (x4 : Int32) (x5 : Int32) (x6 : Int32) (w : am_S) : Option ((((Int32 × am_S) ⊕ (Int32 × Int32 × am_S)) ⊕ (Int32 × Int32 × am_S)) ⊕ (Int32 × Int32 × am_S)) :=
  am_loop (fun (st : (Int32 × Int32 × am_S)) => f_X12_parts_43b x1 x2 x4 x5 st.1 st.2.1 st.2.2) am_fuel (x3, x6, w)
def f_X12_parts_31b  (x1 : Int32) (x2 : Int32) (x4 : Int32) (x3 : Int32) (x5 : Int32) (w : am_S) : Option ((((Int32 × am_S) ⊕ (Int32 × Int32 × am_S)) ⊕ (Int32 × Int32 × am_S)) ⊕ (Int32 × Int32 × am_S)) :=
  if (w.1 271 13) ≤ x5 then (am_x (some (.inr (x3, x4, w)))) else (f_X12_parts_43 x1 x2 x3 x4 x5 (0 : Int32) w)
def f_X12_parts_31  (x1 : Int32) (x2 : Int32) (x3 : Int32) (x4 : Int32) (x5 : Int32) (w : am_S) : Option (((Int32 × am_S) ⊕ (Int32 × Int32 × am_S)) ⊕ (Int32 × Int32 × am_S)) :=
  am_loop (fun (st : (Int32 × Int32 × am_S)) => f_X12_parts_31b x1 x2 x4 st.1 st.2.1 st.2.2) am_fuel (x3, x5, w)
def f_X12_parts_19b  (x1 : Int32) (x2 : Int32) (x3 : Int32) (x4 : Int32) (w : am_S) : Option (((Int32 × am_S) ⊕ (Int32 × Int32 × am_S)) ⊕ (Int32 × Int32 × am_S)) :=
  if x3 = x4 then (am_x (am_v (x1 &&& (x3 ^^^ (-1 : Int32))) fun (x1_47 : Int32) => am_v (x2 + (1 : Int32)) fun (x2_48 : Int32) => some (.inr (x1_47, x2_48, w)))) else (f_X12_parts_31 x1 x2 x3 x3 (0 : Int32) w)
def f_X12_parts_19  (x1 : Int32) (x2 : Int32) (x3 : Int32) (x4 : Int32) (w : am_S) : Option ((Int32 × am_S) ⊕ (Int32 × Int32 × am_S)) :=
  am_loop (fun (st : (Int32 × Int32 × am_S)) => f_X12_parts_19b x1 x2 st.1 st.2.1 st.2.2) am_fuel (x3, x4, w)
def f_X12_parts_7b  (x1 : Int32) (x2 : Int32) (w : am_S) : Option ((Int32 × am_S) ⊕ (Int32 × Int32 × am_S)) :=
  if x1 = 0 then (am_x (some (x2, w))) else (am_v (x1 &&& (-x1)) fun (x3_51 : Int32) => f_X12_parts_19 x1 x2 x3_51 (0 : Int32) w)
def f_X12_parts_7  (x1 : Int32) (x2 : Int32) (w : am_S) : Option (Int32 × am_S) :=
  am_loop (fun (st : (Int32 × Int32 × am_S)) => f_X12_parts_7b st.1 st.2.1 st.2.2) am_fuel (x1, x2, w)
def f_X12_parts  (w : am_S) : Option (Int32 × am_S) :=
  am_b2 (f_X12_unknownOnes w) fun r_54 w_52 => f_X12_parts_7 r_54 (0 : Int32) w_52
set_option maxRecDepth 100000 in
set_option maxHeartbeats 4000000 in
theorem k_X12_parts {G : am_G} {l : Launch}   {w : am_S} {rr : Int32} {ww : am_S} (hf : f_X12_parts  w = some (rr, ww)) : am_Mi G l yX12_parts (Cond.code yX12_parts cX12_parts 7 (some .int) :: am_T) { frames := 3, cells := 0, slots := 0, locals := 192 } [.ref (G.1 + 271)] w rr ww := by
  refine Met.ofW (cc := cX12_parts) (maxL := 7) (ret := (some .int)) (by decide) rfl ?_
  intro p e s m args below meth c s₁ B hml hv
  obtain ⟨rfl, hx, hb, hr, hts, hown, hlocks, hK, hE, hH⟩ := am_begin B hv
  have hown : s.vm.findClass RX12 = some m.cls := hown
  show W p l e { frames := 3, cells := 0, slots := 0, locals := 192 } s m _ below meth c s.heap [] 0 0 _ _
  have P7 : ∀ (n1 : Nat) (x1 : Int32) (x2 : Int32) (w : am_S) (H : Heap) (locs : List Loc) (ls : Array Slot), am_loop (fun (st : (Int32 × Int32 × am_S)) => f_X12_parts_7b st.1 st.2.1 st.2.2) n1 (x1, x2, w) = some (rr, ww) → am_H G w s H locs → lv_has ls 7 [(0, .ref (G.1 + 271)), (1, .int x1), (2, .int x2)] → W p l e { frames := 3, cells := 0, slots := 0, locals := 192 } s m [.ref (G.1 + 271)].toArray below meth c H locs 0 0 (MQ below (va_Qi (fun (x : Int32) (u : am_S) => x = rr ∧ u = ww) (am_U G) (am_A G)) [.ref (G.1 + 271)].toArray s 0 0 (am_A G)) (F0 m 7 ls []) := by
    intro n1
    induction n1 with
    | zero =>
      intro x1 x2 w H locs ls hf hH hl
      exact (am_loop_zero hf).elim
    | succ n1 ih1 =>
      intro x1 x2 w H locs ls hf hH hl
      obtain ⟨z1, hf, hk1⟩ := am_loop_succ hf
      have hf : f_X12_parts_7b x1 x2 w = some z1 := hf
      have P19 : ∀ (x1 : Int32) (x2 : Int32) (n2 : Nat) (x3 : Int32) (x4 : Int32) (w : am_S) (z1 : ((Int32 × am_S) ⊕ (Int32 × Int32 × am_S))) (H : Heap) (locs : List Loc) (ls : Array Slot), am_loop (fun (st : (Int32 × Int32 × am_S)) => f_X12_parts_19b x1 x2 st.1 st.2.1 st.2.2) n2 (x3, x4, w) = some z1 → am_lk (fun (st : (Int32 × Int32 × am_S)) => f_X12_parts_7b st.1 st.2.1 st.2.2) n1 (rr, ww) z1 → am_H G w s H locs → lv_has ls 7 [(0, .ref (G.1 + 271)), (1, .int x1), (2, .int x2), (3, .int x3), (4, .int x4)] → W p l e { frames := 3, cells := 0, slots := 0, locals := 192 } s m [.ref (G.1 + 271)].toArray below meth c H locs 0 0 (MQ below (va_Qi (fun (x : Int32) (u : am_S) => x = rr ∧ u = ww) (am_U G) (am_A G)) [.ref (G.1 + 271)].toArray s 0 0 (am_A G)) (F0 m 19 ls []) := by
        intro x1 x2 n2
        induction n2 with
        | zero =>
          intro x3 x4 w z1 H locs ls hf hk1 hH hl
          exact (am_loop_zero hf).elim
        | succ n2 ih2 =>
          intro x3 x4 w z1 H locs ls hf hk1 hH hl
          obtain ⟨z2, hf, hk2⟩ := am_loop_succ hf
          have hf : f_X12_parts_19b x1 x2 x3 x4 w = some z2 := hf
          have P31 : ∀ (x4 : Int32) (n3 : Nat) (x3 : Int32) (x5 : Int32) (w : am_S) (z2 : (((Int32 × am_S) ⊕ (Int32 × Int32 × am_S)) ⊕ (Int32 × Int32 × am_S))) (H : Heap) (locs : List Loc) (ls : Array Slot), am_loop (fun (st : (Int32 × Int32 × am_S)) => f_X12_parts_31b x1 x2 x4 st.1 st.2.1 st.2.2) n3 (x3, x5, w) = some z2 → am_lk (fun (st : (Int32 × Int32 × am_S)) => f_X12_parts_19b x1 x2 st.1 st.2.1 st.2.2) n2 z1 z2 → am_H G w s H locs → lv_has ls 7 [(0, .ref (G.1 + 271)), (1, .int x1), (2, .int x2), (3, .int x3), (4, .int x4), (5, .int x5)] → W p l e { frames := 3, cells := 0, slots := 0, locals := 192 } s m [.ref (G.1 + 271)].toArray below meth c H locs 0 0 (MQ below (va_Qi (fun (x : Int32) (u : am_S) => x = rr ∧ u = ww) (am_U G) (am_A G)) [.ref (G.1 + 271)].toArray s 0 0 (am_A G)) (F0 m 31 ls []) := by
            intro x4 n3
            induction n3 with
            | zero =>
              intro x3 x5 w z2 H locs ls hf hk2 hH hl
              exact (am_loop_zero hf).elim
            | succ n3 ih3 =>
              intro x3 x5 w z2 H locs ls hf hk2 hH hl
              obtain ⟨z3, hf, hk3⟩ := am_loop_succ hf
              have hf : f_X12_parts_31b x1 x2 x4 x3 x5 w = some z3 := hf
              have P43 : ∀ (x5 : Int32) (n4 : Nat) (x3 : Int32) (x6 : Int32) (w : am_S) (z3 : ((((Int32 × am_S) ⊕ (Int32 × Int32 × am_S)) ⊕ (Int32 × Int32 × am_S)) ⊕ (Int32 × Int32 × am_S))) (H : Heap) (locs : List Loc) (ls : Array Slot), am_loop (fun (st : (Int32 × Int32 × am_S)) => f_X12_parts_43b x1 x2 x4 x5 st.1 st.2.1 st.2.2) n4 (x3, x6, w) = some z3 → am_lk (fun (st : (Int32 × Int32 × am_S)) => f_X12_parts_31b x1 x2 x4 st.1 st.2.1 st.2.2) n3 z2 z3 → am_H G w s H locs → lv_has ls 7 [(0, .ref (G.1 + 271)), (1, .int x1), (2, .int x2), (3, .int x3), (4, .int x4), (5, .int x5), (6, .int x6)] → W p l e { frames := 3, cells := 0, slots := 0, locals := 192 } s m [.ref (G.1 + 271)].toArray below meth c H locs 0 0 (MQ below (va_Qi (fun (x : Int32) (u : am_S) => x = rr ∧ u = ww) (am_U G) (am_A G)) [.ref (G.1 + 271)].toArray s 0 0 (am_A G)) (F0 m 43 ls []) := by
                intro x5 n4
                induction n4 with
                | zero =>
                  intro x3 x6 w z3 H locs ls hf hk3 hH hl
                  exact (am_loop_zero hf).elim
                | succ n4 ih4 =>
                  intro x3 x6 w z3 H locs ls hf hk3 hH hl
                  obtain ⟨z4, hf, hk4⟩ := am_loop_succ hf
                  have hf : f_X12_parts_43b x1 x2 x4 x5 x3 x6 w = some z4 := hf
                  have P90 : ∀ (x6 : Int32) (s0 : Int32) (s1 : Int32) (w : am_S) (z4 : (((((Int32 × am_S) ⊕ (Int32 × Int32 × am_S)) ⊕ (Int32 × Int32 × am_S)) ⊕ (Int32 × Int32 × am_S)) ⊕ (Int32 × Int32 × am_S))) (H : Heap) (locs : List Loc) (ls : Array Slot), f_X12_parts_90 x1 x2 x4 x5 x6 s0 s1 w = some z4 → am_lk (fun (st : (Int32 × Int32 × am_S)) => f_X12_parts_43b x1 x2 x4 x5 st.1 st.2.1 st.2.2) n4 z3 z4 → am_H G w s H locs → lv_has ls 7 [(0, .ref (G.1 + 271)), (1, .int x1), (2, .int x2), (4, .int x4), (5, .int x5), (6, .int x6)] → W p l e { frames := 3, cells := 0, slots := 0, locals := 192 } s m [.ref (G.1 + 271)].toArray below meth c H locs 0 0 (MQ below (va_Qi (fun (x : Int32) (u : am_S) => x = rr ∧ u = ww) (am_U G) (am_A G)) [.ref (G.1 + 271)].toArray s 0 0 (am_A G)) (F0 m 90 ls [.int s0, .int s1]) := by
                    intro x6 s0 s1 w z4 H locs ls hf hk4 hH hl
                    unfold f_X12_parts_90 at hf
                    refine lv_ior hx hb dX12_parts_90 ?_
                    obtain ⟨x3_26, hx3_26, hf⟩ := am_v_some hf
                    refine am_topi hx3_26 ?_
                    refine lv_istore_n (lv' := [(3, .int x3_26), (0, .ref (G.1 + 271)), (1, .int x1), (2, .int x2), (4, .int x4), (5, .int x5), (6, .int x6)]) hx hb dX12_parts_91 rfl hl (by decide) rfl (fun ls hl => ?_)
                    obtain ⟨x6_27, hx6_27, hf⟩ := am_v_some hf
                    refine lv_iinc (v := x6_27) (lv' := [(6, .int x6_27), (3, .int x3_26), (0, .ref (G.1 + 271)), (1, .int x1), (2, .int x2), (4, .int x4), (5, .int x5)]) hx hb dX12_parts_92 hl (k := 6) rfl (by rw [hx6_27]; rfl) (by decide) rfl (fun ls hl => ?_)
                    refine lv_goto (tgt := 43) hx hb dX12_parts_95 (by decide) ?_
                    obtain rfl := Option.some.inj hf
                    exact ih4 x3_26 x6_27 w z3 H locs ls hk4 hk3 hH (lv_sub hl [2, 3, 4, 1, 5, 6, 0] rfl)
                  have P89 : ∀ (x6 : Int32) (s0 : Int32) (w : am_S) (z4 : (((((Int32 × am_S) ⊕ (Int32 × Int32 × am_S)) ⊕ (Int32 × Int32 × am_S)) ⊕ (Int32 × Int32 × am_S)) ⊕ (Int32 × Int32 × am_S))) (H : Heap) (locs : List Loc) (ls : Array Slot), f_X12_parts_89 x1 x2 x4 x5 x6 s0 w = some z4 → am_lk (fun (st : (Int32 × Int32 × am_S)) => f_X12_parts_43b x1 x2 x4 x5 st.1 st.2.1 st.2.2) n4 z3 z4 → am_H G w s H locs → lv_has ls 7 [(0, .ref (G.1 + 271)), (1, .int x1), (2, .int x2), (4, .int x4), (5, .int x5), (6, .int x6)] → W p l e { frames := 3, cells := 0, slots := 0, locals := 192 } s m [.ref (G.1 + 271)].toArray below meth c H locs 0 0 (MQ below (va_Qi (fun (x : Int32) (u : am_S) => x = rr ∧ u = ww) (am_U G) (am_A G)) [.ref (G.1 + 271)].toArray s 0 0 (am_A G)) (F0 m 89 ls [.int s0]) := by
                    intro x6 s0 w z4 H locs ls hf hk4 hH hl
                    unfold f_X12_parts_89 at hf
                    refine lv_iconst (v := 0) hx hb dX12_parts_89 (by decide) ?_
                    exact P90 x6 (0 : Int32) s0 w z4 H locs ls hf hk4 hH (lv_sub hl [0, 1, 2, 3, 4, 5] rfl)
                  unfold f_X12_parts_43b at hf
                  refine lv_iload hx hb dX12_parts_43 (lv_at hl 6 rfl) ?_
                  refine lv_aload_n hx hb dX12_parts_45 rfl (lv_at hl 0 rfl) ?_
                  refine am_get hx hb hts hK hown hH (am_o12 (p := 271) (by decide +kernel)) rfl am_inX12 13 (by decide) am_q1332 (v := .int (w.1 271 13)) rfl dX12_parts_46 ?_
                  refine lv_icmp_ge (tgt := 98) hx hb dX12_parts_49 (by decide) (fun hc_28 => ?_) (fun hc_28 => ?_)
                  · have hf := (if_pos hc_28).symm.trans hf
                    obtain ⟨y_29, hf, hzy_29⟩ := am_x_some hf
                    rw [hzy_29] at hk4
                    have hf := hf.trans (congrArg some (show y_29 = z3 from hk4))
                    obtain ⟨x5_30, hx5_30, hf⟩ := am_v_some hf
                    refine lv_iinc (v := x5_30) (lv' := [(5, .int x5_30), (0, .ref (G.1 + 271)), (1, .int x1), (2, .int x2), (3, .int x3), (4, .int x4), (6, .int x6)]) hx hb dX12_parts_98 hl (k := 5) rfl (by rw [hx5_30]; rfl) (by decide) rfl (fun ls hl => ?_)
                    refine lv_goto (tgt := 31) hx hb dX12_parts_101 (by decide) ?_
                    obtain rfl := Option.some.inj hf
                    exact ih3 x3 x5_30 w z2 H locs ls hk3 hk2 hH (lv_sub hl [1, 2, 3, 4, 5, 0] rfl)
                  · have hf := (if_neg hc_28).symm.trans hf
                    refine lv_iload_n hx hb dX12_parts_52 rfl (lv_at hl 3 rfl) ?_
                    refine lv_iload_n hx hb dX12_parts_53 rfl (lv_at hl 3 rfl) ?_
                    refine lv_iload hx hb dX12_parts_54 (lv_at hl 5 rfl) ?_
                    obtain ⟨r_33, w_31, hq_32, hf⟩ := am_b2_some hf
                    refine am_calli (r := r_33) (w' := w_31) (am_runS (n := 2) (As := [.int x3, .int x5]) (rest := [.int x3]) ⟨hx, hb, hml, hown, hts⟩ hK hE hH (k_X12_has hq_32) (am_gS am_q1454 am_q1455 am_q13 am_q1456) ⟨rfl, rfl⟩ (by decide +kernel) ⟨Nat.le_of_ble_eq_true rfl, Nat.le_of_ble_eq_true rfl⟩ rfl hl.1 rfl (Nat.le_of_ble_eq_true rfl) ⟨Nat.zero_le _, Nat.zero_le _⟩ dX12_parts_56) hH (fun H locs hH => ?_)
                    refine lv_if_eq (tgt := 89) hx hb dX12_parts_59 (by decide) (fun hc_34 => ?_) (fun hc_34 => ?_)
                    · have hf := (if_pos hc_34).symm.trans hf
                      exact P89 x6 x3 w_31 z4 H locs ls hf hk4 hH (lv_sub hl [0, 1, 2, 4, 5, 6] rfl)
                    · have hf := (if_neg hc_34).symm.trans hf
                      refine lv_iload_n hx hb dX12_parts_62 rfl (lv_at hl 1 rfl) ?_
                      refine lv_iload hx hb dX12_parts_63 (lv_at hl 6 rfl) ?_
                      obtain ⟨r_37, w_35, hq_36, hf⟩ := am_b2_some hf
                      refine am_calli (r := r_37) (w' := w_35) (am_runS (n := 2) (As := [.int x1, .int x6]) (rest := [.int x3]) ⟨hx, hb, hml, hown, hts⟩ hK hE hH (k_X12_has hq_36) (am_gS am_q1454 am_q1455 am_q13 am_q1456) ⟨rfl, rfl⟩ (by decide +kernel) ⟨Nat.le_of_ble_eq_true rfl, Nat.le_of_ble_eq_true rfl⟩ rfl hl.1 rfl (Nat.le_of_ble_eq_true rfl) ⟨Nat.zero_le _, Nat.zero_le _⟩ dX12_parts_65) hH (fun H locs hH => ?_)
                      refine lv_if_eq (tgt := 89) hx hb dX12_parts_68 (by decide) (fun hc_38 => ?_) (fun hc_38 => ?_)
                      · have hf := (if_pos hc_38).symm.trans hf
                        exact P89 x6 x3 w_35 z4 H locs ls hf hk4 hH (lv_sub hl [0, 1, 2, 4, 5, 6] rfl)
                      · have hf := (if_neg hc_38).symm.trans hf
                        refine lv_aload_n hx hb dX12_parts_71 rfl (lv_at hl 0 rfl) ?_
                        refine lv_iload hx hb dX12_parts_72 (lv_at hl 5 rfl) ?_
                        refine lv_iload hx hb dX12_parts_74 (lv_at hl 6 rfl) ?_
                        obtain ⟨r_41, w_39, hq_40, hf⟩ := am_b2_some hf
                        refine am_calli (r := r_41) (w' := w_39) (am_runV (n := 2) (As := [.int x5, .int x6]) (rest := [.int x3]) ⟨hx, hb, hml, hown, hts⟩ hK hE hH (k_X12_touches hq_40) (am_gV am_q1822 am_q1824 am_qs106 am_q13 am_q1825) (am_o12 (p := 271) (by decide +kernel)) rfl ⟨rfl, rfl⟩ (by decide +kernel) ⟨Nat.le_of_ble_eq_true rfl, Nat.le_of_ble_eq_true rfl⟩ rfl hl.1 rfl (Nat.le_of_ble_eq_true rfl) ⟨Nat.zero_le _, Nat.zero_le _⟩ dX12_parts_76) hH (fun H locs hH => ?_)
                        refine lv_if_le (tgt := 89) hx hb dX12_parts_79 (by decide) (fun hc_42 => ?_) (fun hc_42 => ?_)
                        · have hf := (if_pos hc_42).symm.trans hf
                          exact P89 x6 x3 w_39 z4 H locs ls hf hk4 hH (lv_sub hl [0, 1, 2, 4, 5, 6] rfl)
                        · have hf := (if_neg hc_42).symm.trans hf
                          refine lv_iconst (v := 1) hx hb dX12_parts_82 (by decide) ?_
                          refine lv_iload hx hb dX12_parts_83 (lv_at hl 6 rfl) ?_
                          refine lv_ishl hx hb dX12_parts_85 ?_
                          refine lv_goto (tgt := 90) hx hb dX12_parts_86 (by decide) ?_
                          exact P90 x6 ((1 : Int32) <<< (x6 &&& 31)) x3 w_39 z4 H locs ls hf hk4 hH (lv_sub hl [0, 1, 2, 4, 5, 6] rfl)
              unfold f_X12_parts_31b at hf
              refine lv_iload hx hb dX12_parts_31 (lv_at hl 5 rfl) ?_
              refine lv_aload_n hx hb dX12_parts_33 rfl (lv_at hl 0 rfl) ?_
              refine am_get hx hb hts hK hown hH (am_o12 (p := 271) (by decide +kernel)) rfl am_inX12 13 (by decide) am_q1332 (v := .int (w.1 271 13)) rfl dX12_parts_34 ?_
              refine lv_icmp_ge (tgt := 104) hx hb dX12_parts_37 (by decide) (fun hc_43 => ?_) (fun hc_43 => ?_)
              · have hf := (if_pos hc_43).symm.trans hf
                obtain ⟨y_44, hf, hzy_44⟩ := am_x_some hf
                rw [hzy_44] at hk3
                have hf := hf.trans (congrArg some (show y_44 = z2 from hk3))
                refine lv_goto (tgt := 19) hx hb dX12_parts_104 (by decide) ?_
                obtain rfl := Option.some.inj hf
                exact ih2 x3 x4 w z1 H locs ls hk2 hk1 hH (lv_sub hl [0, 1, 2, 3, 4] rfl)
              · have hf := (if_neg hc_43).symm.trans hf
                refine lv_iconst (v := 0) hx hb dX12_parts_40 (by decide) ?_
                refine lv_istore (lv' := [(6, .int (0 : Int32)), (0, .ref (G.1 + 271)), (1, .int x1), (2, .int x2), (3, .int x3), (4, .int x4), (5, .int x5)]) hx hb dX12_parts_41 hl (by decide) rfl (fun ls hl => ?_)
                exact P43 x5 am_fuel x3 (0 : Int32) w z3 H locs ls hf hk3 hH (lv_sub hl [1, 2, 3, 4, 5, 6, 0] rfl)
          unfold f_X12_parts_19b at hf
          refine lv_iload_n hx hb dX12_parts_19 rfl (lv_at hl 3 rfl) ?_
          refine lv_iload hx hb dX12_parts_20 (lv_at hl 4 rfl) ?_
          refine lv_icmp_eq (tgt := 107) hx hb dX12_parts_22 (by decide) (fun hc_45 => ?_) (fun hc_45 => ?_)
          · have hf := (if_pos hc_45).symm.trans hf
            obtain ⟨y_46, hf, hzy_46⟩ := am_x_some hf
            rw [hzy_46] at hk2
            have hf := hf.trans (congrArg some (show y_46 = z1 from hk2))
            refine lv_iload_n hx hb dX12_parts_107 rfl (lv_at hl 1 rfl) ?_
            refine lv_iload_n hx hb dX12_parts_108 rfl (lv_at hl 3 rfl) ?_
            refine lv_iconst (v := -1) hx hb dX12_parts_109 (by decide) ?_
            refine lv_ixor hx hb dX12_parts_110 ?_
            refine lv_iand hx hb dX12_parts_111 ?_
            obtain ⟨x1_47, hx1_47, hf⟩ := am_v_some hf
            refine am_topi hx1_47 ?_
            refine lv_istore_n (lv' := [(1, .int x1_47), (0, .ref (G.1 + 271)), (2, .int x2), (3, .int x3), (4, .int x4)]) hx hb dX12_parts_112 rfl hl (by decide) rfl (fun ls hl => ?_)
            obtain ⟨x2_48, hx2_48, hf⟩ := am_v_some hf
            refine lv_iinc (v := x2_48) (lv' := [(2, .int x2_48), (1, .int x1_47), (0, .ref (G.1 + 271)), (3, .int x3), (4, .int x4)]) hx hb dX12_parts_113 hl (k := 2) rfl (by rw [hx2_48]; rfl) (by decide) rfl (fun ls hl => ?_)
            refine lv_goto (tgt := 7) hx hb dX12_parts_116 (by decide) ?_
            obtain rfl := Option.some.inj hf
            exact ih1 x1_47 x2_48 w H locs ls hk1 hH (lv_sub hl [2, 1, 0] rfl)
          · have hf := (if_neg hc_45).symm.trans hf
            refine lv_iload_n hx hb dX12_parts_25 rfl (lv_at hl 3 rfl) ?_
            refine lv_istore (lv' := [(4, .int x3), (0, .ref (G.1 + 271)), (1, .int x1), (2, .int x2), (3, .int x3)]) hx hb dX12_parts_26 hl (by decide) rfl (fun ls hl => ?_)
            refine lv_iconst (v := 0) hx hb dX12_parts_28 (by decide) ?_
            refine lv_istore (lv' := [(5, .int (0 : Int32)), (4, .int x3), (0, .ref (G.1 + 271)), (1, .int x1), (2, .int x2), (3, .int x3)]) hx hb dX12_parts_29 hl (by decide) rfl (fun ls hl => ?_)
            exact P31 x3 am_fuel x3 (0 : Int32) w z2 H locs ls hf hk2 hH (lv_sub hl [2, 3, 4, 5, 1, 0] rfl)
      unfold f_X12_parts_7b at hf
      refine lv_iload_n hx hb dX12_parts_7 rfl (lv_at hl 1 rfl) ?_
      refine lv_if_eq (tgt := 119) hx hb dX12_parts_8 (by decide) (fun hc_49 => ?_) (fun hc_49 => ?_)
      · have hf := (if_pos hc_49).symm.trans hf
        obtain ⟨y_50, hf, hzy_50⟩ := am_x_some hf
        rw [hzy_50] at hk1
        have hf := hf.trans (congrArg some (show y_50 = (rr, ww) from hk1))
        refine lv_iload_n hx hb dX12_parts_119 rfl (lv_at hl 2 rfl) ?_
        exact am_reti hx hb hr hlocks hH hf dX12_parts_120
      · have hf := (if_neg hc_49).symm.trans hf
        refine lv_iload_n hx hb dX12_parts_11 rfl (lv_at hl 1 rfl) ?_
        refine lv_iload_n hx hb dX12_parts_12 rfl (lv_at hl 1 rfl) ?_
        refine lv_ineg hx hb dX12_parts_13 ?_
        refine lv_iand hx hb dX12_parts_14 ?_
        obtain ⟨x3_51, hx3_51, hf⟩ := am_v_some hf
        refine am_topi hx3_51 ?_
        refine lv_istore_n (lv' := [(3, .int x3_51), (0, .ref (G.1 + 271)), (1, .int x1), (2, .int x2)]) hx hb dX12_parts_15 rfl hl (by decide) rfl (fun ls hl => ?_)
        refine lv_iconst (v := 0) hx hb dX12_parts_16 (by decide) ?_
        refine lv_istore (lv' := [(4, .int (0 : Int32)), (3, .int x3_51), (0, .ref (G.1 + 271)), (1, .int x1), (2, .int x2)]) hx hb dX12_parts_17 hl (by decide) rfl (fun ls hl => ?_)
        exact P19 x1 x2 am_fuel x3_51 (0 : Int32) w z1 H locs ls hf hk1 hH (lv_sub hl [2, 3, 4, 1, 0] rfl)
  refine am_enter (lv := [(0, .ref (G.1 + 271))]) (Nat.le_of_ble_eq_true rfl) rfl (fun ls hl => ?_)
  unfold f_X12_parts at hf
  refine am_start hH (fun H locs hH => ?_)
  refine lv_aload_n hx hb dX12_parts_0 rfl (lv_at hl 0 rfl) ?_
  obtain ⟨r_54, w_52, hq_53, hf⟩ := am_b2_some hf
  refine am_calli (r := r_54) (w' := w_52) (am_runV (n := 0) (As := []) (rest := []) ⟨hx, hb, hml, hown, hts⟩ hK hE hH (k_X12_unknownOnes hq_53) (am_gV am_q1798 am_q1800 am_qs102 am_q13 am_q1801) (am_o12 (p := 271) (by decide +kernel)) rfl ⟨rfl, rfl⟩ (by decide +kernel) ⟨Nat.le_of_ble_eq_true rfl, Nat.le_of_ble_eq_true rfl⟩ rfl hl.1 rfl (Nat.le_of_ble_eq_true rfl) ⟨Nat.zero_le _, Nat.zero_le _⟩ dX12_parts_1) hH (fun H locs hH => ?_)
  refine lv_istore_n (lv' := [(1, .int r_54), (0, .ref (G.1 + 271))]) hx hb dX12_parts_4 rfl hl (by decide) rfl (fun ls hl => ?_)
  refine lv_iconst (v := 0) hx hb dX12_parts_5 (by decide) ?_
  refine lv_istore_n (lv' := [(2, .int (0 : Int32)), (1, .int r_54), (0, .ref (G.1 + 271))]) hx hb dX12_parts_6 rfl hl (by decide) rfl (fun ls hl => ?_)
  exact P7 am_fuel r_54 (0 : Int32) w_52 H locs ls hf hH (lv_sub hl [2, 1, 0] rfl)

def f_X12_most_17 (a1 : Int32) (w : am_S) : Option (Int32 × am_S) :=
  some ((-1000000 : Int32), w)
def f_X12_most (a1 : Int32) (w : am_S) : Option (Int32 × am_S) :=
  am_b2 (f_X12_isField w) fun r_55 w_53 => if r_55 = 0 then (f_X12_most_17 a1 w_53) else (am_b2 (f_X12_in a1 (0 : Int32) (8 : Int32) w_53) fun r_59 w_57 => if r_59 = 0 then (f_X12_most_17 a1 w_57) else ((if a1 = (0 : Int32) then (am_b2 (f_X12_knownSet w_57) fun r_71 w_69 => some (r_71, w_69)) else (if a1 = (1 : Int32) then (am_b2 (f_X12_fullestSlot w_57) fun r_74 w_72 => some (r_74, w_72)) else (if a1 = (2 : Int32) then (am_b2 (f_X12_busiest w_57) fun r_77 w_75 => some (r_77, w_75)) else (if a1 = (3 : Int32) then (am_b2 (f_X12_strongest w_57) fun r_80 w_78 => some (r_80, w_78)) else (if a1 = (4 : Int32) then (am_b2 (f_X12_slotsWith (0 : Int32) w_57) fun r_83 w_81 => some (r_83, w_81)) else (if a1 = (5 : Int32) then (am_b2 (f_X12_slotsWith (1 : Int32) w_57) fun r_86 w_84 => some (r_86, w_84)) else (if a1 = (6 : Int32) then (am_b2 (f_X12_copiesOfAll w_57) fun r_89 w_87 => some (r_89, w_87)) else (if a1 = (7 : Int32) then (am_b2 (f_X12_shelfAt (0 : Int32) w_57) fun r_92 w_90 => am_chk r_92 245 (am_b2 (f_X12_shelfAt (1 : Int32) w_90) fun r_96 w_94 => am_chk r_96 245 (am_b2 (f_X12_shelfAt (2 : Int32) w_94) fun r_100 w_98 => am_chk r_100 245 (some (((w_90.1 281 r_92.toNatClampNeg) + (w_94.1 281 r_96.toNatClampNeg)) + (w_98.1 281 r_100.toNatClampNeg), w_98))))) else (am_b2 (f_X12_parts w_57) fun r_104 w_102 => some (r_104, w_102))))))))))))
set_option maxRecDepth 100000 in
set_option maxHeartbeats 4000000 in
theorem k_X12_most {G : am_G} {l : Launch} {a1 : Int32}  {w : am_S} {rr : Int32} {ww : am_S} (hf : f_X12_most a1 w = some (rr, ww)) : am_Mi G l yX12_most (Cond.code yX12_most cX12_most 2 (some .int) :: am_T) { frames := 4, cells := 0, slots := 0, locals := 256 } [.ref (G.1 + 271), .int a1] w rr ww := by
  refine Met.ofW (cc := cX12_most) (maxL := 2) (ret := (some .int)) (by decide) rfl ?_
  intro p e s m args below meth c s₁ B hml hv
  obtain ⟨rfl, hx, hb, hr, hts, hown, hlocks, hK, hE, hH⟩ := am_begin B hv
  have hown : s.vm.findClass RX12 = some m.cls := hown
  show W p l e { frames := 4, cells := 0, slots := 0, locals := 256 } s m _ below meth c s.heap [] 0 0 _ _
  have P17 : ∀ (w : am_S) (H : Heap) (locs : List Loc) (ls : Array Slot), f_X12_most_17 a1 w = some (rr, ww) → am_H G w s H locs → lv_has ls 2 [] → W p l e { frames := 4, cells := 0, slots := 0, locals := 256 } s m [.ref (G.1 + 271), .int a1].toArray below meth c H locs 0 0 (MQ below (va_Qi (fun (x : Int32) (u : am_S) => x = rr ∧ u = ww) (am_U G) (am_A G)) [.ref (G.1 + 271), .int a1].toArray s 0 0 (am_A G)) (F0 m 17 ls []) := by
    intro w H locs ls hf hH hl
    unfold f_X12_most_17 at hf
    refine lv_ldcw (v := -1000000) hx hb hown (hts _ am_q1723) dX12_most_17 ?_
    exact am_reti hx hb hr hlocks hH hf dX12_most_20
  refine am_enter (lv := [(0, .ref (G.1 + 271)), (1, .int a1)]) (Nat.le_of_ble_eq_true rfl) rfl (fun ls hl => ?_)
  unfold f_X12_most at hf
  refine am_start hH (fun H locs hH => ?_)
  refine lv_aload_n hx hb dX12_most_0 rfl (lv_at hl 0 rfl) ?_
  obtain ⟨r_55, w_53, hq_54, hf⟩ := am_b2_some hf
  refine am_calli (r := r_55) (w' := w_53) (am_runV (n := 0) (As := []) (rest := []) ⟨hx, hb, hml, hown, hts⟩ hK hE hH (k_X12_isField hq_54) (am_gV am_q1514 am_q1516 am_qs59 am_q13 am_q1517) (am_o12 (p := 271) (by decide +kernel)) rfl ⟨rfl, rfl⟩ (by decide +kernel) ⟨Nat.le_of_ble_eq_true rfl, Nat.le_of_ble_eq_true rfl⟩ rfl hl.1 rfl (Nat.le_of_ble_eq_true rfl) ⟨Nat.zero_le _, Nat.zero_le _⟩ dX12_most_1) hH (fun H locs hH => ?_)
  refine lv_if_eq (tgt := 17) hx hb dX12_most_4 (by decide) (fun hc_56 => ?_) (fun hc_56 => ?_)
  · have hf := (if_pos hc_56).symm.trans hf
    exact P17 w_53 H locs ls hf hH (lv_sub hl [] rfl)
  · have hf := (if_neg hc_56).symm.trans hf
    refine lv_iload_n hx hb dX12_most_7 rfl (lv_at hl 1 rfl) ?_
    refine lv_iconst (v := 0) hx hb dX12_most_8 (by decide) ?_
    refine lv_bipush (v := 8) hx hb dX12_most_9 (by decide) ?_
    obtain ⟨r_59, w_57, hq_58, hf⟩ := am_b2_some hf
    refine am_calli (r := r_59) (w' := w_57) (am_runS (n := 3) (As := [.int a1, .int (0 : Int32), .int (8 : Int32)]) (rest := []) ⟨hx, hb, hml, hown, hts⟩ hK hE hH (k_X12_in hq_58) (am_gS am_q1425 am_q1426 am_q13 am_q1427) ⟨rfl, rfl⟩ (by decide +kernel) ⟨Nat.le_of_ble_eq_true rfl, Nat.le_of_ble_eq_true rfl⟩ rfl hl.1 rfl (Nat.le_of_ble_eq_true rfl) ⟨Nat.zero_le _, Nat.zero_le _⟩ dX12_most_11) hH (fun H locs hH => ?_)
    refine lv_if_ne (tgt := 21) hx hb dX12_most_14 (by decide) (fun hc_60 => ?_) (fun hc_60 => ?_)
    · have hf := (if_neg hc_60).symm.trans hf
      refine lv_iload_n hx hb dX12_most_21 rfl (lv_at hl 1 rfl) ?_
      by_cases he_61 : a1 = (0 : Int32)
      · have hf := (if_pos he_61).symm.trans hf
        refine lv_tableIn (off := 46) (tgt := 68) hx hb dX12_most_22 (by rw [he_61]; decide) (by rw [he_61]; decide) (by rw [he_61]; rfl) (by decide) ?_
        refine lv_aload_n hx hb dX12_most_68 rfl (lv_at hl 0 rfl) ?_
        obtain ⟨r_71, w_69, hq_70, hf⟩ := am_b2_some hf
        refine am_calli (r := r_71) (w' := w_69) (am_runV (n := 0) (As := []) (rest := []) ⟨hx, hb, hml, hown, hts⟩ hK hE hH (k_X12_knownSet hq_70) (am_gV am_q1625 am_q1627 am_qs86 am_q13 am_q1628) (am_o12 (p := 271) (by decide +kernel)) rfl ⟨rfl, rfl⟩ (by decide +kernel) ⟨Nat.le_of_ble_eq_true rfl, Nat.le_of_ble_eq_true rfl⟩ rfl hl.1 rfl (Nat.le_of_ble_eq_true rfl) ⟨Nat.zero_le _, Nat.zero_le _⟩ dX12_most_69) hH (fun H locs hH => ?_)
        exact am_reti hx hb hr hlocks hH hf dX12_most_72
      have hf := (if_neg he_61).symm.trans hf
      by_cases he_62 : a1 = (1 : Int32)
      · have hf := (if_pos he_62).symm.trans hf
        refine lv_tableIn (off := 51) (tgt := 73) hx hb dX12_most_22 (by rw [he_62]; decide) (by rw [he_62]; decide) (by rw [he_62]; rfl) (by decide) ?_
        refine lv_aload_n hx hb dX12_most_73 rfl (lv_at hl 0 rfl) ?_
        obtain ⟨r_74, w_72, hq_73, hf⟩ := am_b2_some hf
        refine am_calli (r := r_74) (w' := w_72) (am_runV (n := 0) (As := []) (rest := []) ⟨hx, hb, hml, hown, hts⟩ hK hE hH (k_X12_fullestSlot hq_73) (am_gV am_q1969 am_q1971 am_qs117 am_q13 am_q1972) (am_o12 (p := 271) (by decide +kernel)) rfl ⟨rfl, rfl⟩ (by decide +kernel) ⟨Nat.le_of_ble_eq_true rfl, Nat.le_of_ble_eq_true rfl⟩ rfl hl.1 rfl (Nat.le_of_ble_eq_true rfl) ⟨Nat.zero_le _, Nat.zero_le _⟩ dX12_most_74) hH (fun H locs hH => ?_)
        exact am_reti hx hb hr hlocks hH hf dX12_most_77
      have hf := (if_neg he_62).symm.trans hf
      by_cases he_63 : a1 = (2 : Int32)
      · have hf := (if_pos he_63).symm.trans hf
        refine lv_tableIn (off := 56) (tgt := 78) hx hb dX12_most_22 (by rw [he_63]; decide) (by rw [he_63]; decide) (by rw [he_63]; rfl) (by decide) ?_
        refine lv_aload_n hx hb dX12_most_78 rfl (lv_at hl 0 rfl) ?_
        obtain ⟨r_77, w_75, hq_76, hf⟩ := am_b2_some hf
        refine am_calli (r := r_77) (w' := w_75) (am_runV (n := 0) (As := []) (rest := []) ⟨hx, hb, hml, hown, hts⟩ hK hE hH (k_X12_busiest hq_76) (am_gV am_q1973 am_q1975 am_qs118 am_q13 am_q1976) (am_o12 (p := 271) (by decide +kernel)) rfl ⟨rfl, rfl⟩ (by decide +kernel) ⟨Nat.le_of_ble_eq_true rfl, Nat.le_of_ble_eq_true rfl⟩ rfl hl.1 rfl (Nat.le_of_ble_eq_true rfl) ⟨Nat.zero_le _, Nat.zero_le _⟩ dX12_most_79) hH (fun H locs hH => ?_)
        exact am_reti hx hb hr hlocks hH hf dX12_most_82
      have hf := (if_neg he_63).symm.trans hf
      by_cases he_64 : a1 = (3 : Int32)
      · have hf := (if_pos he_64).symm.trans hf
        refine lv_tableIn (off := 61) (tgt := 83) hx hb dX12_most_22 (by rw [he_64]; decide) (by rw [he_64]; decide) (by rw [he_64]; rfl) (by decide) ?_
        refine lv_aload_n hx hb dX12_most_83 rfl (lv_at hl 0 rfl) ?_
        obtain ⟨r_80, w_78, hq_79, hf⟩ := am_b2_some hf
        refine am_calli (r := r_80) (w' := w_78) (am_runV (n := 0) (As := []) (rest := []) ⟨hx, hb, hml, hown, hts⟩ hK hE hH (k_X12_strongest hq_79) (am_gV am_q1977 am_q1979 am_qs119 am_q13 am_q1980) (am_o12 (p := 271) (by decide +kernel)) rfl ⟨rfl, rfl⟩ (by decide +kernel) ⟨Nat.le_of_ble_eq_true rfl, Nat.le_of_ble_eq_true rfl⟩ rfl hl.1 rfl (Nat.le_of_ble_eq_true rfl) ⟨Nat.zero_le _, Nat.zero_le _⟩ dX12_most_84) hH (fun H locs hH => ?_)
        exact am_reti hx hb hr hlocks hH hf dX12_most_87
      have hf := (if_neg he_64).symm.trans hf
      by_cases he_65 : a1 = (4 : Int32)
      · have hf := (if_pos he_65).symm.trans hf
        refine lv_tableIn (off := 66) (tgt := 88) hx hb dX12_most_22 (by rw [he_65]; decide) (by rw [he_65]; decide) (by rw [he_65]; rfl) (by decide) ?_
        refine lv_aload_n hx hb dX12_most_88 rfl (lv_at hl 0 rfl) ?_
        refine lv_iconst (v := 0) hx hb dX12_most_89 (by decide) ?_
        obtain ⟨r_83, w_81, hq_82, hf⟩ := am_b2_some hf
        refine am_calli (r := r_83) (w' := w_81) (am_runV (n := 1) (As := [.int (0 : Int32)]) (rest := []) ⟨hx, hb, hml, hown, hts⟩ hK hE hH (k_X12_slotsWith hq_82) (am_gV am_q1981 am_q1983 am_qs120 am_q13 am_q1984) (am_o12 (p := 271) (by decide +kernel)) rfl ⟨rfl, rfl⟩ (by decide +kernel) ⟨Nat.le_of_ble_eq_true rfl, Nat.le_of_ble_eq_true rfl⟩ rfl hl.1 rfl (Nat.le_of_ble_eq_true rfl) ⟨Nat.zero_le _, Nat.zero_le _⟩ dX12_most_90) hH (fun H locs hH => ?_)
        exact am_reti hx hb hr hlocks hH hf dX12_most_93
      have hf := (if_neg he_65).symm.trans hf
      by_cases he_66 : a1 = (5 : Int32)
      · have hf := (if_pos he_66).symm.trans hf
        refine lv_tableIn (off := 72) (tgt := 94) hx hb dX12_most_22 (by rw [he_66]; decide) (by rw [he_66]; decide) (by rw [he_66]; rfl) (by decide) ?_
        refine lv_aload_n hx hb dX12_most_94 rfl (lv_at hl 0 rfl) ?_
        refine lv_iconst (v := 1) hx hb dX12_most_95 (by decide) ?_
        obtain ⟨r_86, w_84, hq_85, hf⟩ := am_b2_some hf
        refine am_calli (r := r_86) (w' := w_84) (am_runV (n := 1) (As := [.int (1 : Int32)]) (rest := []) ⟨hx, hb, hml, hown, hts⟩ hK hE hH (k_X12_slotsWith hq_85) (am_gV am_q1981 am_q1983 am_qs120 am_q13 am_q1984) (am_o12 (p := 271) (by decide +kernel)) rfl ⟨rfl, rfl⟩ (by decide +kernel) ⟨Nat.le_of_ble_eq_true rfl, Nat.le_of_ble_eq_true rfl⟩ rfl hl.1 rfl (Nat.le_of_ble_eq_true rfl) ⟨Nat.zero_le _, Nat.zero_le _⟩ dX12_most_96) hH (fun H locs hH => ?_)
        exact am_reti hx hb hr hlocks hH hf dX12_most_99
      have hf := (if_neg he_66).symm.trans hf
      by_cases he_67 : a1 = (6 : Int32)
      · have hf := (if_pos he_67).symm.trans hf
        refine lv_tableIn (off := 78) (tgt := 100) hx hb dX12_most_22 (by rw [he_67]; decide) (by rw [he_67]; decide) (by rw [he_67]; rfl) (by decide) ?_
        refine lv_aload_n hx hb dX12_most_100 rfl (lv_at hl 0 rfl) ?_
        obtain ⟨r_89, w_87, hq_88, hf⟩ := am_b2_some hf
        refine am_calli (r := r_89) (w' := w_87) (am_runV (n := 0) (As := []) (rest := []) ⟨hx, hb, hml, hown, hts⟩ hK hE hH (k_X12_copiesOfAll hq_88) (am_gV am_q1985 am_q1987 am_qs121 am_q13 am_q1988) (am_o12 (p := 271) (by decide +kernel)) rfl ⟨rfl, rfl⟩ (by decide +kernel) ⟨Nat.le_of_ble_eq_true rfl, Nat.le_of_ble_eq_true rfl⟩ rfl hl.1 rfl (Nat.le_of_ble_eq_true rfl) ⟨Nat.zero_le _, Nat.zero_le _⟩ dX12_most_101) hH (fun H locs hH => ?_)
        exact am_reti hx hb hr hlocks hH hf dX12_most_104
      have hf := (if_neg he_67).symm.trans hf
      by_cases he_68 : a1 = (7 : Int32)
      · have hf := (if_pos he_68).symm.trans hf
        refine lv_tableIn (off := 83) (tgt := 105) hx hb dX12_most_22 (by rw [he_68]; decide) (by rw [he_68]; decide) (by rw [he_68]; rfl) (by decide) ?_
        refine lv_aload_n hx hb dX12_most_105 rfl (lv_at hl 0 rfl) ?_
        refine am_get hx hb hts hK hown hH (am_o12 (p := 271) (by decide +kernel)) rfl am_inX12 17 (by decide) am_q1336 (v := .ref (G.1 + 281)) rfl dX12_most_106 ?_
        refine lv_aload_n hx hb dX12_most_109 rfl (lv_at hl 0 rfl) ?_
        refine lv_iconst (v := 0) hx hb dX12_most_110 (by decide) ?_
        obtain ⟨r_92, w_90, hq_91, hf⟩ := am_b2_some hf
        refine am_calli (r := r_92) (w' := w_90) (am_runV (n := 1) (As := [.int (0 : Int32)]) (rest := [.ref (G.1 + 281)]) ⟨hx, hb, hml, hown, hts⟩ hK hE hH (k_X12_shelfAt hq_91) (am_gV am_q1582 am_q1584 am_qs76 am_q13 am_q1585) (am_o12 (p := 271) (by decide +kernel)) rfl ⟨rfl, rfl⟩ (by decide +kernel) ⟨Nat.le_of_ble_eq_true rfl, Nat.le_of_ble_eq_true rfl⟩ rfl hl.1 rfl (Nat.le_of_ble_eq_true rfl) ⟨Nat.zero_le _, Nat.zero_le _⟩ dX12_most_111) hH (fun H locs hH => ?_)
        obtain ⟨hi_93, hf⟩ := am_chk_some hf
        refine am_iald hx hb hK hH (am_ai_of (N := 245) (by decide +kernel)) hi_93 dX12_most_114 ?_
        refine lv_aload_n hx hb dX12_most_115 rfl (lv_at hl 0 rfl) ?_
        refine am_get hx hb hts hK hown hH (am_o12 (p := 271) (by decide +kernel)) rfl am_inX12 17 (by decide) am_q1336 (v := .ref (G.1 + 281)) rfl dX12_most_116 ?_
        refine lv_aload_n hx hb dX12_most_119 rfl (lv_at hl 0 rfl) ?_
        refine lv_iconst (v := 1) hx hb dX12_most_120 (by decide) ?_
        obtain ⟨r_96, w_94, hq_95, hf⟩ := am_b2_some hf
        refine am_calli (r := r_96) (w' := w_94) (am_runV (n := 1) (As := [.int (1 : Int32)]) (rest := [.ref (G.1 + 281), .int (w_90.1 281 r_92.toNatClampNeg)]) ⟨hx, hb, hml, hown, hts⟩ hK hE hH (k_X12_shelfAt hq_95) (am_gV am_q1582 am_q1584 am_qs76 am_q13 am_q1585) (am_o12 (p := 271) (by decide +kernel)) rfl ⟨rfl, rfl⟩ (by decide +kernel) ⟨Nat.le_of_ble_eq_true rfl, Nat.le_of_ble_eq_true rfl⟩ rfl hl.1 rfl (Nat.le_of_ble_eq_true rfl) ⟨Nat.zero_le _, Nat.zero_le _⟩ dX12_most_121) hH (fun H locs hH => ?_)
        obtain ⟨hi_97, hf⟩ := am_chk_some hf
        refine am_iald hx hb hK hH (am_ai_of (N := 245) (by decide +kernel)) hi_97 dX12_most_124 ?_
        refine lv_iadd hx hb dX12_most_125 ?_
        refine lv_aload_n hx hb dX12_most_126 rfl (lv_at hl 0 rfl) ?_
        refine am_get hx hb hts hK hown hH (am_o12 (p := 271) (by decide +kernel)) rfl am_inX12 17 (by decide) am_q1336 (v := .ref (G.1 + 281)) rfl dX12_most_127 ?_
        refine lv_aload_n hx hb dX12_most_130 rfl (lv_at hl 0 rfl) ?_
        refine lv_iconst (v := 2) hx hb dX12_most_131 (by decide) ?_
        obtain ⟨r_100, w_98, hq_99, hf⟩ := am_b2_some hf
        refine am_calli (r := r_100) (w' := w_98) (am_runV (n := 1) (As := [.int (2 : Int32)]) (rest := [.ref (G.1 + 281), .int ((w_90.1 281 r_92.toNatClampNeg) + (w_94.1 281 r_96.toNatClampNeg))]) ⟨hx, hb, hml, hown, hts⟩ hK hE hH (k_X12_shelfAt hq_99) (am_gV am_q1582 am_q1584 am_qs76 am_q13 am_q1585) (am_o12 (p := 271) (by decide +kernel)) rfl ⟨rfl, rfl⟩ (by decide +kernel) ⟨Nat.le_of_ble_eq_true rfl, Nat.le_of_ble_eq_true rfl⟩ rfl hl.1 rfl (Nat.le_of_ble_eq_true rfl) ⟨Nat.zero_le _, Nat.zero_le _⟩ dX12_most_132) hH (fun H locs hH => ?_)
        obtain ⟨hi_101, hf⟩ := am_chk_some hf
        refine am_iald hx hb hK hH (am_ai_of (N := 245) (by decide +kernel)) hi_101 dX12_most_135 ?_
        refine lv_iadd hx hb dX12_most_136 ?_
        exact am_reti hx hb hr hlocks hH hf dX12_most_137
      have hf := (if_neg he_68).symm.trans hf
      have nhe_61 := am_tne (k := 0) (0 : Int32) (by decide) he_61
      have nhe_62 := am_tne (k := 1) (1 : Int32) (by decide) he_62
      have nhe_63 := am_tne (k := 2) (2 : Int32) (by decide) he_63
      have nhe_64 := am_tne (k := 3) (3 : Int32) (by decide) he_64
      have nhe_65 := am_tne (k := 4) (4 : Int32) (by decide) he_65
      have nhe_66 := am_tne (k := 5) (5 : Int32) (by decide) he_66
      have nhe_67 := am_tne (k := 6) (6 : Int32) (by decide) he_67
      have nhe_68 := am_tne (k := 7) (7 : Int32) (by decide) he_68
      refine lv_tableOut (tgt := 138) hx hb dX12_most_22 (by omega) (by decide) ?_
      refine lv_aload_n hx hb dX12_most_138 rfl (lv_at hl 0 rfl) ?_
      obtain ⟨r_104, w_102, hq_103, hf⟩ := am_b2_some hf
      refine am_calli (r := r_104) (w' := w_102) (am_runV (n := 0) (As := []) (rest := []) ⟨hx, hb, hml, hown, hts⟩ hK hE hH (k_X12_parts hq_103) (am_gV am_q1989 am_q1991 am_qs122 am_q13 am_q1992) (am_o12 (p := 271) (by decide +kernel)) rfl ⟨rfl, rfl⟩ (by decide +kernel) ⟨Nat.le_of_ble_eq_true rfl, Nat.le_of_ble_eq_true rfl⟩ rfl hl.1 rfl (Nat.le_of_ble_eq_true rfl) ⟨Nat.zero_le _, Nat.zero_le _⟩ dX12_most_139) hH (fun H locs hH => ?_)
      exact am_reti hx hb hr hlocks hH hf dX12_most_142
    · have hf := (if_pos hc_60).symm.trans hf
      exact P17 w_57 H locs ls hf hH (lv_sub hl [] rfl)

def f_X12_peel  (w : am_S) : Option (Int32 × am_S) :=
  am_b2 (f_X12_hand (0 : Int32) (0 : Int32) (0 : Int32) (0 : Int64) w) fun r_6 w_4 => some (r_6, w_4)
set_option maxRecDepth 100000 in
set_option maxHeartbeats 4000000 in
theorem k_X12_peel {G : am_G} {l : Launch}   {w : am_S} {rr : Int32} {ww : am_S} (hf : f_X12_peel  w = some (rr, ww)) : am_Mi G l yX12_peel (Cond.code yX12_peel cX12_peel 1 (some .int) :: am_T) { frames := 11, cells := 0, slots := 0, locals := 704 } [.ref (G.1 + 271)] w rr ww := by
  refine Met.ofW (cc := cX12_peel) (maxL := 1) (ret := (some .int)) (by decide) rfl ?_
  intro p e s m args below meth c s₁ B hml hv
  obtain ⟨rfl, hx, hb, hr, hts, hown, hlocks, hK, hE, hH⟩ := am_begin B hv
  have hown : s.vm.findClass RX12 = some m.cls := hown
  show W p l e { frames := 11, cells := 0, slots := 0, locals := 704 } s m _ below meth c s.heap [] 0 0 _ _
  refine am_enter (lv := [(0, .ref (G.1 + 271))]) (Nat.le_of_ble_eq_true rfl) rfl (fun ls hl => ?_)
  unfold f_X12_peel at hf
  refine am_start hH (fun H locs hH => ?_)
  refine lv_aload_n hx hb dX12_peel_0 rfl (lv_at hl 0 rfl) ?_
  refine lv_iconst (v := 0) hx hb dX12_peel_1 (by decide) ?_
  refine lv_iconst (v := 0) hx hb dX12_peel_2 (by decide) ?_
  refine lv_iconst (v := 0) hx hb dX12_peel_3 (by decide) ?_
  refine lv_lconst (v := 0) hx hb dX12_peel_4 (by decide) ?_
  obtain ⟨r_6, w_4, hq_5, hf⟩ := am_b2_some hf
  refine am_calli (r := r_6) (w' := w_4) (am_runV (n := 4) (As := [.int (0 : Int32), .int (0 : Int32), .int (0 : Int32), .long (0 : Int64)]) (rest := []) ⟨hx, hb, hml, hown, hts⟩ hK hE hH (k_X12_hand hq_5) (am_gV am_q1506 am_q1508 am_qs57 am_q13 am_q1509) (am_o12 (p := 271) (by decide +kernel)) rfl ⟨rfl, rfl⟩ (by decide +kernel) ⟨Nat.le_of_ble_eq_true rfl, Nat.le_of_ble_eq_true rfl⟩ rfl hl.1 rfl (Nat.le_of_ble_eq_true rfl) ⟨Nat.zero_le _, Nat.zero_le _⟩ dX12_peel_5) hH (fun H locs hH => ?_)
  exact am_reti hx hb hr hlocks hH hf dX12_peel_8

def f_X12_isScript (a1 : Int32) (w : am_S) : Option (Int32 × am_S) :=
  am_b2 (f_X12_in a1 (0 : Int32) ((w.1 271 16) - (1 : Int32)) w) fun r_7 w_5 => am_nar .boolean r_7 (some (r_7, w_5))
set_option maxRecDepth 100000 in
set_option maxHeartbeats 4000000 in
theorem k_X12_isScript {G : am_G} {l : Launch} {a1 : Int32}  {w : am_S} {rr : Int32} {ww : am_S} (hf : f_X12_isScript a1 w = some (rr, ww)) : am_Mi G l yX12_isScript (Cond.code yX12_isScript cX12_isScript 2 (some .boolean) :: am_T) { frames := 1, cells := 0, slots := 0, locals := 64 } [.ref (G.1 + 271), .int a1] w rr ww := by
  refine Met.ofW (cc := cX12_isScript) (maxL := 2) (ret := (some .boolean)) (by decide) rfl ?_
  intro p e s m args below meth c s₁ B hml hv
  obtain ⟨rfl, hx, hb, hr, hts, hown, hlocks, hK, hE, hH⟩ := am_begin B hv
  have hown : s.vm.findClass RX12 = some m.cls := hown
  show W p l e { frames := 1, cells := 0, slots := 0, locals := 64 } s m _ below meth c s.heap [] 0 0 _ _
  refine am_enter (lv := [(0, .ref (G.1 + 271)), (1, .int a1)]) (Nat.le_of_ble_eq_true rfl) rfl (fun ls hl => ?_)
  unfold f_X12_isScript at hf
  refine am_start hH (fun H locs hH => ?_)
  refine lv_iload_n hx hb dX12_isScript_0 rfl (lv_at hl 1 rfl) ?_
  refine lv_iconst (v := 0) hx hb dX12_isScript_1 (by decide) ?_
  refine lv_aload_n hx hb dX12_isScript_2 rfl (lv_at hl 0 rfl) ?_
  refine am_get hx hb hts hK hown hH (am_o12 (p := 271) (by decide +kernel)) rfl am_inX12 16 (by decide) am_q1335 (v := .int (w.1 271 16)) rfl dX12_isScript_3 ?_
  refine lv_iconst (v := 1) hx hb dX12_isScript_6 (by decide) ?_
  refine lv_isub hx hb dX12_isScript_7 ?_
  obtain ⟨r_7, w_5, hq_6, hf⟩ := am_b2_some hf
  refine am_calli (r := r_7) (w' := w_5) (am_runS (n := 3) (As := [.int a1, .int (0 : Int32), .int ((w.1 271 16) - (1 : Int32))]) (rest := []) ⟨hx, hb, hml, hown, hts⟩ hK hE hH (k_X12_in hq_6) (am_gS am_q1425 am_q1426 am_q13 am_q1427) ⟨rfl, rfl⟩ (by decide +kernel) ⟨Nat.le_of_ble_eq_true rfl, Nat.le_of_ble_eq_true rfl⟩ rfl hl.1 rfl (Nat.le_of_ble_eq_true rfl) ⟨Nat.zero_le _, Nat.zero_le _⟩ dX12_isScript_8) hH (fun H locs hH => ?_)
  obtain ⟨hr_8, hf⟩ := am_nar_some hf
  exact am_retz hx hb hr hr_8.1 hlocks hH hf dX12_isScript_11

def f_X12_actOf_20 (a0 : Int32) (s0 : Int32) (w : am_S) : Option (Int32 × am_S) :=
  some (s0, w)
def f_X12_actOf (a0 : Int32) (w : am_S) : Option (Int32 × am_S) :=
  if a0 = (4 : Int32) then (f_X12_actOf_20 a0 (6 : Int32) w) else (if a0 = (5 : Int32) then (f_X12_actOf_20 a0 (5 : Int32) w) else (f_X12_actOf_20 a0 a0 w))
set_option maxRecDepth 100000 in
set_option maxHeartbeats 4000000 in
theorem k_X12_actOf {G : am_G} {l : Launch} {a0 : Int32}  {w : am_S} {rr : Int32} {ww : am_S} (hf : f_X12_actOf a0 w = some (rr, ww)) : am_Mi G l yX12_actOf (Cond.code yX12_actOf cX12_actOf 1 (some .int) :: am_T) { frames := 0, cells := 0, slots := 0, locals := 0 } [.int a0] w rr ww := by
  refine Met.ofW (cc := cX12_actOf) (maxL := 1) (ret := (some .int)) (by decide) rfl ?_
  intro p e s m args below meth c s₁ B hml hv
  obtain ⟨rfl, hx, hb, hr, hts, hown, hlocks, hK, hE, hH⟩ := am_begin B hv
  have hown : s.vm.findClass RX12 = some m.cls := hown
  show W p l e { frames := 0, cells := 0, slots := 0, locals := 0 } s m _ below meth c s.heap [] 0 0 _ _
  have P20 : ∀ (s0 : Int32) (w : am_S) (H : Heap) (locs : List Loc) (ls : Array Slot), f_X12_actOf_20 a0 s0 w = some (rr, ww) → am_H G w s H locs → lv_has ls 1 [] → W p l e { frames := 0, cells := 0, slots := 0, locals := 0 } s m [.int a0].toArray below meth c H locs 0 0 (MQ below (va_Qi (fun (x : Int32) (u : am_S) => x = rr ∧ u = ww) (am_U G) (am_A G)) [.int a0].toArray s 0 0 (am_A G)) (F0 m 20 ls [.int s0]) := by
    intro s0 w H locs ls hf hH hl
    unfold f_X12_actOf_20 at hf
    exact am_reti hx hb hr hlocks hH hf dX12_actOf_20
  refine am_enter (lv := [(0, .int a0)]) (Nat.le_of_ble_eq_true rfl) rfl (fun ls hl => ?_)
  unfold f_X12_actOf at hf
  refine am_start hH (fun H locs hH => ?_)
  refine lv_iload_n hx hb dX12_actOf_0 rfl (lv_at hl 0 rfl) ?_
  refine lv_iconst (v := 4) hx hb dX12_actOf_1 (by decide) ?_
  refine lv_icmp_ne (tgt := 10) hx hb dX12_actOf_2 (by decide) (fun hc_3 => ?_) (fun hc_3 => ?_)
  · have hf := (if_neg hc_3).symm.trans hf
    refine lv_iload_n hx hb dX12_actOf_10 rfl (lv_at hl 0 rfl) ?_
    refine lv_iconst (v := 5) hx hb dX12_actOf_11 (by decide) ?_
    refine lv_icmp_ne (tgt := 19) hx hb dX12_actOf_12 (by decide) (fun hc_4 => ?_) (fun hc_4 => ?_)
    · have hf := (if_neg hc_4).symm.trans hf
      refine lv_iload_n hx hb dX12_actOf_19 rfl (lv_at hl 0 rfl) ?_
      exact P20 a0 w H locs ls hf hH (lv_sub hl [] rfl)
    · have hf := (if_pos hc_4).symm.trans hf
      refine lv_iconst (v := 5) hx hb dX12_actOf_15 (by decide) ?_
      refine lv_goto (tgt := 20) hx hb dX12_actOf_16 (by decide) ?_
      exact P20 (5 : Int32) w H locs ls hf hH (lv_sub hl [] rfl)
  · have hf := (if_pos hc_3).symm.trans hf
    refine lv_bipush (v := 6) hx hb dX12_actOf_5 (by decide) ?_
    refine lv_goto (tgt := 20) hx hb dX12_actOf_7 (by decide) ?_
    exact P20 (6 : Int32) w H locs ls hf hH (lv_sub hl [] rfl)

def f_X12_goSteps_95 (a1 : Int32) (a2 : Int32) (x3 : Int32) (w : am_S) : Option ((Int32 × am_S) ⊕ (Int32 × am_S)) :=
  am_v (x3 + (1 : Int32)) fun (x3_21 : Int32) => some (.inr (x3_21, w))
def f_X12_goSteps_2b (a1 : Int32) (a2 : Int32) (x3 : Int32) (w : am_S) : Option ((Int32 × am_S) ⊕ (Int32 × am_S)) :=
  am_chk a1 5 (if (w.1 280 a1.toNatClampNeg) ≤ x3 then (am_x (some (x3, w))) else (am_chk ((2 : Int32) * (((16 : Int32) * a1) + x3)) 160 (am_b2 (f_X12_actOf (w.1 279 ((2 : Int32) * (((16 : Int32) * a1) + x3)).toNatClampNeg) w) fun r_28 w_26 => am_chk (((2 : Int32) * (((16 : Int32) * a1) + x3)) + (1 : Int32)) 160 (am_v (w_26.1 279 (((2 : Int32) * (((16 : Int32) * a1) + x3)) + (1 : Int32)).toNatClampNeg) fun (x5_30 : Int32) => am_b2 (f_X12_whyNot r_28 x5_30 (0 : Int32) w_26) fun r_33 w_31 => if r_33 = (-1 : Int32) then (if a2 = 0 then (am_b2 (f_X12_doNow r_28 x5_30 (0 : Int32) (x5_30.toInt64) w_31) fun r_38 w_36 => f_X12_goSteps_95 a1 a2 x3 w_36) else (am_b2 (f_X12_act r_28 x5_30 (0 : Int32) (x5_30.toInt64) w_31) fun r_41 w_39 => f_X12_goSteps_95 a1 a2 x3 w_39)) else (am_x (some (x3, w_31)))))))
def f_X12_goSteps_2 (a1 : Int32) (a2 : Int32) (x3 : Int32) (w : am_S) : Option (Int32 × am_S) :=
  am_loop (fun (st : (Int32 × am_S)) => f_X12_goSteps_2b a1 a2 st.1 st.2) am_fuel (x3, w)
def f_X12_goSteps (a1 : Int32) (a2 : Int32) (w : am_S) : Option (Int32 × am_S) :=
  f_X12_goSteps_2 a1 a2 (0 : Int32) w
set_option maxRecDepth 100000 in
set_option maxHeartbeats 4000000 in
theorem k_X12_goSteps {G : am_G} {l : Launch} {a1 : Int32} {a2 : Int32}  {w : am_S} {rr : Int32} {ww : am_S} (hf : f_X12_goSteps a1 a2 w = some (rr, ww)) : am_Mi G l yX12_goSteps (Cond.code yX12_goSteps cX12_goSteps 6 (some .int) :: am_T) { frames := 10, cells := 0, slots := 0, locals := 640 } [.ref (G.1 + 271), .int a1, .int a2] w rr ww := by
  refine Met.ofW (cc := cX12_goSteps) (maxL := 6) (ret := (some .int)) (by decide) rfl ?_
  intro p e s m args below meth c s₁ B hml hv
  obtain ⟨rfl, hx, hb, hr, hts, hown, hlocks, hK, hE, hH⟩ := am_begin B hv
  have hown : s.vm.findClass RX12 = some m.cls := hown
  show W p l e { frames := 10, cells := 0, slots := 0, locals := 640 } s m _ below meth c s.heap [] 0 0 _ _
  have P2 : ∀ (n1 : Nat) (x3 : Int32) (w : am_S) (H : Heap) (locs : List Loc) (ls : Array Slot), am_loop (fun (st : (Int32 × am_S)) => f_X12_goSteps_2b a1 a2 st.1 st.2) n1 (x3, w) = some (rr, ww) → am_H G w s H locs → lv_has ls 6 [(0, .ref (G.1 + 271)), (1, .int a1), (2, .int a2), (3, .int x3)] → W p l e { frames := 10, cells := 0, slots := 0, locals := 640 } s m [.ref (G.1 + 271), .int a1, .int a2].toArray below meth c H locs 0 0 (MQ below (va_Qi (fun (x : Int32) (u : am_S) => x = rr ∧ u = ww) (am_U G) (am_A G)) [.ref (G.1 + 271), .int a1, .int a2].toArray s 0 0 (am_A G)) (F0 m 2 ls []) := by
    intro n1
    induction n1 with
    | zero =>
      intro x3 w H locs ls hf hH hl
      exact (am_loop_zero hf).elim
    | succ n1 ih1 =>
      intro x3 w H locs ls hf hH hl
      obtain ⟨z1, hf, hk1⟩ := am_loop_succ hf
      have hf : f_X12_goSteps_2b a1 a2 x3 w = some z1 := hf
      have P95 : ∀ (x3 : Int32) (w : am_S) (z1 : ((Int32 × am_S) ⊕ (Int32 × am_S))) (H : Heap) (locs : List Loc) (ls : Array Slot), f_X12_goSteps_95 a1 a2 x3 w = some z1 → am_lk (fun (st : (Int32 × am_S)) => f_X12_goSteps_2b a1 a2 st.1 st.2) n1 (rr, ww) z1 → am_H G w s H locs → lv_has ls 6 [(0, .ref (G.1 + 271)), (1, .int a1), (2, .int a2), (3, .int x3)] → W p l e { frames := 10, cells := 0, slots := 0, locals := 640 } s m [.ref (G.1 + 271), .int a1, .int a2].toArray below meth c H locs 0 0 (MQ below (va_Qi (fun (x : Int32) (u : am_S) => x = rr ∧ u = ww) (am_U G) (am_A G)) [.ref (G.1 + 271), .int a1, .int a2].toArray s 0 0 (am_A G)) (F0 m 95 ls []) := by
        intro x3 w z1 H locs ls hf hk1 hH hl
        unfold f_X12_goSteps_95 at hf
        obtain ⟨x3_21, hx3_21, hf⟩ := am_v_some hf
        refine lv_iinc (v := x3_21) (lv' := [(3, .int x3_21), (0, .ref (G.1 + 271)), (1, .int a1), (2, .int a2)]) hx hb dX12_goSteps_95 hl (k := 3) rfl (by rw [hx3_21]; rfl) (by decide) rfl (fun ls hl => ?_)
        refine lv_goto (tgt := 2) hx hb dX12_goSteps_98 (by decide) ?_
        obtain rfl := Option.some.inj hf
        exact ih1 x3_21 w H locs ls hk1 hH (lv_sub hl [1, 2, 3, 0] rfl)
      unfold f_X12_goSteps_2b at hf
      refine lv_iload_n hx hb dX12_goSteps_2 rfl (lv_at hl 3 rfl) ?_
      refine lv_aload_n hx hb dX12_goSteps_3 rfl (lv_at hl 0 rfl) ?_
      refine am_get hx hb hts hK hown hH (am_o12 (p := 271) (by decide +kernel)) rfl am_inX12 15 (by decide) am_q1334 (v := .ref (G.1 + 280)) rfl dX12_goSteps_4 ?_
      refine lv_iload_n hx hb dX12_goSteps_7 rfl (lv_at hl 1 rfl) ?_
      obtain ⟨hi_22, hf⟩ := am_chk_some hf
      refine am_iald hx hb hK hH (am_ai_of (N := 5) (by decide +kernel)) hi_22 dX12_goSteps_8 ?_
      refine lv_icmp_ge (tgt := 101) hx hb dX12_goSteps_9 (by decide) (fun hc_23 => ?_) (fun hc_23 => ?_)
      · have hf := (if_pos hc_23).symm.trans hf
        obtain ⟨y_24, hf, hzy_24⟩ := am_x_some hf
        rw [hzy_24] at hk1
        have hf := hf.trans (congrArg some (show y_24 = (rr, ww) from hk1))
        refine lv_iload_n hx hb dX12_goSteps_101 rfl (lv_at hl 3 rfl) ?_
        exact am_reti hx hb hr hlocks hH hf dX12_goSteps_102
      · have hf := (if_neg hc_23).symm.trans hf
        refine lv_aload_n hx hb dX12_goSteps_12 rfl (lv_at hl 0 rfl) ?_
        refine am_get hx hb hts hK hown hH (am_o12 (p := 271) (by decide +kernel)) rfl am_inX12 14 (by decide) am_q1333 (v := .ref (G.1 + 279)) rfl dX12_goSteps_13 ?_
        refine lv_iconst (v := 2) hx hb dX12_goSteps_16 (by decide) ?_
        refine lv_bipush (v := 16) hx hb dX12_goSteps_17 (by decide) ?_
        refine lv_iload_n hx hb dX12_goSteps_19 rfl (lv_at hl 1 rfl) ?_
        refine lv_imul hx hb dX12_goSteps_20 ?_
        refine lv_iload_n hx hb dX12_goSteps_21 rfl (lv_at hl 3 rfl) ?_
        refine lv_iadd hx hb dX12_goSteps_22 ?_
        refine lv_imul hx hb dX12_goSteps_23 ?_
        obtain ⟨hi_25, hf⟩ := am_chk_some hf
        refine am_iald hx hb hK hH (am_ai_of (N := 160) (by decide +kernel)) hi_25 dX12_goSteps_24 ?_
        obtain ⟨r_28, w_26, hq_27, hf⟩ := am_b2_some hf
        refine am_calli (r := r_28) (w' := w_26) (am_runS (n := 1) (As := [.int (w.1 279 ((2 : Int32) * (((16 : Int32) * a1) + x3)).toNatClampNeg)]) (rest := []) ⟨hx, hb, hml, hown, hts⟩ hK hE hH (k_X12_actOf hq_27) (am_gS am_q1958 am_q1959 am_q13 am_q1960) ⟨rfl, rfl⟩ (by decide +kernel) ⟨Nat.le_of_ble_eq_true rfl, Nat.le_of_ble_eq_true rfl⟩ rfl hl.1 rfl (Nat.le_of_ble_eq_true rfl) ⟨Nat.zero_le _, Nat.zero_le _⟩ dX12_goSteps_25) hH (fun H locs hH => ?_)
        refine lv_istore (lv' := [(4, .int r_28), (0, .ref (G.1 + 271)), (1, .int a1), (2, .int a2), (3, .int x3)]) hx hb dX12_goSteps_28 hl (by decide) rfl (fun ls hl => ?_)
        refine lv_aload_n hx hb dX12_goSteps_30 rfl (lv_at hl 1 rfl) ?_
        refine am_get hx hb hts hK hown hH (am_o12 (p := 271) (by decide +kernel)) rfl am_inX12 14 (by decide) am_q1333 (v := .ref (G.1 + 279)) rfl dX12_goSteps_31 ?_
        refine lv_iconst (v := 2) hx hb dX12_goSteps_34 (by decide) ?_
        refine lv_bipush (v := 16) hx hb dX12_goSteps_35 (by decide) ?_
        refine lv_iload_n hx hb dX12_goSteps_37 rfl (lv_at hl 2 rfl) ?_
        refine lv_imul hx hb dX12_goSteps_38 ?_
        refine lv_iload_n hx hb dX12_goSteps_39 rfl (lv_at hl 4 rfl) ?_
        refine lv_iadd hx hb dX12_goSteps_40 ?_
        refine lv_imul hx hb dX12_goSteps_41 ?_
        refine lv_iconst (v := 1) hx hb dX12_goSteps_42 (by decide) ?_
        refine lv_iadd hx hb dX12_goSteps_43 ?_
        obtain ⟨hi_29, hf⟩ := am_chk_some hf
        refine am_iald hx hb hK hH (am_ai_of (N := 160) (by decide +kernel)) hi_29 dX12_goSteps_44 ?_
        obtain ⟨x5_30, hx5_30, hf⟩ := am_v_some hf
        refine am_topi hx5_30 ?_
        refine lv_istore (lv' := [(5, .int x5_30), (4, .int r_28), (0, .ref (G.1 + 271)), (1, .int a1), (2, .int a2), (3, .int x3)]) hx hb dX12_goSteps_45 hl (by decide) rfl (fun ls hl => ?_)
        refine lv_aload_n hx hb dX12_goSteps_47 rfl (lv_at hl 2 rfl) ?_
        refine lv_iload hx hb dX12_goSteps_48 (lv_at hl 1 rfl) ?_
        refine lv_iload hx hb dX12_goSteps_50 (lv_at hl 0 rfl) ?_
        refine lv_iconst (v := 0) hx hb dX12_goSteps_52 (by decide) ?_
        obtain ⟨r_33, w_31, hq_32, hf⟩ := am_b2_some hf
        refine am_calli (r := r_33) (w' := w_31) (am_runV (n := 3) (As := [.int r_28, .int x5_30, .int (0 : Int32)]) (rest := []) ⟨hx, hb, hml, hown, hts⟩ hK hE hH (k_X12_whyNot hq_32) (am_gV am_q1510 am_q1512 am_qs58 am_q13 am_q1513) (am_o12 (p := 271) (by decide +kernel)) rfl ⟨rfl, rfl⟩ (by decide +kernel) ⟨Nat.le_of_ble_eq_true rfl, Nat.le_of_ble_eq_true rfl⟩ rfl hl.1 rfl (Nat.le_of_ble_eq_true rfl) ⟨Nat.zero_le _, Nat.zero_le _⟩ dX12_goSteps_53) hH (fun H locs hH => ?_)
        refine lv_iconst (v := -1) hx hb dX12_goSteps_56 (by decide) ?_
        refine lv_icmp_eq (tgt := 62) hx hb dX12_goSteps_57 (by decide) (fun hc_34 => ?_) (fun hc_34 => ?_)
        · have hf := (if_pos hc_34).symm.trans hf
          refine lv_iload_n hx hb dX12_goSteps_62 rfl (lv_at hl 4 rfl) ?_
          refine lv_if_eq (tgt := 82) hx hb dX12_goSteps_63 (by decide) (fun hc_35 => ?_) (fun hc_35 => ?_)
          · have hf := (if_pos hc_35).symm.trans hf
            refine lv_aload_n hx hb dX12_goSteps_82 rfl (lv_at hl 2 rfl) ?_
            refine lv_iload hx hb dX12_goSteps_83 (lv_at hl 1 rfl) ?_
            refine lv_iload hx hb dX12_goSteps_85 (lv_at hl 0 rfl) ?_
            refine lv_iconst (v := 0) hx hb dX12_goSteps_87 (by decide) ?_
            refine lv_iload hx hb dX12_goSteps_88 (lv_at hl 0 rfl) ?_
            refine lv_i2l hx hb dX12_goSteps_90 rfl ?_
            obtain ⟨r_38, w_36, hq_37, hf⟩ := am_b2_some hf
            refine am_calli (r := r_38) (w' := w_36) (am_runV (n := 4) (As := [.int r_28, .int x5_30, .int (0 : Int32), .long (x5_30.toInt64)]) (rest := []) ⟨hx, hb, hml, hown, hts⟩ hK hE hH (k_X12_doNow hq_37) (am_gV am_q1602 am_q1604 am_qs81 am_q13 am_q1605) (am_o12 (p := 271) (by decide +kernel)) rfl ⟨rfl, rfl⟩ (by decide +kernel) ⟨Nat.le_of_ble_eq_true rfl, Nat.le_of_ble_eq_true rfl⟩ rfl hl.1 rfl (Nat.le_of_ble_eq_true rfl) ⟨Nat.zero_le _, Nat.zero_le _⟩ dX12_goSteps_91) hH (fun H locs hH => ?_)
            refine lv_pop hx hb dX12_goSteps_94 rfl ?_
            exact P95 x3 w_36 z1 H locs ls hf hk1 hH (lv_sub hl [2, 3, 4, 5] rfl)
          · have hf := (if_neg hc_35).symm.trans hf
            refine lv_aload_n hx hb dX12_goSteps_66 rfl (lv_at hl 2 rfl) ?_
            refine lv_iload hx hb dX12_goSteps_67 (lv_at hl 1 rfl) ?_
            refine lv_iload hx hb dX12_goSteps_69 (lv_at hl 0 rfl) ?_
            refine lv_iconst (v := 0) hx hb dX12_goSteps_71 (by decide) ?_
            refine lv_iload hx hb dX12_goSteps_72 (lv_at hl 0 rfl) ?_
            refine lv_i2l hx hb dX12_goSteps_74 rfl ?_
            obtain ⟨r_41, w_39, hq_40, hf⟩ := am_b2_some hf
            refine am_calli (r := r_41) (w' := w_39) (am_runV (n := 4) (As := [.int r_28, .int x5_30, .int (0 : Int32), .long (x5_30.toInt64)]) (rest := []) ⟨hx, hb, hml, hown, hts⟩ hK hE hH (k_X12_act hq_40) (am_gV am_q1594 am_q1596 am_qs79 am_q13 am_q1597) (am_o12 (p := 271) (by decide +kernel)) rfl ⟨rfl, rfl⟩ (by decide +kernel) ⟨Nat.le_of_ble_eq_true rfl, Nat.le_of_ble_eq_true rfl⟩ rfl hl.1 rfl (Nat.le_of_ble_eq_true rfl) ⟨Nat.zero_le _, Nat.zero_le _⟩ dX12_goSteps_75) hH (fun H locs hH => ?_)
            refine lv_pop hx hb dX12_goSteps_78 rfl ?_
            refine lv_goto (tgt := 95) hx hb dX12_goSteps_79 (by decide) ?_
            exact P95 x3 w_39 z1 H locs ls hf hk1 hH (lv_sub hl [2, 3, 4, 5] rfl)
        · have hf := (if_neg hc_34).symm.trans hf
          obtain ⟨y_42, hf, hzy_42⟩ := am_x_some hf
          rw [hzy_42] at hk1
          have hf := hf.trans (congrArg some (show y_42 = (rr, ww) from hk1))
          refine lv_iload_n hx hb dX12_goSteps_60 rfl (lv_at hl 5 rfl) ?_
          exact am_reti hx hb hr hlocks hH hf dX12_goSteps_61
  refine am_enter (lv := [(0, .ref (G.1 + 271)), (1, .int a1), (2, .int a2)]) (Nat.le_of_ble_eq_true rfl) rfl (fun ls hl => ?_)
  unfold f_X12_goSteps at hf
  refine am_start hH (fun H locs hH => ?_)
  refine lv_iconst (v := 0) hx hb dX12_goSteps_0 (by decide) ?_
  refine lv_istore_n (lv' := [(3, .int (0 : Int32)), (0, .ref (G.1 + 271)), (1, .int a1), (2, .int a2)]) hx hb dX12_goSteps_1 rfl hl (by decide) rfl (fun ls hl => ?_)
  exact P2 am_fuel (0 : Int32) w H locs ls hf hH (lv_sub hl [1, 2, 3, 0] rfl)

def f_X12_perform_25 (a1 : Int32) (s0 : Int32) (w : am_S) : Option (Int32 × am_S) :=
  some (s0, w)
def f_X12_perform_24 (a1 : Int32) (w : am_S) : Option (Int32 × am_S) :=
  f_X12_perform_25 a1 (-1 : Int32) w
def f_X12_perform (a1 : Int32) (w : am_S) : Option (Int32 × am_S) :=
  am_b2 (f_X12_isScript a1 w) fun r_14 w_12 => if r_14 = 0 then (f_X12_perform_24 a1 w_12) else (am_b2 (f_X12_isField w_12) fun r_18 w_16 => if r_18 = 0 then (f_X12_perform_24 a1 w_16) else (am_b2 (f_X12_goSteps a1 (1 : Int32) w_16) fun r_22 w_20 => f_X12_perform_25 a1 r_22 w_20))
set_option maxRecDepth 100000 in
set_option maxHeartbeats 4000000 in
theorem k_X12_perform {G : am_G} {l : Launch} {a1 : Int32}  {w : am_S} {rr : Int32} {ww : am_S} (hf : f_X12_perform a1 w = some (rr, ww)) : am_Mi G l yX12_perform (Cond.code yX12_perform cX12_perform 2 (some .int) :: am_T) { frames := 11, cells := 0, slots := 0, locals := 704 } [.ref (G.1 + 271), .int a1] w rr ww := by
  refine Met.ofW (cc := cX12_perform) (maxL := 2) (ret := (some .int)) (by decide) rfl ?_
  intro p e s m args below meth c s₁ B hml hv
  obtain ⟨rfl, hx, hb, hr, hts, hown, hlocks, hK, hE, hH⟩ := am_begin B hv
  have hown : s.vm.findClass RX12 = some m.cls := hown
  show W p l e { frames := 11, cells := 0, slots := 0, locals := 704 } s m _ below meth c s.heap [] 0 0 _ _
  have P25 : ∀ (s0 : Int32) (w : am_S) (H : Heap) (locs : List Loc) (ls : Array Slot), f_X12_perform_25 a1 s0 w = some (rr, ww) → am_H G w s H locs → lv_has ls 2 [] → W p l e { frames := 11, cells := 0, slots := 0, locals := 704 } s m [.ref (G.1 + 271), .int a1].toArray below meth c H locs 0 0 (MQ below (va_Qi (fun (x : Int32) (u : am_S) => x = rr ∧ u = ww) (am_U G) (am_A G)) [.ref (G.1 + 271), .int a1].toArray s 0 0 (am_A G)) (F0 m 25 ls [.int s0]) := by
    intro s0 w H locs ls hf hH hl
    unfold f_X12_perform_25 at hf
    exact am_reti hx hb hr hlocks hH hf dX12_perform_25
  have P24 : ∀ (w : am_S) (H : Heap) (locs : List Loc) (ls : Array Slot), f_X12_perform_24 a1 w = some (rr, ww) → am_H G w s H locs → lv_has ls 2 [] → W p l e { frames := 11, cells := 0, slots := 0, locals := 704 } s m [.ref (G.1 + 271), .int a1].toArray below meth c H locs 0 0 (MQ below (va_Qi (fun (x : Int32) (u : am_S) => x = rr ∧ u = ww) (am_U G) (am_A G)) [.ref (G.1 + 271), .int a1].toArray s 0 0 (am_A G)) (F0 m 24 ls []) := by
    intro w H locs ls hf hH hl
    unfold f_X12_perform_24 at hf
    refine lv_iconst (v := -1) hx hb dX12_perform_24 (by decide) ?_
    exact P25 (-1 : Int32) w H locs ls hf hH (lv_sub hl [] rfl)
  refine am_enter (lv := [(0, .ref (G.1 + 271)), (1, .int a1)]) (Nat.le_of_ble_eq_true rfl) rfl (fun ls hl => ?_)
  unfold f_X12_perform at hf
  refine am_start hH (fun H locs hH => ?_)
  refine lv_aload_n hx hb dX12_perform_0 rfl (lv_at hl 0 rfl) ?_
  refine lv_iload_n hx hb dX12_perform_1 rfl (lv_at hl 1 rfl) ?_
  obtain ⟨r_14, w_12, hq_13, hf⟩ := am_b2_some hf
  refine am_calli (r := r_14) (w' := w_12) (am_runV (n := 1) (As := [.int a1]) (rest := []) ⟨hx, hb, hml, hown, hts⟩ hK hE hH (k_X12_isScript hq_13) (am_gV am_q1946 am_q1948 am_qs115 am_q13 am_q1949) (am_o12 (p := 271) (by decide +kernel)) rfl ⟨rfl, rfl⟩ (by decide +kernel) ⟨Nat.le_of_ble_eq_true rfl, Nat.le_of_ble_eq_true rfl⟩ rfl hl.1 rfl (Nat.le_of_ble_eq_true rfl) ⟨Nat.zero_le _, Nat.zero_le _⟩ dX12_perform_2) hH (fun H locs hH => ?_)
  refine lv_if_eq (tgt := 24) hx hb dX12_perform_5 (by decide) (fun hc_15 => ?_) (fun hc_15 => ?_)
  · have hf := (if_pos hc_15).symm.trans hf
    exact P24 w_12 H locs ls hf hH (lv_sub hl [] rfl)
  · have hf := (if_neg hc_15).symm.trans hf
    refine lv_aload_n hx hb dX12_perform_8 rfl (lv_at hl 0 rfl) ?_
    obtain ⟨r_18, w_16, hq_17, hf⟩ := am_b2_some hf
    refine am_calli (r := r_18) (w' := w_16) (am_runV (n := 0) (As := []) (rest := []) ⟨hx, hb, hml, hown, hts⟩ hK hE hH (k_X12_isField hq_17) (am_gV am_q1514 am_q1516 am_qs59 am_q13 am_q1517) (am_o12 (p := 271) (by decide +kernel)) rfl ⟨rfl, rfl⟩ (by decide +kernel) ⟨Nat.le_of_ble_eq_true rfl, Nat.le_of_ble_eq_true rfl⟩ rfl hl.1 rfl (Nat.le_of_ble_eq_true rfl) ⟨Nat.zero_le _, Nat.zero_le _⟩ dX12_perform_9) hH (fun H locs hH => ?_)
    refine lv_if_eq (tgt := 24) hx hb dX12_perform_12 (by decide) (fun hc_19 => ?_) (fun hc_19 => ?_)
    · have hf := (if_pos hc_19).symm.trans hf
      exact P24 w_16 H locs ls hf hH (lv_sub hl [] rfl)
    · have hf := (if_neg hc_19).symm.trans hf
      refine lv_aload_n hx hb dX12_perform_15 rfl (lv_at hl 0 rfl) ?_
      refine lv_iload_n hx hb dX12_perform_16 rfl (lv_at hl 1 rfl) ?_
      refine lv_iconst (v := 1) hx hb dX12_perform_17 (by decide) ?_
      obtain ⟨r_22, w_20, hq_21, hf⟩ := am_b2_some hf
      refine am_calli (r := r_22) (w' := w_20) (am_runV (n := 2) (As := [.int a1, .int (1 : Int32)]) (rest := []) ⟨hx, hb, hml, hown, hts⟩ hK hE hH (k_X12_goSteps hq_21) (am_gV am_q1954 am_q1956 am_qs116 am_q13 am_q1957) (am_o12 (p := 271) (by decide +kernel)) rfl ⟨rfl, rfl⟩ (by decide +kernel) ⟨Nat.le_of_ble_eq_true rfl, Nat.le_of_ble_eq_true rfl⟩ rfl hl.1 rfl (Nat.le_of_ble_eq_true rfl) ⟨Nat.zero_le _, Nat.zero_le _⟩ dX12_perform_18) hH (fun H locs hH => ?_)
      refine lv_goto (tgt := 25) hx hb dX12_perform_21 (by decide) ?_
      exact P25 r_22 w_20 H locs ls hf hH (lv_sub hl [] rfl)

def f_X12_round  (w : am_S) : Option (Int32 × am_S) :=
  am_b2 (f_X12_hand (1 : Int32) (0 : Int32) (0 : Int32) (0 : Int64) w) fun r_6 w_4 => some (r_6, w_4)
set_option maxRecDepth 100000 in
set_option maxHeartbeats 4000000 in
theorem k_X12_round {G : am_G} {l : Launch}   {w : am_S} {rr : Int32} {ww : am_S} (hf : f_X12_round  w = some (rr, ww)) : am_Mi G l yX12_round (Cond.code yX12_round cX12_round 1 (some .int) :: am_T) { frames := 11, cells := 0, slots := 0, locals := 704 } [.ref (G.1 + 271)] w rr ww := by
  refine Met.ofW (cc := cX12_round) (maxL := 1) (ret := (some .int)) (by decide) rfl ?_
  intro p e s m args below meth c s₁ B hml hv
  obtain ⟨rfl, hx, hb, hr, hts, hown, hlocks, hK, hE, hH⟩ := am_begin B hv
  have hown : s.vm.findClass RX12 = some m.cls := hown
  show W p l e { frames := 11, cells := 0, slots := 0, locals := 704 } s m _ below meth c s.heap [] 0 0 _ _
  refine am_enter (lv := [(0, .ref (G.1 + 271))]) (Nat.le_of_ble_eq_true rfl) rfl (fun ls hl => ?_)
  unfold f_X12_round at hf
  refine am_start hH (fun H locs hH => ?_)
  refine lv_aload_n hx hb dX12_round_0 rfl (lv_at hl 0 rfl) ?_
  refine lv_iconst (v := 1) hx hb dX12_round_1 (by decide) ?_
  refine lv_iconst (v := 0) hx hb dX12_round_2 (by decide) ?_
  refine lv_iconst (v := 0) hx hb dX12_round_3 (by decide) ?_
  refine lv_lconst (v := 0) hx hb dX12_round_4 (by decide) ?_
  obtain ⟨r_6, w_4, hq_5, hf⟩ := am_b2_some hf
  refine am_calli (r := r_6) (w' := w_4) (am_runV (n := 4) (As := [.int (1 : Int32), .int (0 : Int32), .int (0 : Int32), .long (0 : Int64)]) (rest := []) ⟨hx, hb, hml, hown, hts⟩ hK hE hH (k_X12_hand hq_5) (am_gV am_q1506 am_q1508 am_qs57 am_q13 am_q1509) (am_o12 (p := 271) (by decide +kernel)) rfl ⟨rfl, rfl⟩ (by decide +kernel) ⟨Nat.le_of_ble_eq_true rfl, Nat.le_of_ble_eq_true rfl⟩ rfl hl.1 rfl (Nat.le_of_ble_eq_true rfl) ⟨Nat.zero_le _, Nat.zero_le _⟩ dX12_round_5) hH (fun H locs hH => ?_)
  exact am_reti hx hb hr hlocks hH hf dX12_round_8

def f_X12_rule_16 (a1 : Int32) (w : am_S) : Option (Int32 × am_S) :=
  some ((-1 : Int32), w)
def f_X12_rule_51 (a1 : Int32) (s0 : Int32) (w : am_S) : Option (Int32 × am_S) :=
  some (s0, w)
def f_X12_rule (a1 : Int32) (w : am_S) : Option (Int32 × am_S) :=
  am_b2 (f_X12_isField w) fun r_18 w_16 => if r_18 = 0 then (f_X12_rule_16 a1 w_16) else (am_b2 (f_X12_in a1 (0 : Int32) (4 : Int32) w_16) fun r_22 w_20 => if r_22 = 0 then (f_X12_rule_16 a1 w_20) else (if a1 = (4 : Int32) then (am_b2 (f_X12_slotMany w_20) fun r_30 w_28 => f_X12_rule_51 a1 r_30 w_28) else (if a1 = (2 : Int32) then (am_chk (30 : Int32) 245 (f_X12_rule_51 a1 (w_20.1 281 (30 : Int32).toNatClampNeg) w_20)) else (am_chk a1 4 (f_X12_rule_51 a1 (w_20.1 276 a1.toNatClampNeg) w_20)))))
set_option maxRecDepth 100000 in
set_option maxHeartbeats 4000000 in
theorem k_X12_rule {G : am_G} {l : Launch} {a1 : Int32}  {w : am_S} {rr : Int32} {ww : am_S} (hf : f_X12_rule a1 w = some (rr, ww)) : am_Mi G l yX12_rule (Cond.code yX12_rule cX12_rule 2 (some .int) :: am_T) { frames := 2, cells := 0, slots := 0, locals := 128 } [.ref (G.1 + 271), .int a1] w rr ww := by
  refine Met.ofW (cc := cX12_rule) (maxL := 2) (ret := (some .int)) (by decide) rfl ?_
  intro p e s m args below meth c s₁ B hml hv
  obtain ⟨rfl, hx, hb, hr, hts, hown, hlocks, hK, hE, hH⟩ := am_begin B hv
  have hown : s.vm.findClass RX12 = some m.cls := hown
  show W p l e { frames := 2, cells := 0, slots := 0, locals := 128 } s m _ below meth c s.heap [] 0 0 _ _
  have P16 : ∀ (w : am_S) (H : Heap) (locs : List Loc) (ls : Array Slot), f_X12_rule_16 a1 w = some (rr, ww) → am_H G w s H locs → lv_has ls 2 [] → W p l e { frames := 2, cells := 0, slots := 0, locals := 128 } s m [.ref (G.1 + 271), .int a1].toArray below meth c H locs 0 0 (MQ below (va_Qi (fun (x : Int32) (u : am_S) => x = rr ∧ u = ww) (am_U G) (am_A G)) [.ref (G.1 + 271), .int a1].toArray s 0 0 (am_A G)) (F0 m 16 ls []) := by
    intro w H locs ls hf hH hl
    unfold f_X12_rule_16 at hf
    refine lv_iconst (v := -1) hx hb dX12_rule_16 (by decide) ?_
    exact am_reti hx hb hr hlocks hH hf dX12_rule_17
  have P51 : ∀ (s0 : Int32) (w : am_S) (H : Heap) (locs : List Loc) (ls : Array Slot), f_X12_rule_51 a1 s0 w = some (rr, ww) → am_H G w s H locs → lv_has ls 2 [] → W p l e { frames := 2, cells := 0, slots := 0, locals := 128 } s m [.ref (G.1 + 271), .int a1].toArray below meth c H locs 0 0 (MQ below (va_Qi (fun (x : Int32) (u : am_S) => x = rr ∧ u = ww) (am_U G) (am_A G)) [.ref (G.1 + 271), .int a1].toArray s 0 0 (am_A G)) (F0 m 51 ls [.int s0]) := by
    intro s0 w H locs ls hf hH hl
    unfold f_X12_rule_51 at hf
    exact am_reti hx hb hr hlocks hH hf dX12_rule_51
  refine am_enter (lv := [(0, .ref (G.1 + 271)), (1, .int a1)]) (Nat.le_of_ble_eq_true rfl) rfl (fun ls hl => ?_)
  unfold f_X12_rule at hf
  refine am_start hH (fun H locs hH => ?_)
  refine lv_aload_n hx hb dX12_rule_0 rfl (lv_at hl 0 rfl) ?_
  obtain ⟨r_18, w_16, hq_17, hf⟩ := am_b2_some hf
  refine am_calli (r := r_18) (w' := w_16) (am_runV (n := 0) (As := []) (rest := []) ⟨hx, hb, hml, hown, hts⟩ hK hE hH (k_X12_isField hq_17) (am_gV am_q1514 am_q1516 am_qs59 am_q13 am_q1517) (am_o12 (p := 271) (by decide +kernel)) rfl ⟨rfl, rfl⟩ (by decide +kernel) ⟨Nat.le_of_ble_eq_true rfl, Nat.le_of_ble_eq_true rfl⟩ rfl hl.1 rfl (Nat.le_of_ble_eq_true rfl) ⟨Nat.zero_le _, Nat.zero_le _⟩ dX12_rule_1) hH (fun H locs hH => ?_)
  refine lv_if_eq (tgt := 16) hx hb dX12_rule_4 (by decide) (fun hc_19 => ?_) (fun hc_19 => ?_)
  · have hf := (if_pos hc_19).symm.trans hf
    exact P16 w_16 H locs ls hf hH (lv_sub hl [] rfl)
  · have hf := (if_neg hc_19).symm.trans hf
    refine lv_iload_n hx hb dX12_rule_7 rfl (lv_at hl 1 rfl) ?_
    refine lv_iconst (v := 0) hx hb dX12_rule_8 (by decide) ?_
    refine lv_iconst (v := 4) hx hb dX12_rule_9 (by decide) ?_
    obtain ⟨r_22, w_20, hq_21, hf⟩ := am_b2_some hf
    refine am_calli (r := r_22) (w' := w_20) (am_runS (n := 3) (As := [.int a1, .int (0 : Int32), .int (4 : Int32)]) (rest := []) ⟨hx, hb, hml, hown, hts⟩ hK hE hH (k_X12_in hq_21) (am_gS am_q1425 am_q1426 am_q13 am_q1427) ⟨rfl, rfl⟩ (by decide +kernel) ⟨Nat.le_of_ble_eq_true rfl, Nat.le_of_ble_eq_true rfl⟩ rfl hl.1 rfl (Nat.le_of_ble_eq_true rfl) ⟨Nat.zero_le _, Nat.zero_le _⟩ dX12_rule_10) hH (fun H locs hH => ?_)
    refine lv_if_ne (tgt := 18) hx hb dX12_rule_13 (by decide) (fun hc_23 => ?_) (fun hc_23 => ?_)
    · have hf := (if_neg hc_23).symm.trans hf
      refine lv_iload_n hx hb dX12_rule_18 rfl (lv_at hl 1 rfl) ?_
      refine lv_iconst (v := 4) hx hb dX12_rule_19 (by decide) ?_
      refine lv_icmp_ne (tgt := 30) hx hb dX12_rule_20 (by decide) (fun hc_24 => ?_) (fun hc_24 => ?_)
      · have hf := (if_neg hc_24).symm.trans hf
        refine lv_iload_n hx hb dX12_rule_30 rfl (lv_at hl 1 rfl) ?_
        refine lv_iconst (v := 2) hx hb dX12_rule_31 (by decide) ?_
        refine lv_icmp_ne (tgt := 45) hx hb dX12_rule_32 (by decide) (fun hc_25 => ?_) (fun hc_25 => ?_)
        · have hf := (if_neg hc_25).symm.trans hf
          refine lv_aload_n hx hb dX12_rule_45 rfl (lv_at hl 0 rfl) ?_
          refine am_get hx hb hts hK hown hH (am_o12 (p := 271) (by decide +kernel)) rfl am_inX12 10 (by decide) am_q1329 (v := .ref (G.1 + 276)) rfl dX12_rule_46 ?_
          refine lv_iload_n hx hb dX12_rule_49 rfl (lv_at hl 1 rfl) ?_
          obtain ⟨hi_26, hf⟩ := am_chk_some hf
          refine am_iald hx hb hK hH (am_ai_of (N := 4) (by decide +kernel)) hi_26 dX12_rule_50 ?_
          exact P51 (w_20.1 276 a1.toNatClampNeg) w_20 H locs ls hf hH (lv_sub hl [] rfl)
        · have hf := (if_pos hc_25).symm.trans hf
          refine lv_aload_n hx hb dX12_rule_35 rfl (lv_at hl 0 rfl) ?_
          refine am_get hx hb hts hK hown hH (am_o12 (p := 271) (by decide +kernel)) rfl am_inX12 17 (by decide) am_q1336 (v := .ref (G.1 + 281)) rfl dX12_rule_36 ?_
          refine lv_bipush (v := 30) hx hb dX12_rule_39 (by decide) ?_
          obtain ⟨hi_27, hf⟩ := am_chk_some hf
          refine am_iald hx hb hK hH (am_ai_of (N := 245) (by decide +kernel)) hi_27 dX12_rule_41 ?_
          refine lv_goto (tgt := 51) hx hb dX12_rule_42 (by decide) ?_
          exact P51 (w_20.1 281 (30 : Int32).toNatClampNeg) w_20 H locs ls hf hH (lv_sub hl [] rfl)
      · have hf := (if_pos hc_24).symm.trans hf
        refine lv_aload_n hx hb dX12_rule_23 rfl (lv_at hl 0 rfl) ?_
        obtain ⟨r_30, w_28, hq_29, hf⟩ := am_b2_some hf
        refine am_calli (r := r_30) (w' := w_28) (am_runV (n := 0) (As := []) (rest := []) ⟨hx, hb, hml, hown, hts⟩ hK hE hH (k_X12_slotMany hq_29) (am_gV am_q1518 am_q1520 am_qs60 am_q13 am_q1521) (am_o12 (p := 271) (by decide +kernel)) rfl ⟨rfl, rfl⟩ (by decide +kernel) ⟨Nat.le_of_ble_eq_true rfl, Nat.le_of_ble_eq_true rfl⟩ rfl hl.1 rfl (Nat.le_of_ble_eq_true rfl) ⟨Nat.zero_le _, Nat.zero_le _⟩ dX12_rule_24) hH (fun H locs hH => ?_)
        refine lv_goto (tgt := 51) hx hb dX12_rule_27 (by decide) ?_
        exact P51 r_30 w_28 H locs ls hf hH (lv_sub hl [] rfl)
    · have hf := (if_pos hc_23).symm.trans hf
      exact P16 w_20 H locs ls hf hH (lv_sub hl [] rfl)

def f_X12_run_24 (a1 : Int32) (a2 : Int32) (w : am_S) : Option (Int32 × am_S) :=
  some ((-1000000 : Int32), w)
def f_X12_run_74 (a1 : Int32) (a2 : Int32) (s0 : Int32) (w : am_S) : Option (Int32 × am_S) :=
  some (s0, w)
def f_X12_run (a1 : Int32) (a2 : Int32) (w : am_S) : Option (Int32 × am_S) :=
  am_b2 (f_X12_isScript a1 w) fun r_28 w_26 => if r_28 = 0 then (f_X12_run_24 a1 a2 w_26) else (am_b2 (f_X12_isField w_26) fun r_32 w_30 => if r_32 = 0 then (f_X12_run_24 a1 a2 w_30) else (am_b2 (f_X12_in a2 (0 : Int32) (1 : Int32) w_30) fun r_36 w_34 => if r_36 = 0 then (f_X12_run_24 a1 a2 w_34) else (am_b1 (f_X12_putAside w_34) fun w_38 => am_b2 (f_X12_goSteps a1 (0 : Int32) w_38) fun r_42 w_40 => am_b2 (f_X12_knownMany w_40) fun r_45 w_43 => am_b1 (f_X12_bringBack w_43) fun w_46 => if a2 = (1 : Int32) then (f_X12_run_74 a1 a2 r_45 w_46) else (am_chk a1 5 (if r_42 = (w_46.1 280 a1.toNatClampNeg) then (f_X12_run_74 a1 a2 (-1 : Int32) w_46) else (f_X12_run_74 a1 a2 r_42 w_46))))))
set_option maxRecDepth 100000 in
set_option maxHeartbeats 4000000 in
theorem k_X12_run {G : am_G} {l : Launch} {a1 : Int32} {a2 : Int32}  {w : am_S} {rr : Int32} {ww : am_S} (hf : f_X12_run a1 a2 w = some (rr, ww)) : am_Mi G l yX12_run (Cond.code yX12_run cX12_run 5 (some .int) :: am_T) { frames := 11, cells := 0, slots := 0, locals := 704 } [.ref (G.1 + 271), .int a1, .int a2] w rr ww := by
  refine Met.ofW (cc := cX12_run) (maxL := 5) (ret := (some .int)) (by decide) rfl ?_
  intro p e s m args below meth c s₁ B hml hv
  obtain ⟨rfl, hx, hb, hr, hts, hown, hlocks, hK, hE, hH⟩ := am_begin B hv
  have hown : s.vm.findClass RX12 = some m.cls := hown
  show W p l e { frames := 11, cells := 0, slots := 0, locals := 704 } s m _ below meth c s.heap [] 0 0 _ _
  have P24 : ∀ (w : am_S) (H : Heap) (locs : List Loc) (ls : Array Slot), f_X12_run_24 a1 a2 w = some (rr, ww) → am_H G w s H locs → lv_has ls 5 [] → W p l e { frames := 11, cells := 0, slots := 0, locals := 704 } s m [.ref (G.1 + 271), .int a1, .int a2].toArray below meth c H locs 0 0 (MQ below (va_Qi (fun (x : Int32) (u : am_S) => x = rr ∧ u = ww) (am_U G) (am_A G)) [.ref (G.1 + 271), .int a1, .int a2].toArray s 0 0 (am_A G)) (F0 m 24 ls []) := by
    intro w H locs ls hf hH hl
    unfold f_X12_run_24 at hf
    refine lv_ldcw (v := -1000000) hx hb hown (hts _ am_q1723) dX12_run_24 ?_
    exact am_reti hx hb hr hlocks hH hf dX12_run_27
  have P74 : ∀ (s0 : Int32) (w : am_S) (H : Heap) (locs : List Loc) (ls : Array Slot), f_X12_run_74 a1 a2 s0 w = some (rr, ww) → am_H G w s H locs → lv_has ls 5 [] → W p l e { frames := 11, cells := 0, slots := 0, locals := 704 } s m [.ref (G.1 + 271), .int a1, .int a2].toArray below meth c H locs 0 0 (MQ below (va_Qi (fun (x : Int32) (u : am_S) => x = rr ∧ u = ww) (am_U G) (am_A G)) [.ref (G.1 + 271), .int a1, .int a2].toArray s 0 0 (am_A G)) (F0 m 74 ls [.int s0]) := by
    intro s0 w H locs ls hf hH hl
    unfold f_X12_run_74 at hf
    exact am_reti hx hb hr hlocks hH hf dX12_run_74
  refine am_enter (lv := [(0, .ref (G.1 + 271)), (1, .int a1), (2, .int a2)]) (Nat.le_of_ble_eq_true rfl) rfl (fun ls hl => ?_)
  unfold f_X12_run at hf
  refine am_start hH (fun H locs hH => ?_)
  refine lv_aload_n hx hb dX12_run_0 rfl (lv_at hl 0 rfl) ?_
  refine lv_iload_n hx hb dX12_run_1 rfl (lv_at hl 1 rfl) ?_
  obtain ⟨r_28, w_26, hq_27, hf⟩ := am_b2_some hf
  refine am_calli (r := r_28) (w' := w_26) (am_runV (n := 1) (As := [.int a1]) (rest := []) ⟨hx, hb, hml, hown, hts⟩ hK hE hH (k_X12_isScript hq_27) (am_gV am_q1946 am_q1948 am_qs115 am_q13 am_q1949) (am_o12 (p := 271) (by decide +kernel)) rfl ⟨rfl, rfl⟩ (by decide +kernel) ⟨Nat.le_of_ble_eq_true rfl, Nat.le_of_ble_eq_true rfl⟩ rfl hl.1 rfl (Nat.le_of_ble_eq_true rfl) ⟨Nat.zero_le _, Nat.zero_le _⟩ dX12_run_2) hH (fun H locs hH => ?_)
  refine lv_if_eq (tgt := 24) hx hb dX12_run_5 (by decide) (fun hc_29 => ?_) (fun hc_29 => ?_)
  · have hf := (if_pos hc_29).symm.trans hf
    exact P24 w_26 H locs ls hf hH (lv_sub hl [] rfl)
  · have hf := (if_neg hc_29).symm.trans hf
    refine lv_aload_n hx hb dX12_run_8 rfl (lv_at hl 0 rfl) ?_
    obtain ⟨r_32, w_30, hq_31, hf⟩ := am_b2_some hf
    refine am_calli (r := r_32) (w' := w_30) (am_runV (n := 0) (As := []) (rest := []) ⟨hx, hb, hml, hown, hts⟩ hK hE hH (k_X12_isField hq_31) (am_gV am_q1514 am_q1516 am_qs59 am_q13 am_q1517) (am_o12 (p := 271) (by decide +kernel)) rfl ⟨rfl, rfl⟩ (by decide +kernel) ⟨Nat.le_of_ble_eq_true rfl, Nat.le_of_ble_eq_true rfl⟩ rfl hl.1 rfl (Nat.le_of_ble_eq_true rfl) ⟨Nat.zero_le _, Nat.zero_le _⟩ dX12_run_9) hH (fun H locs hH => ?_)
    refine lv_if_eq (tgt := 24) hx hb dX12_run_12 (by decide) (fun hc_33 => ?_) (fun hc_33 => ?_)
    · have hf := (if_pos hc_33).symm.trans hf
      exact P24 w_30 H locs ls hf hH (lv_sub hl [] rfl)
    · have hf := (if_neg hc_33).symm.trans hf
      refine lv_iload_n hx hb dX12_run_15 rfl (lv_at hl 2 rfl) ?_
      refine lv_iconst (v := 0) hx hb dX12_run_16 (by decide) ?_
      refine lv_iconst (v := 1) hx hb dX12_run_17 (by decide) ?_
      obtain ⟨r_36, w_34, hq_35, hf⟩ := am_b2_some hf
      refine am_calli (r := r_36) (w' := w_34) (am_runS (n := 3) (As := [.int a2, .int (0 : Int32), .int (1 : Int32)]) (rest := []) ⟨hx, hb, hml, hown, hts⟩ hK hE hH (k_X12_in hq_35) (am_gS am_q1425 am_q1426 am_q13 am_q1427) ⟨rfl, rfl⟩ (by decide +kernel) ⟨Nat.le_of_ble_eq_true rfl, Nat.le_of_ble_eq_true rfl⟩ rfl hl.1 rfl (Nat.le_of_ble_eq_true rfl) ⟨Nat.zero_le _, Nat.zero_le _⟩ dX12_run_18) hH (fun H locs hH => ?_)
      refine lv_if_ne (tgt := 28) hx hb dX12_run_21 (by decide) (fun hc_37 => ?_) (fun hc_37 => ?_)
      · have hf := (if_neg hc_37).symm.trans hf
        refine lv_aload_n hx hb dX12_run_28 rfl (lv_at hl 0 rfl) ?_
        obtain ⟨w_38, hq_39, hf⟩ := am_b1_some hf
        refine am_callv (w' := w_38) (am_runV (n := 0) (As := []) (rest := []) ⟨hx, hb, hml, hown, hts⟩ hK hE hH (k_X12_putAside hq_39) (am_gV am_q1740 am_q1742 am_qs97 am_q13 am_q1743) (am_o12 (p := 271) (by decide +kernel)) rfl ⟨rfl, rfl⟩ (by decide +kernel) ⟨Nat.le_of_ble_eq_true rfl, Nat.le_of_ble_eq_true rfl⟩ rfl hl.1 rfl (Nat.le_of_ble_eq_true rfl) ⟨Nat.zero_le _, Nat.zero_le _⟩ dX12_run_29) hH (fun H locs hH => ?_)
        refine lv_aload_n hx hb dX12_run_32 rfl (lv_at hl 0 rfl) ?_
        refine lv_iload_n hx hb dX12_run_33 rfl (lv_at hl 1 rfl) ?_
        refine lv_iconst (v := 0) hx hb dX12_run_34 (by decide) ?_
        obtain ⟨r_42, w_40, hq_41, hf⟩ := am_b2_some hf
        refine am_calli (r := r_42) (w' := w_40) (am_runV (n := 2) (As := [.int a1, .int (0 : Int32)]) (rest := []) ⟨hx, hb, hml, hown, hts⟩ hK hE hH (k_X12_goSteps hq_41) (am_gV am_q1954 am_q1956 am_qs116 am_q13 am_q1957) (am_o12 (p := 271) (by decide +kernel)) rfl ⟨rfl, rfl⟩ (by decide +kernel) ⟨Nat.le_of_ble_eq_true rfl, Nat.le_of_ble_eq_true rfl⟩ rfl hl.1 rfl (Nat.le_of_ble_eq_true rfl) ⟨Nat.zero_le _, Nat.zero_le _⟩ dX12_run_35) hH (fun H locs hH => ?_)
        refine lv_istore_n (lv' := [(3, .int r_42), (0, .ref (G.1 + 271)), (1, .int a1), (2, .int a2)]) hx hb dX12_run_38 rfl hl (by decide) rfl (fun ls hl => ?_)
        refine lv_aload_n hx hb dX12_run_39 rfl (lv_at hl 1 rfl) ?_
        obtain ⟨r_45, w_43, hq_44, hf⟩ := am_b2_some hf
        refine am_calli (r := r_45) (w' := w_43) (am_runV (n := 0) (As := []) (rest := []) ⟨hx, hb, hml, hown, hts⟩ hK hE hH (k_X12_knownMany hq_44) (am_gV am_q1621 am_q1623 am_qs85 am_q13 am_q1624) (am_o12 (p := 271) (by decide +kernel)) rfl ⟨rfl, rfl⟩ (by decide +kernel) ⟨Nat.le_of_ble_eq_true rfl, Nat.le_of_ble_eq_true rfl⟩ rfl hl.1 rfl (Nat.le_of_ble_eq_true rfl) ⟨Nat.zero_le _, Nat.zero_le _⟩ dX12_run_40) hH (fun H locs hH => ?_)
        refine lv_istore (lv' := [(4, .int r_45), (3, .int r_42), (0, .ref (G.1 + 271)), (1, .int a1), (2, .int a2)]) hx hb dX12_run_43 hl (by decide) rfl (fun ls hl => ?_)
        refine lv_aload_n hx hb dX12_run_45 rfl (lv_at hl 2 rfl) ?_
        obtain ⟨w_46, hq_47, hf⟩ := am_b1_some hf
        refine am_callv (w' := w_46) (am_runV (n := 0) (As := []) (rest := []) ⟨hx, hb, hml, hown, hts⟩ hK hE hH (k_X12_bringBack hq_47) (am_gV am_q1744 am_q1746 am_qs98 am_q13 am_q1747) (am_o12 (p := 271) (by decide +kernel)) rfl ⟨rfl, rfl⟩ (by decide +kernel) ⟨Nat.le_of_ble_eq_true rfl, Nat.le_of_ble_eq_true rfl⟩ rfl hl.1 rfl (Nat.le_of_ble_eq_true rfl) ⟨Nat.zero_le _, Nat.zero_le _⟩ dX12_run_46) hH (fun H locs hH => ?_)
        refine lv_iload_n hx hb dX12_run_49 rfl (lv_at hl 4 rfl) ?_
        refine lv_iconst (v := 1) hx hb dX12_run_50 (by decide) ?_
        refine lv_icmp_ne (tgt := 59) hx hb dX12_run_51 (by decide) (fun hc_48 => ?_) (fun hc_48 => ?_)
        · have hf := (if_neg hc_48).symm.trans hf
          refine lv_iload_n hx hb dX12_run_59 rfl (lv_at hl 1 rfl) ?_
          refine lv_aload_n hx hb dX12_run_60 rfl (lv_at hl 2 rfl) ?_
          refine am_get hx hb hts hK hown hH (am_o12 (p := 271) (by decide +kernel)) rfl am_inX12 15 (by decide) am_q1334 (v := .ref (G.1 + 280)) rfl dX12_run_61 ?_
          refine lv_iload_n hx hb dX12_run_64 rfl (lv_at hl 3 rfl) ?_
          obtain ⟨hi_49, hf⟩ := am_chk_some hf
          refine am_iald hx hb hK hH (am_ai_of (N := 5) (by decide +kernel)) hi_49 dX12_run_65 ?_
          refine lv_icmp_ne (tgt := 73) hx hb dX12_run_66 (by decide) (fun hc_50 => ?_) (fun hc_50 => ?_)
          · have hf := (if_neg hc_50).symm.trans hf
            refine lv_iload_n hx hb dX12_run_73 rfl (lv_at hl 1 rfl) ?_
            exact P74 r_42 w_46 H locs ls hf hH (lv_sub hl [] rfl)
          · have hf := (if_pos hc_50).symm.trans hf
            refine lv_iconst (v := -1) hx hb dX12_run_69 (by decide) ?_
            refine lv_goto (tgt := 74) hx hb dX12_run_70 (by decide) ?_
            exact P74 (-1 : Int32) w_46 H locs ls hf hH (lv_sub hl [] rfl)
        · have hf := (if_pos hc_48).symm.trans hf
          refine lv_iload hx hb dX12_run_54 (lv_at hl 0 rfl) ?_
          refine lv_goto (tgt := 74) hx hb dX12_run_56 (by decide) ?_
          exact P74 r_45 w_46 H locs ls hf hH (lv_sub hl [] rfl)
      · have hf := (if_pos hc_37).symm.trans hf
        exact P24 w_34 H locs ls hf hH (lv_sub hl [] rfl)

def f_X12_sample_14 (a1 : Int64) (w : am_S) : Option (Int32 × am_S) :=
  some ((-1 : Int32), w)
def f_X12_sample (a1 : Int64) (w : am_S) : Option (Int32 × am_S) :=
  am_b2 (f_X12_isField w) fun r_15 w_13 => if r_15 = 0 then (f_X12_sample_14 a1 w_13) else (am_b2 (f_X12_degreesOfAll w_13) fun r_19 w_17 => if r_19 = 0 then (f_X12_sample_14 a1 w_17) else (am_v (am_pl w_17 271 24 a1) fun (w_21 : am_S) => am_b2 (f_X12_drawDegree w_21) fun r_24 w_22 => some (r_24, w_22)))
set_option maxRecDepth 100000 in
set_option maxHeartbeats 4000000 in
theorem k_X12_sample {G : am_G} {l : Launch} {a1 : Int64}  {w : am_S} {rr : Int32} {ww : am_S} (hf : f_X12_sample a1 w = some (rr, ww)) : am_Mi G l yX12_sample (Cond.code yX12_sample cX12_sample 3 (some .int) :: am_T) { frames := 2, cells := 0, slots := 0, locals := 128 } [.ref (G.1 + 271), .long a1] w rr ww := by
  refine Met.ofW (cc := cX12_sample) (maxL := 3) (ret := (some .int)) (by decide) rfl ?_
  intro p e s m args below meth c s₁ B hml hv
  obtain ⟨rfl, hx, hb, hr, hts, hown, hlocks, hK, hE, hH⟩ := am_begin B hv
  have hown : s.vm.findClass RX12 = some m.cls := hown
  show W p l e { frames := 2, cells := 0, slots := 0, locals := 128 } s m _ below meth c s.heap [] 0 0 _ _
  have P14 : ∀ (w : am_S) (H : Heap) (locs : List Loc) (ls : Array Slot), f_X12_sample_14 a1 w = some (rr, ww) → am_H G w s H locs → lv_has ls 3 [] → W p l e { frames := 2, cells := 0, slots := 0, locals := 128 } s m [.ref (G.1 + 271), .long a1].toArray below meth c H locs 0 0 (MQ below (va_Qi (fun (x : Int32) (u : am_S) => x = rr ∧ u = ww) (am_U G) (am_A G)) [.ref (G.1 + 271), .long a1].toArray s 0 0 (am_A G)) (F0 m 14 ls []) := by
    intro w H locs ls hf hH hl
    unfold f_X12_sample_14 at hf
    refine lv_iconst (v := -1) hx hb dX12_sample_14 (by decide) ?_
    exact am_reti hx hb hr hlocks hH hf dX12_sample_15
  refine am_enter (lv := [(0, .ref (G.1 + 271)), (1, .long a1)]) (Nat.le_of_ble_eq_true rfl) rfl (fun ls hl => ?_)
  unfold f_X12_sample at hf
  refine am_start hH (fun H locs hH => ?_)
  refine lv_aload_n hx hb dX12_sample_0 rfl (lv_at hl 0 rfl) ?_
  obtain ⟨r_15, w_13, hq_14, hf⟩ := am_b2_some hf
  refine am_calli (r := r_15) (w' := w_13) (am_runV (n := 0) (As := []) (rest := []) ⟨hx, hb, hml, hown, hts⟩ hK hE hH (k_X12_isField hq_14) (am_gV am_q1514 am_q1516 am_qs59 am_q13 am_q1517) (am_o12 (p := 271) (by decide +kernel)) rfl ⟨rfl, rfl⟩ (by decide +kernel) ⟨Nat.le_of_ble_eq_true rfl, Nat.le_of_ble_eq_true rfl⟩ rfl hl.1 rfl (Nat.le_of_ble_eq_true rfl) ⟨Nat.zero_le _, Nat.zero_le _⟩ dX12_sample_1) hH (fun H locs hH => ?_)
  refine lv_if_eq (tgt := 14) hx hb dX12_sample_4 (by decide) (fun hc_16 => ?_) (fun hc_16 => ?_)
  · have hf := (if_pos hc_16).symm.trans hf
    exact P14 w_13 H locs ls hf hH (lv_sub hl [] rfl)
  · have hf := (if_neg hc_16).symm.trans hf
    refine lv_aload_n hx hb dX12_sample_7 rfl (lv_at hl 0 rfl) ?_
    obtain ⟨r_19, w_17, hq_18, hf⟩ := am_b2_some hf
    refine am_calli (r := r_19) (w' := w_17) (am_runV (n := 0) (As := []) (rest := []) ⟨hx, hb, hml, hown, hts⟩ hK hE hH (k_X12_degreesOfAll hq_18) (am_gV am_q1574 am_q1576 am_qs74 am_q13 am_q1577) (am_o12 (p := 271) (by decide +kernel)) rfl ⟨rfl, rfl⟩ (by decide +kernel) ⟨Nat.le_of_ble_eq_true rfl, Nat.le_of_ble_eq_true rfl⟩ rfl hl.1 rfl (Nat.le_of_ble_eq_true rfl) ⟨Nat.zero_le _, Nat.zero_le _⟩ dX12_sample_8) hH (fun H locs hH => ?_)
    refine lv_if_ne (tgt := 16) hx hb dX12_sample_11 (by decide) (fun hc_20 => ?_) (fun hc_20 => ?_)
    · have hf := (if_neg hc_20).symm.trans hf
      refine lv_aload_n hx hb dX12_sample_16 rfl (lv_at hl 0 rfl) ?_
      refine lv_lload_n hx hb dX12_sample_17 rfl (lv_at hl 1 rfl) ?_
      obtain ⟨w_21, hw_21, hf⟩ := am_v_some hf
      refine am_putl hx hb hts hK hown hH (am_o12 (p := 271) (by decide +kernel)) rfl am_inX12 tyX12 tyX12_ok nmX12 24 (by decide) am_q1343 rfl rfl rfl (fun _ _ => Nat.le_of_ble_eq_true rfl) (fun _ _ _ => rfl) dX12_sample_18 (fun H locs hH => ?_)
      rw [← hw_21] at hH
      refine lv_aload_n hx hb dX12_sample_21 rfl (lv_at hl 0 rfl) ?_
      obtain ⟨r_24, w_22, hq_23, hf⟩ := am_b2_some hf
      refine am_calli (r := r_24) (w' := w_22) (am_runV (n := 0) (As := []) (rest := []) ⟨hx, hb, hml, hown, hts⟩ hK hE hH (k_X12_drawDegree hq_23) (am_gV am_q1640 am_q1642 am_qs89 am_q13 am_q1643) (am_o12 (p := 271) (by decide +kernel)) rfl ⟨rfl, rfl⟩ (by decide +kernel) ⟨Nat.le_of_ble_eq_true rfl, Nat.le_of_ble_eq_true rfl⟩ rfl hl.1 rfl (Nat.le_of_ble_eq_true rfl) ⟨Nat.zero_le _, Nat.zero_le _⟩ dX12_sample_22) hH (fun H locs hH => ?_)
      exact am_reti hx hb hr hlocks hH hf dX12_sample_25
    · have hf := (if_pos hc_20).symm.trans hf
      exact P14 w_17 H locs ls hf hH (lv_sub hl [] rfl)

def f_X12_senders_17 (a1 : Int32) (w : am_S) : Option (Int32 × am_S) :=
  some ((-1 : Int32), w)
def f_X12_senders_46 (a1 : Int32) (x3 : Int32) (s0 : Int32) (s1 : Int32) (w : am_S) : Option ((Int32 × am_S) ⊕ (Int32 × Int32 × am_S)) :=
  am_v (s1 + s0) fun (x2_16 : Int32) => am_v (x3 + (1 : Int32)) fun (x3_17 : Int32) => some (.inr (x2_16, x3_17, w))
def f_X12_senders_23b (a1 : Int32) (x2 : Int32) (x3 : Int32) (w : am_S) : Option ((Int32 × am_S) ⊕ (Int32 × Int32 × am_S)) :=
  if (w.1 271 13) ≤ x3 then (am_x (some (x2, w))) else (am_b2 (f_X12_copyMany x3 w) fun r_22 w_20 => if r_22 = a1 then (f_X12_senders_46 a1 x3 (1 : Int32) x2 w_20) else (f_X12_senders_46 a1 x3 (0 : Int32) x2 w_20))
def f_X12_senders_23 (a1 : Int32) (x2 : Int32) (x3 : Int32) (w : am_S) : Option (Int32 × am_S) :=
  am_loop (fun (st : (Int32 × Int32 × am_S)) => f_X12_senders_23b a1 st.1 st.2.1 st.2.2) am_fuel (x2, x3, w)
def f_X12_senders (a1 : Int32) (w : am_S) : Option (Int32 × am_S) :=
  am_b2 (f_X12_isField w) fun r_26 w_24 => if r_26 = 0 then (f_X12_senders_17 a1 w_24) else (am_b2 (f_X12_in a1 (0 : Int32) (24 : Int32) w_24) fun r_30 w_28 => if r_30 = 0 then (f_X12_senders_17 a1 w_28) else (f_X12_senders_23 a1 (0 : Int32) (0 : Int32) w_28))
set_option maxRecDepth 100000 in
set_option maxHeartbeats 4000000 in
theorem k_X12_senders {G : am_G} {l : Launch} {a1 : Int32}  {w : am_S} {rr : Int32} {ww : am_S} (hf : f_X12_senders a1 w = some (rr, ww)) : am_Mi G l yX12_senders (Cond.code yX12_senders cX12_senders 4 (some .int) :: am_T) { frames := 2, cells := 0, slots := 0, locals := 128 } [.ref (G.1 + 271), .int a1] w rr ww := by
  refine Met.ofW (cc := cX12_senders) (maxL := 4) (ret := (some .int)) (by decide) rfl ?_
  intro p e s m args below meth c s₁ B hml hv
  obtain ⟨rfl, hx, hb, hr, hts, hown, hlocks, hK, hE, hH⟩ := am_begin B hv
  have hown : s.vm.findClass RX12 = some m.cls := hown
  show W p l e { frames := 2, cells := 0, slots := 0, locals := 128 } s m _ below meth c s.heap [] 0 0 _ _
  have P17 : ∀ (w : am_S) (H : Heap) (locs : List Loc) (ls : Array Slot), f_X12_senders_17 a1 w = some (rr, ww) → am_H G w s H locs → lv_has ls 4 [] → W p l e { frames := 2, cells := 0, slots := 0, locals := 128 } s m [.ref (G.1 + 271), .int a1].toArray below meth c H locs 0 0 (MQ below (va_Qi (fun (x : Int32) (u : am_S) => x = rr ∧ u = ww) (am_U G) (am_A G)) [.ref (G.1 + 271), .int a1].toArray s 0 0 (am_A G)) (F0 m 17 ls []) := by
    intro w H locs ls hf hH hl
    unfold f_X12_senders_17 at hf
    refine lv_iconst (v := -1) hx hb dX12_senders_17 (by decide) ?_
    exact am_reti hx hb hr hlocks hH hf dX12_senders_18
  have P23 : ∀ (n1 : Nat) (x2 : Int32) (x3 : Int32) (w : am_S) (H : Heap) (locs : List Loc) (ls : Array Slot), am_loop (fun (st : (Int32 × Int32 × am_S)) => f_X12_senders_23b a1 st.1 st.2.1 st.2.2) n1 (x2, x3, w) = some (rr, ww) → am_H G w s H locs → lv_has ls 4 [(0, .ref (G.1 + 271)), (1, .int a1), (2, .int x2), (3, .int x3)] → W p l e { frames := 2, cells := 0, slots := 0, locals := 128 } s m [.ref (G.1 + 271), .int a1].toArray below meth c H locs 0 0 (MQ below (va_Qi (fun (x : Int32) (u : am_S) => x = rr ∧ u = ww) (am_U G) (am_A G)) [.ref (G.1 + 271), .int a1].toArray s 0 0 (am_A G)) (F0 m 23 ls []) := by
    intro n1
    induction n1 with
    | zero =>
      intro x2 x3 w H locs ls hf hH hl
      exact (am_loop_zero hf).elim
    | succ n1 ih1 =>
      intro x2 x3 w H locs ls hf hH hl
      obtain ⟨z1, hf, hk1⟩ := am_loop_succ hf
      have hf : f_X12_senders_23b a1 x2 x3 w = some z1 := hf
      have P46 : ∀ (x3 : Int32) (s0 : Int32) (s1 : Int32) (w : am_S) (z1 : ((Int32 × am_S) ⊕ (Int32 × Int32 × am_S))) (H : Heap) (locs : List Loc) (ls : Array Slot), f_X12_senders_46 a1 x3 s0 s1 w = some z1 → am_lk (fun (st : (Int32 × Int32 × am_S)) => f_X12_senders_23b a1 st.1 st.2.1 st.2.2) n1 (rr, ww) z1 → am_H G w s H locs → lv_has ls 4 [(0, .ref (G.1 + 271)), (1, .int a1), (3, .int x3)] → W p l e { frames := 2, cells := 0, slots := 0, locals := 128 } s m [.ref (G.1 + 271), .int a1].toArray below meth c H locs 0 0 (MQ below (va_Qi (fun (x : Int32) (u : am_S) => x = rr ∧ u = ww) (am_U G) (am_A G)) [.ref (G.1 + 271), .int a1].toArray s 0 0 (am_A G)) (F0 m 46 ls [.int s0, .int s1]) := by
        intro x3 s0 s1 w z1 H locs ls hf hk1 hH hl
        unfold f_X12_senders_46 at hf
        refine lv_iadd hx hb dX12_senders_46 ?_
        obtain ⟨x2_16, hx2_16, hf⟩ := am_v_some hf
        refine am_topi hx2_16 ?_
        refine lv_istore_n (lv' := [(2, .int x2_16), (0, .ref (G.1 + 271)), (1, .int a1), (3, .int x3)]) hx hb dX12_senders_47 rfl hl (by decide) rfl (fun ls hl => ?_)
        obtain ⟨x3_17, hx3_17, hf⟩ := am_v_some hf
        refine lv_iinc (v := x3_17) (lv' := [(3, .int x3_17), (2, .int x2_16), (0, .ref (G.1 + 271)), (1, .int a1)]) hx hb dX12_senders_48 hl (k := 3) rfl (by rw [hx3_17]; rfl) (by decide) rfl (fun ls hl => ?_)
        refine lv_goto (tgt := 23) hx hb dX12_senders_51 (by decide) ?_
        obtain rfl := Option.some.inj hf
        exact ih1 x2_16 x3_17 w H locs ls hk1 hH (lv_sub hl [2, 3, 1, 0] rfl)
      unfold f_X12_senders_23b at hf
      refine lv_iload_n hx hb dX12_senders_23 rfl (lv_at hl 3 rfl) ?_
      refine lv_aload_n hx hb dX12_senders_24 rfl (lv_at hl 0 rfl) ?_
      refine am_get hx hb hts hK hown hH (am_o12 (p := 271) (by decide +kernel)) rfl am_inX12 13 (by decide) am_q1332 (v := .int (w.1 271 13)) rfl dX12_senders_25 ?_
      refine lv_icmp_ge (tgt := 54) hx hb dX12_senders_28 (by decide) (fun hc_18 => ?_) (fun hc_18 => ?_)
      · have hf := (if_pos hc_18).symm.trans hf
        obtain ⟨y_19, hf, hzy_19⟩ := am_x_some hf
        rw [hzy_19] at hk1
        have hf := hf.trans (congrArg some (show y_19 = (rr, ww) from hk1))
        refine lv_iload_n hx hb dX12_senders_54 rfl (lv_at hl 2 rfl) ?_
        exact am_reti hx hb hr hlocks hH hf dX12_senders_55
      · have hf := (if_neg hc_18).symm.trans hf
        refine lv_iload_n hx hb dX12_senders_31 rfl (lv_at hl 2 rfl) ?_
        refine lv_aload_n hx hb dX12_senders_32 rfl (lv_at hl 0 rfl) ?_
        refine lv_iload_n hx hb dX12_senders_33 rfl (lv_at hl 3 rfl) ?_
        obtain ⟨r_22, w_20, hq_21, hf⟩ := am_b2_some hf
        refine am_calli (r := r_22) (w' := w_20) (am_runV (n := 1) (As := [.int x3]) (rest := [.int x2]) ⟨hx, hb, hml, hown, hts⟩ hK hE hH (k_X12_copyMany hq_21) (am_gV am_q1632 am_q1634 am_qs87 am_q13 am_q1635) (am_o12 (p := 271) (by decide +kernel)) rfl ⟨rfl, rfl⟩ (by decide +kernel) ⟨Nat.le_of_ble_eq_true rfl, Nat.le_of_ble_eq_true rfl⟩ rfl hl.1 rfl (Nat.le_of_ble_eq_true rfl) ⟨Nat.zero_le _, Nat.zero_le _⟩ dX12_senders_34) hH (fun H locs hH => ?_)
        refine lv_iload_n hx hb dX12_senders_37 rfl (lv_at hl 1 rfl) ?_
        refine lv_icmp_ne (tgt := 45) hx hb dX12_senders_38 (by decide) (fun hc_23 => ?_) (fun hc_23 => ?_)
        · have hf := (if_neg hc_23).symm.trans hf
          refine lv_iconst (v := 0) hx hb dX12_senders_45 (by decide) ?_
          exact P46 x3 (0 : Int32) x2 w_20 z1 H locs ls hf hk1 hH (lv_sub hl [0, 1, 3] rfl)
        · have hf := (if_pos hc_23).symm.trans hf
          refine lv_iconst (v := 1) hx hb dX12_senders_41 (by decide) ?_
          refine lv_goto (tgt := 46) hx hb dX12_senders_42 (by decide) ?_
          exact P46 x3 (1 : Int32) x2 w_20 z1 H locs ls hf hk1 hH (lv_sub hl [0, 1, 3] rfl)
  refine am_enter (lv := [(0, .ref (G.1 + 271)), (1, .int a1)]) (Nat.le_of_ble_eq_true rfl) rfl (fun ls hl => ?_)
  unfold f_X12_senders at hf
  refine am_start hH (fun H locs hH => ?_)
  refine lv_aload_n hx hb dX12_senders_0 rfl (lv_at hl 0 rfl) ?_
  obtain ⟨r_26, w_24, hq_25, hf⟩ := am_b2_some hf
  refine am_calli (r := r_26) (w' := w_24) (am_runV (n := 0) (As := []) (rest := []) ⟨hx, hb, hml, hown, hts⟩ hK hE hH (k_X12_isField hq_25) (am_gV am_q1514 am_q1516 am_qs59 am_q13 am_q1517) (am_o12 (p := 271) (by decide +kernel)) rfl ⟨rfl, rfl⟩ (by decide +kernel) ⟨Nat.le_of_ble_eq_true rfl, Nat.le_of_ble_eq_true rfl⟩ rfl hl.1 rfl (Nat.le_of_ble_eq_true rfl) ⟨Nat.zero_le _, Nat.zero_le _⟩ dX12_senders_1) hH (fun H locs hH => ?_)
  refine lv_if_eq (tgt := 17) hx hb dX12_senders_4 (by decide) (fun hc_27 => ?_) (fun hc_27 => ?_)
  · have hf := (if_pos hc_27).symm.trans hf
    exact P17 w_24 H locs ls hf hH (lv_sub hl [] rfl)
  · have hf := (if_neg hc_27).symm.trans hf
    refine lv_iload_n hx hb dX12_senders_7 rfl (lv_at hl 1 rfl) ?_
    refine lv_iconst (v := 0) hx hb dX12_senders_8 (by decide) ?_
    refine lv_bipush (v := 24) hx hb dX12_senders_9 (by decide) ?_
    obtain ⟨r_30, w_28, hq_29, hf⟩ := am_b2_some hf
    refine am_calli (r := r_30) (w' := w_28) (am_runS (n := 3) (As := [.int a1, .int (0 : Int32), .int (24 : Int32)]) (rest := []) ⟨hx, hb, hml, hown, hts⟩ hK hE hH (k_X12_in hq_29) (am_gS am_q1425 am_q1426 am_q13 am_q1427) ⟨rfl, rfl⟩ (by decide +kernel) ⟨Nat.le_of_ble_eq_true rfl, Nat.le_of_ble_eq_true rfl⟩ rfl hl.1 rfl (Nat.le_of_ble_eq_true rfl) ⟨Nat.zero_le _, Nat.zero_le _⟩ dX12_senders_11) hH (fun H locs hH => ?_)
    refine lv_if_ne (tgt := 19) hx hb dX12_senders_14 (by decide) (fun hc_31 => ?_) (fun hc_31 => ?_)
    · have hf := (if_neg hc_31).symm.trans hf
      refine lv_iconst (v := 0) hx hb dX12_senders_19 (by decide) ?_
      refine lv_istore_n (lv' := [(2, .int (0 : Int32)), (0, .ref (G.1 + 271)), (1, .int a1)]) hx hb dX12_senders_20 rfl hl (by decide) rfl (fun ls hl => ?_)
      refine lv_iconst (v := 0) hx hb dX12_senders_21 (by decide) ?_
      refine lv_istore_n (lv' := [(3, .int (0 : Int32)), (2, .int (0 : Int32)), (0, .ref (G.1 + 271)), (1, .int a1)]) hx hb dX12_senders_22 rfl hl (by decide) rfl (fun ls hl => ?_)
      exact P23 am_fuel (0 : Int32) (0 : Int32) w_28 H locs ls hf hH (lv_sub hl [2, 3, 1, 0] rfl)
    · have hf := (if_pos hc_31).symm.trans hf
      exact P17 w_28 H locs ls hf hH (lv_sub hl [] rfl)
