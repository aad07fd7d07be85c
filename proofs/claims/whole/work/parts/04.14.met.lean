/-! functions and contracts of methods, by program (wip/whole/gen.py) -/
def f_Jxe99ae_isNaN_b9ae7_11 (a0 : UInt64) (s0 : Int32) (w : am_S) : Option (Int32 × am_S) :=
  am_nar .boolean s0 (some (s0, w))
def f_Jxe99ae_isNaN_b9ae7 (a0 : UInt64) (w : am_S) : Option (Int32 × am_S) :=
  if (Op.cmpValue (FP.dcmp a0 a0) .l) = 0 then (f_Jxe99ae_isNaN_b9ae7_11 a0 (0 : Int32) w) else (f_Jxe99ae_isNaN_b9ae7_11 a0 (1 : Int32) w)
set_option maxRecDepth 100000 in
set_option maxHeartbeats 4000000 in
theorem k_Jxe99ae_isNaN_b9ae7 {G : am_G} {l : Launch} {a0 : UInt64}  {w : am_S} {rr : Int32} {ww : am_S} (hf : f_Jxe99ae_isNaN_b9ae7 a0 w = some (rr, ww)) : am_Mi G l yJxe99ae_isNaN_b9ae7 (Cond.code yJxe99ae_isNaN_b9ae7 cJxe99ae_isNaN_b9ae7 2 (some .boolean) :: am_T) { frames := 0, cells := 0, slots := 0, locals := 0 } [.double a0] w rr ww := by
  refine Met.ofW (cc := cJxe99ae_isNaN_b9ae7) (maxL := 2) (ret := (some .boolean)) (by decide) rfl ?_
  intro p e s m args below meth c s₁ B hml hv
  obtain ⟨rfl, hx, hb, hr, hts, hown, hlocks, hK, hE, hH⟩ := am_begin B hv
  have hown : s.vm.findClass RJxe99ae = some m.cls := hown
  show W p l e { frames := 0, cells := 0, slots := 0, locals := 0 } s m _ below meth c s.heap [] 0 0 _ _
  have P11 : ∀ (s0 : Int32) (w : am_S) (H : Heap) (locs : List Loc) (ls : Array Slot), f_Jxe99ae_isNaN_b9ae7_11 a0 s0 w = some (rr, ww) → am_H G w s H locs → lv_has ls 2 [] → W p l e { frames := 0, cells := 0, slots := 0, locals := 0 } s m [.double a0].toArray below meth c H locs 0 0 (MQ below (va_Qi (fun (x : Int32) (u : am_S) => x = rr ∧ u = ww) (am_U G) (am_A G)) [.double a0].toArray s 0 0 (am_A G)) (F0 m 11 ls [.int s0]) := by
    intro s0 w H locs ls hf hH hl
    unfold f_Jxe99ae_isNaN_b9ae7_11 at hf
    obtain ⟨hr_2, hf⟩ := am_nar_some hf
    exact am_retz hx hb hr hr_2.1 hlocks hH hf dJxe99ae_isNaN_b9ae7_11
  refine am_enter (lv := [(0, .double a0)]) (Nat.le_of_ble_eq_true rfl) rfl (fun ls hl => ?_)
  unfold f_Jxe99ae_isNaN_b9ae7 at hf
  refine am_start hH (fun H locs hH => ?_)
  refine lv_dload_n hx hb dJxe99ae_isNaN_b9ae7_0 rfl (lv_at hl 0 rfl) ?_
  refine lv_dload_n hx hb dJxe99ae_isNaN_b9ae7_1 rfl (lv_at hl 0 rfl) ?_
  refine lv_dcmp hx hb dJxe99ae_isNaN_b9ae7_2 ?_
  refine lv_if_eq (tgt := 10) hx hb dJxe99ae_isNaN_b9ae7_3 (by decide) (fun hc_3 => ?_) (fun hc_3 => ?_)
  · have hf := (if_pos hc_3).symm.trans hf
    refine lv_iconst (v := 0) hx hb dJxe99ae_isNaN_b9ae7_10 (by decide) ?_
    exact P11 (0 : Int32) w H locs ls hf hH (lv_sub hl [] rfl)
  · have hf := (if_neg hc_3).symm.trans hf
    refine lv_iconst (v := 1) hx hb dJxe99ae_isNaN_b9ae7_6 (by decide) ?_
    refine lv_goto (tgt := 11) hx hb dJxe99ae_isNaN_b9ae7_7 (by decide) ?_
    exact P11 (1 : Int32) w H locs ls hf hH (lv_sub hl [] rfl)

def f_Jxe99ae_doubleToLongBits_ccdee (a0 : UInt64) (w : am_S) : Option (Int64 × am_S) :=
  am_b2 (f_Jxe99ae_isNaN_b9ae7 a0 w) fun r_7 w_5 => if r_7 = 0 then (some (a0.toInt64, w_5)) else (some ((9221120237041090560 : Int64), w_5))
set_option maxRecDepth 100000 in
set_option maxHeartbeats 4000000 in
theorem k_Jxe99ae_doubleToLongBits_ccdee {G : am_G} {l : Launch} {a0 : UInt64}  {w : am_S} {rr : Int64} {ww : am_S} (hf : f_Jxe99ae_doubleToLongBits_ccdee a0 w = some (rr, ww)) : am_Ml G l yJxe99ae_doubleToLongBits_ccdee (Cond.code yJxe99ae_doubleToLongBits_ccdee cJxe99ae_doubleToLongBits_ccdee 2 (some .long) :: am_T) { frames := 2, cells := 0, slots := 0, locals := 128 } [.double a0] w rr ww := by
  refine Met.ofW (cc := cJxe99ae_doubleToLongBits_ccdee) (maxL := 2) (ret := (some .long)) (by decide) rfl ?_
  intro p e s m args below meth c s₁ B hml hv
  obtain ⟨rfl, hx, hb, hr, hts, hown, hlocks, hK, hE, hH⟩ := am_begin B hv
  have hown : s.vm.findClass RJxe99ae = some m.cls := hown
  show W p l e { frames := 2, cells := 0, slots := 0, locals := 128 } s m _ below meth c s.heap [] 0 0 _ _
  refine am_enter (lv := [(0, .double a0)]) (Nat.le_of_ble_eq_true rfl) rfl (fun ls hl => ?_)
  unfold f_Jxe99ae_doubleToLongBits_ccdee at hf
  refine am_start hH (fun H locs hH => ?_)
  refine lv_dload_n hx hb dJxe99ae_doubleToLongBits_ccdee_0 rfl (lv_at hl 0 rfl) ?_
  obtain ⟨r_7, w_5, hq_6, hf⟩ := am_b2_some hf
  refine am_calli (r := r_7) (w' := w_5) (am_runS (n := 1) (As := [.double a0]) (rest := []) ⟨hx, hb, hml, hown, hts⟩ hK hE hH (k_Jxe99ae_isNaN_b9ae7 hq_6) (am_gS am_q1928 am_q1929 am_q30 am_q1930) ⟨rfl, rfl⟩ (by decide +kernel) ⟨Nat.le_of_ble_eq_true rfl, Nat.le_of_ble_eq_true rfl⟩ rfl hl.1 rfl (Nat.le_of_ble_eq_true rfl) ⟨Nat.zero_le _, Nat.zero_le _⟩ dJxe99ae_doubleToLongBits_ccdee_1) hH (fun H locs hH => ?_)
  refine lv_if_ne (tgt := 12) hx hb dJxe99ae_doubleToLongBits_ccdee_4 (by decide) (fun hc_8 => ?_) (fun hc_8 => ?_)
  · have hf := (if_neg hc_8).symm.trans hf
    refine lv_ldc2 (v := 9221120237041090560) hx hb hown (hts _ am_q1932) dJxe99ae_doubleToLongBits_ccdee_12 ?_
    exact am_retl hx hb hr hlocks hH hf dJxe99ae_doubleToLongBits_ccdee_15
  · have hf := (if_pos hc_8).symm.trans hf
    refine lv_dload_n hx hb dJxe99ae_doubleToLongBits_ccdee_7 rfl (lv_at hl 0 rfl) ?_
    refine vn_d2l hx hb (hml.trans hl.1.symm) hown (hts _ am_q1931) (hts _ am_q1922) (hts _ am_q1921) (hts _ am_q30) (Nat.le_of_ble_eq_true rfl) (by decide) dJxe99ae_doubleToLongBits_ccdee_8 ?_
    exact am_retl hx hb hr hlocks hH hf dJxe99ae_doubleToLongBits_ccdee_11

def f_X12_share_49 (a1 : Int32) (a2 : Int32) (s0 : Int64) (w : am_S) : Option (Int64 × am_S) :=
  some (s0, w)
def f_X12_share_46 (a1 : Int32) (a2 : Int32) (w : am_S) : Option (Int64 × am_S) :=
  f_X12_share_49 a1 a2 (-1 : Int64) w
def f_X12_share (a1 : Int32) (a2 : Int32) (w : am_S) : Option (Int64 × am_S) :=
  am_b2 (f_X12_isField w) fun r_25 w_23 => if r_25 = 0 then (f_X12_share_46 a1 a2 w_23) else (am_b2 (f_X12_degreesOfAll w_23) fun r_29 w_27 => if r_29 ≤ 0 then (f_X12_share_46 a1 a2 w_27) else (am_b2 (f_X12_in a1 (1 : Int32) (60 : Int32) w_27) fun r_33 w_31 => if r_33 = 0 then (f_X12_share_46 a1 a2 w_31) else (am_b2 (f_X12_in a2 (0 : Int32) (40 : Int32) w_31) fun r_37 w_35 => if r_37 = 0 then (f_X12_share_46 a1 a2 w_35) else (am_b2 (f_X12_shareOf a1 a2 w_35) fun r_41 w_39 => am_b2 (f_Jxe99ae_doubleToLongBits_ccdee r_41 w_39) fun r_44 w_42 => f_X12_share_49 a1 a2 r_44 w_42))))
set_option maxRecDepth 100000 in
set_option maxHeartbeats 4000000 in
theorem k_X12_share {G : am_G} {l : Launch} {a1 : Int32} {a2 : Int32}  {w : am_S} {rr : Int64} {ww : am_S} (hf : f_X12_share a1 a2 w = some (rr, ww)) : am_Ml G l yX12_share (Cond.code yX12_share cX12_share 3 (some .long) :: am_T) { frames := 3, cells := 0, slots := 0, locals := 192 } [.ref (G.1 + 271), .int a1, .int a2] w rr ww := by
  refine Met.ofW (cc := cX12_share) (maxL := 3) (ret := (some .long)) (by decide) rfl ?_
  intro p e s m args below meth c s₁ B hml hv
  obtain ⟨rfl, hx, hb, hr, hts, hown, hlocks, hK, hE, hH⟩ := am_begin B hv
  have hown : s.vm.findClass RX12 = some m.cls := hown
  show W p l e { frames := 3, cells := 0, slots := 0, locals := 192 } s m _ below meth c s.heap [] 0 0 _ _
  have P49 : ∀ (s0 : Int64) (w : am_S) (H : Heap) (locs : List Loc) (ls : Array Slot), f_X12_share_49 a1 a2 s0 w = some (rr, ww) → am_H G w s H locs → lv_has ls 3 [] → W p l e { frames := 3, cells := 0, slots := 0, locals := 192 } s m [.ref (G.1 + 271), .int a1, .int a2].toArray below meth c H locs 0 0 (MQ below (va_Ql (fun (x : Int64) (u : am_S) => x = rr ∧ u = ww) (am_U G) (am_A G)) [.ref (G.1 + 271), .int a1, .int a2].toArray s 0 0 (am_A G)) (F0 m 49 ls [.long s0]) := by
    intro s0 w H locs ls hf hH hl
    unfold f_X12_share_49 at hf
    exact am_retl hx hb hr hlocks hH hf dX12_share_49
  have P46 : ∀ (w : am_S) (H : Heap) (locs : List Loc) (ls : Array Slot), f_X12_share_46 a1 a2 w = some (rr, ww) → am_H G w s H locs → lv_has ls 3 [] → W p l e { frames := 3, cells := 0, slots := 0, locals := 192 } s m [.ref (G.1 + 271), .int a1, .int a2].toArray below meth c H locs 0 0 (MQ below (va_Ql (fun (x : Int64) (u : am_S) => x = rr ∧ u = ww) (am_U G) (am_A G)) [.ref (G.1 + 271), .int a1, .int a2].toArray s 0 0 (am_A G)) (F0 m 46 ls []) := by
    intro w H locs ls hf hH hl
    unfold f_X12_share_46 at hf
    refine lv_ldc2 (v := -1) hx hb hown (hts _ am_q1904) dX12_share_46 ?_
    exact P49 (-1 : Int64) w H locs ls hf hH (lv_sub hl [] rfl)
  refine am_enter (lv := [(0, .ref (G.1 + 271)), (1, .int a1), (2, .int a2)]) (Nat.le_of_ble_eq_true rfl) rfl (fun ls hl => ?_)
  unfold f_X12_share at hf
  refine am_start hH (fun H locs hH => ?_)
  refine lv_aload_n hx hb dX12_share_0 rfl (lv_at hl 0 rfl) ?_
  obtain ⟨r_25, w_23, hq_24, hf⟩ := am_b2_some hf
  refine am_calli (r := r_25) (w' := w_23) (am_runV (n := 0) (As := []) (rest := []) ⟨hx, hb, hml, hown, hts⟩ hK hE hH (k_X12_isField hq_24) (am_gV am_q1514 am_q1516 am_qs59 am_q13 am_q1517) (am_o12 (p := 271) (by decide +kernel)) rfl ⟨rfl, rfl⟩ (by decide +kernel) ⟨Nat.le_of_ble_eq_true rfl, Nat.le_of_ble_eq_true rfl⟩ rfl hl.1 rfl (Nat.le_of_ble_eq_true rfl) ⟨Nat.zero_le _, Nat.zero_le _⟩ dX12_share_1) hH (fun H locs hH => ?_)
  refine lv_if_eq (tgt := 46) hx hb dX12_share_4 (by decide) (fun hc_26 => ?_) (fun hc_26 => ?_)
  · have hf := (if_pos hc_26).symm.trans hf
    exact P46 w_23 H locs ls hf hH (lv_sub hl [] rfl)
  · have hf := (if_neg hc_26).symm.trans hf
    refine lv_aload_n hx hb dX12_share_7 rfl (lv_at hl 0 rfl) ?_
    obtain ⟨r_29, w_27, hq_28, hf⟩ := am_b2_some hf
    refine am_calli (r := r_29) (w' := w_27) (am_runV (n := 0) (As := []) (rest := []) ⟨hx, hb, hml, hown, hts⟩ hK hE hH (k_X12_degreesOfAll hq_28) (am_gV am_q1574 am_q1576 am_qs74 am_q13 am_q1577) (am_o12 (p := 271) (by decide +kernel)) rfl ⟨rfl, rfl⟩ (by decide +kernel) ⟨Nat.le_of_ble_eq_true rfl, Nat.le_of_ble_eq_true rfl⟩ rfl hl.1 rfl (Nat.le_of_ble_eq_true rfl) ⟨Nat.zero_le _, Nat.zero_le _⟩ dX12_share_8) hH (fun H locs hH => ?_)
    refine lv_if_le (tgt := 46) hx hb dX12_share_11 (by decide) (fun hc_30 => ?_) (fun hc_30 => ?_)
    · have hf := (if_pos hc_30).symm.trans hf
      exact P46 w_27 H locs ls hf hH (lv_sub hl [] rfl)
    · have hf := (if_neg hc_30).symm.trans hf
      refine lv_iload_n hx hb dX12_share_14 rfl (lv_at hl 1 rfl) ?_
      refine lv_iconst (v := 1) hx hb dX12_share_15 (by decide) ?_
      refine lv_bipush (v := 60) hx hb dX12_share_16 (by decide) ?_
      obtain ⟨r_33, w_31, hq_32, hf⟩ := am_b2_some hf
      refine am_calli (r := r_33) (w' := w_31) (am_runS (n := 3) (As := [.int a1, .int (1 : Int32), .int (60 : Int32)]) (rest := []) ⟨hx, hb, hml, hown, hts⟩ hK hE hH (k_X12_in hq_32) (am_gS am_q1425 am_q1426 am_q13 am_q1427) ⟨rfl, rfl⟩ (by decide +kernel) ⟨Nat.le_of_ble_eq_true rfl, Nat.le_of_ble_eq_true rfl⟩ rfl hl.1 rfl (Nat.le_of_ble_eq_true rfl) ⟨Nat.zero_le _, Nat.zero_le _⟩ dX12_share_18) hH (fun H locs hH => ?_)
      refine lv_if_eq (tgt := 46) hx hb dX12_share_21 (by decide) (fun hc_34 => ?_) (fun hc_34 => ?_)
      · have hf := (if_pos hc_34).symm.trans hf
        exact P46 w_31 H locs ls hf hH (lv_sub hl [] rfl)
      · have hf := (if_neg hc_34).symm.trans hf
        refine lv_iload_n hx hb dX12_share_24 rfl (lv_at hl 2 rfl) ?_
        refine lv_iconst (v := 0) hx hb dX12_share_25 (by decide) ?_
        refine lv_bipush (v := 40) hx hb dX12_share_26 (by decide) ?_
        obtain ⟨r_37, w_35, hq_36, hf⟩ := am_b2_some hf
        refine am_calli (r := r_37) (w' := w_35) (am_runS (n := 3) (As := [.int a2, .int (0 : Int32), .int (40 : Int32)]) (rest := []) ⟨hx, hb, hml, hown, hts⟩ hK hE hH (k_X12_in hq_36) (am_gS am_q1425 am_q1426 am_q13 am_q1427) ⟨rfl, rfl⟩ (by decide +kernel) ⟨Nat.le_of_ble_eq_true rfl, Nat.le_of_ble_eq_true rfl⟩ rfl hl.1 rfl (Nat.le_of_ble_eq_true rfl) ⟨Nat.zero_le _, Nat.zero_le _⟩ dX12_share_28) hH (fun H locs hH => ?_)
        refine lv_if_eq (tgt := 46) hx hb dX12_share_31 (by decide) (fun hc_38 => ?_) (fun hc_38 => ?_)
        · have hf := (if_pos hc_38).symm.trans hf
          exact P46 w_35 H locs ls hf hH (lv_sub hl [] rfl)
        · have hf := (if_neg hc_38).symm.trans hf
          refine lv_aload_n hx hb dX12_share_34 rfl (lv_at hl 0 rfl) ?_
          refine lv_iload_n hx hb dX12_share_35 rfl (lv_at hl 1 rfl) ?_
          refine lv_iload_n hx hb dX12_share_36 rfl (lv_at hl 2 rfl) ?_
          obtain ⟨r_41, w_39, hq_40, hf⟩ := am_b2_some hf
          refine am_calld (r := r_41) (w' := w_39) (am_runV (n := 2) (As := [.int a1, .int a2]) (rest := []) ⟨hx, hb, hml, hown, hts⟩ hK hE hH (k_X12_shareOf hq_40) (am_gV am_q1909 am_q1911 am_qs113 am_q13 am_q1912) (am_o12 (p := 271) (by decide +kernel)) rfl ⟨rfl, rfl⟩ (by decide +kernel) ⟨Nat.le_of_ble_eq_true rfl, Nat.le_of_ble_eq_true rfl⟩ rfl hl.1 rfl (Nat.le_of_ble_eq_true rfl) ⟨Nat.zero_le _, Nat.zero_le _⟩ dX12_share_37) hH (fun H locs hH => ?_)
          obtain ⟨r_44, w_42, hq_43, hf⟩ := am_b2_some hf
          refine am_calll (r := r_44) (w' := w_42) (am_runS (n := 1) (As := [.double r_41]) (rest := []) ⟨hx, hb, hml, hown, hts⟩ hK hE hH (k_Jxe99ae_doubleToLongBits_ccdee hq_43) (am_gS am_q1925 am_q1926 am_q30 am_q1927) ⟨rfl, rfl⟩ (by decide +kernel) ⟨Nat.le_of_ble_eq_true rfl, Nat.le_of_ble_eq_true rfl⟩ rfl hl.1 rfl (Nat.le_of_ble_eq_true rfl) ⟨Nat.zero_le _, Nat.zero_le _⟩ dX12_share_40) hH (fun H locs hH => ?_)
          refine lv_goto (tgt := 49) hx hb dX12_share_43 (by decide) ?_
          exact P49 r_44 w_42 H locs ls hf hH (lv_sub hl [] rfl)

def f_X12_shelf_54 (a1 : Int32) (a2 : Int32) (s0 : Int32) (w : am_S) : Option (Int32 × am_S) :=
  some (s0, w)
def f_X12_shelf_53 (a1 : Int32) (a2 : Int32) (w : am_S) : Option (Int32 × am_S) :=
  f_X12_shelf_54 a1 a2 (-1 : Int32) w
def f_X12_shelf (a1 : Int32) (a2 : Int32) (w : am_S) : Option (Int32 × am_S) :=
  am_b2 (f_X12_isField w) fun r_23 w_21 => if r_23 = 0 then (f_X12_shelf_53 a1 a2 w_21) else (am_b2 (f_X12_in a1 (0 : Int32) (2 : Int32) w_21) fun r_27 w_25 => if r_27 = 0 then (f_X12_shelf_53 a1 a2 w_25) else (am_b2 (f_X12_shelfAt a1 w_25) fun r_31 w_29 => am_chk r_31 245 (am_b2 (f_X12_in a2 (0 : Int32) ((w_29.1 281 r_31.toNatClampNeg) - (1 : Int32)) w_29) fun r_35 w_33 => if r_35 = 0 then (f_X12_shelf_53 a1 a2 w_33) else (am_b2 (f_X12_shelfAt a1 w_33) fun r_39 w_37 => am_chk ((r_39 + (1 : Int32)) + a2) 245 (f_X12_shelf_54 a1 a2 (w_37.1 281 ((r_39 + (1 : Int32)) + a2).toNatClampNeg) w_37)))))
set_option maxRecDepth 100000 in
set_option maxHeartbeats 4000000 in
theorem k_X12_shelf {G : am_G} {l : Launch} {a1 : Int32} {a2 : Int32}  {w : am_S} {rr : Int32} {ww : am_S} (hf : f_X12_shelf a1 a2 w = some (rr, ww)) : am_Mi G l yX12_shelf (Cond.code yX12_shelf cX12_shelf 3 (some .int) :: am_T) { frames := 1, cells := 0, slots := 0, locals := 64 } [.ref (G.1 + 271), .int a1, .int a2] w rr ww := by
  refine Met.ofW (cc := cX12_shelf) (maxL := 3) (ret := (some .int)) (by decide) rfl ?_
  intro p e s m args below meth c s₁ B hml hv
  obtain ⟨rfl, hx, hb, hr, hts, hown, hlocks, hK, hE, hH⟩ := am_begin B hv
  have hown : s.vm.findClass RX12 = some m.cls := hown
  show W p l e { frames := 1, cells := 0, slots := 0, locals := 64 } s m _ below meth c s.heap [] 0 0 _ _
  have P54 : ∀ (s0 : Int32) (w : am_S) (H : Heap) (locs : List Loc) (ls : Array Slot), f_X12_shelf_54 a1 a2 s0 w = some (rr, ww) → am_H G w s H locs → lv_has ls 3 [] → W p l e { frames := 1, cells := 0, slots := 0, locals := 64 } s m [.ref (G.1 + 271), .int a1, .int a2].toArray below meth c H locs 0 0 (MQ below (va_Qi (fun (x : Int32) (u : am_S) => x = rr ∧ u = ww) (am_U G) (am_A G)) [.ref (G.1 + 271), .int a1, .int a2].toArray s 0 0 (am_A G)) (F0 m 54 ls [.int s0]) := by
    intro s0 w H locs ls hf hH hl
    unfold f_X12_shelf_54 at hf
    exact am_reti hx hb hr hlocks hH hf dX12_shelf_54
  have P53 : ∀ (w : am_S) (H : Heap) (locs : List Loc) (ls : Array Slot), f_X12_shelf_53 a1 a2 w = some (rr, ww) → am_H G w s H locs → lv_has ls 3 [] → W p l e { frames := 1, cells := 0, slots := 0, locals := 64 } s m [.ref (G.1 + 271), .int a1, .int a2].toArray below meth c H locs 0 0 (MQ below (va_Qi (fun (x : Int32) (u : am_S) => x = rr ∧ u = ww) (am_U G) (am_A G)) [.ref (G.1 + 271), .int a1, .int a2].toArray s 0 0 (am_A G)) (F0 m 53 ls []) := by
    intro w H locs ls hf hH hl
    unfold f_X12_shelf_53 at hf
    refine lv_iconst (v := -1) hx hb dX12_shelf_53 (by decide) ?_
    exact P54 (-1 : Int32) w H locs ls hf hH (lv_sub hl [] rfl)
  refine am_enter (lv := [(0, .ref (G.1 + 271)), (1, .int a1), (2, .int a2)]) (Nat.le_of_ble_eq_true rfl) rfl (fun ls hl => ?_)
  unfold f_X12_shelf at hf
  refine am_start hH (fun H locs hH => ?_)
  refine lv_aload_n hx hb dX12_shelf_0 rfl (lv_at hl 0 rfl) ?_
  obtain ⟨r_23, w_21, hq_22, hf⟩ := am_b2_some hf
  refine am_calli (r := r_23) (w' := w_21) (am_runV (n := 0) (As := []) (rest := []) ⟨hx, hb, hml, hown, hts⟩ hK hE hH (k_X12_isField hq_22) (am_gV am_q1514 am_q1516 am_qs59 am_q13 am_q1517) (am_o12 (p := 271) (by decide +kernel)) rfl ⟨rfl, rfl⟩ (by decide +kernel) ⟨Nat.le_of_ble_eq_true rfl, Nat.le_of_ble_eq_true rfl⟩ rfl hl.1 rfl (Nat.le_of_ble_eq_true rfl) ⟨Nat.zero_le _, Nat.zero_le _⟩ dX12_shelf_1) hH (fun H locs hH => ?_)
  refine lv_if_eq (tgt := 53) hx hb dX12_shelf_4 (by decide) (fun hc_24 => ?_) (fun hc_24 => ?_)
  · have hf := (if_pos hc_24).symm.trans hf
    exact P53 w_21 H locs ls hf hH (lv_sub hl [] rfl)
  · have hf := (if_neg hc_24).symm.trans hf
    refine lv_iload_n hx hb dX12_shelf_7 rfl (lv_at hl 1 rfl) ?_
    refine lv_iconst (v := 0) hx hb dX12_shelf_8 (by decide) ?_
    refine lv_iconst (v := 2) hx hb dX12_shelf_9 (by decide) ?_
    obtain ⟨r_27, w_25, hq_26, hf⟩ := am_b2_some hf
    refine am_calli (r := r_27) (w' := w_25) (am_runS (n := 3) (As := [.int a1, .int (0 : Int32), .int (2 : Int32)]) (rest := []) ⟨hx, hb, hml, hown, hts⟩ hK hE hH (k_X12_in hq_26) (am_gS am_q1425 am_q1426 am_q13 am_q1427) ⟨rfl, rfl⟩ (by decide +kernel) ⟨Nat.le_of_ble_eq_true rfl, Nat.le_of_ble_eq_true rfl⟩ rfl hl.1 rfl (Nat.le_of_ble_eq_true rfl) ⟨Nat.zero_le _, Nat.zero_le _⟩ dX12_shelf_10) hH (fun H locs hH => ?_)
    refine lv_if_eq (tgt := 53) hx hb dX12_shelf_13 (by decide) (fun hc_28 => ?_) (fun hc_28 => ?_)
    · have hf := (if_pos hc_28).symm.trans hf
      exact P53 w_25 H locs ls hf hH (lv_sub hl [] rfl)
    · have hf := (if_neg hc_28).symm.trans hf
      refine lv_iload_n hx hb dX12_shelf_16 rfl (lv_at hl 2 rfl) ?_
      refine lv_iconst (v := 0) hx hb dX12_shelf_17 (by decide) ?_
      refine lv_aload_n hx hb dX12_shelf_18 rfl (lv_at hl 0 rfl) ?_
      refine am_get hx hb hts hK hown hH (am_o12 (p := 271) (by decide +kernel)) rfl am_inX12 17 (by decide) am_q1336 (v := .ref (G.1 + 281)) rfl dX12_shelf_19 ?_
      refine lv_aload_n hx hb dX12_shelf_22 rfl (lv_at hl 0 rfl) ?_
      refine lv_iload_n hx hb dX12_shelf_23 rfl (lv_at hl 1 rfl) ?_
      obtain ⟨r_31, w_29, hq_30, hf⟩ := am_b2_some hf
      refine am_calli (r := r_31) (w' := w_29) (am_runV (n := 1) (As := [.int a1]) (rest := [.ref (G.1 + 281), .int (0 : Int32), .int a2]) ⟨hx, hb, hml, hown, hts⟩ hK hE hH (k_X12_shelfAt hq_30) (am_gV am_q1582 am_q1584 am_qs76 am_q13 am_q1585) (am_o12 (p := 271) (by decide +kernel)) rfl ⟨rfl, rfl⟩ (by decide +kernel) ⟨Nat.le_of_ble_eq_true rfl, Nat.le_of_ble_eq_true rfl⟩ rfl hl.1 rfl (Nat.le_of_ble_eq_true rfl) ⟨Nat.zero_le _, Nat.zero_le _⟩ dX12_shelf_24) hH (fun H locs hH => ?_)
      obtain ⟨hi_32, hf⟩ := am_chk_some hf
      refine am_iald hx hb hK hH (am_ai_of (N := 245) (by decide +kernel)) hi_32 dX12_shelf_27 ?_
      refine lv_iconst (v := 1) hx hb dX12_shelf_28 (by decide) ?_
      refine lv_isub hx hb dX12_shelf_29 ?_
      obtain ⟨r_35, w_33, hq_34, hf⟩ := am_b2_some hf
      refine am_calli (r := r_35) (w' := w_33) (am_runS (n := 3) (As := [.int a2, .int (0 : Int32), .int ((w_29.1 281 r_31.toNatClampNeg) - (1 : Int32))]) (rest := []) ⟨hx, hb, hml, hown, hts⟩ hK hE hH (k_X12_in hq_34) (am_gS am_q1425 am_q1426 am_q13 am_q1427) ⟨rfl, rfl⟩ (by decide +kernel) ⟨Nat.le_of_ble_eq_true rfl, Nat.le_of_ble_eq_true rfl⟩ rfl hl.1 rfl (Nat.le_of_ble_eq_true rfl) ⟨Nat.zero_le _, Nat.zero_le _⟩ dX12_shelf_30) hH (fun H locs hH => ?_)
      refine lv_if_eq (tgt := 53) hx hb dX12_shelf_33 (by decide) (fun hc_36 => ?_) (fun hc_36 => ?_)
      · have hf := (if_pos hc_36).symm.trans hf
        exact P53 w_33 H locs ls hf hH (lv_sub hl [] rfl)
      · have hf := (if_neg hc_36).symm.trans hf
        refine lv_aload_n hx hb dX12_shelf_36 rfl (lv_at hl 0 rfl) ?_
        refine am_get hx hb hts hK hown hH (am_o12 (p := 271) (by decide +kernel)) rfl am_inX12 17 (by decide) am_q1336 (v := .ref (G.1 + 281)) rfl dX12_shelf_37 ?_
        refine lv_aload_n hx hb dX12_shelf_40 rfl (lv_at hl 0 rfl) ?_
        refine lv_iload_n hx hb dX12_shelf_41 rfl (lv_at hl 1 rfl) ?_
        obtain ⟨r_39, w_37, hq_38, hf⟩ := am_b2_some hf
        refine am_calli (r := r_39) (w' := w_37) (am_runV (n := 1) (As := [.int a1]) (rest := [.ref (G.1 + 281)]) ⟨hx, hb, hml, hown, hts⟩ hK hE hH (k_X12_shelfAt hq_38) (am_gV am_q1582 am_q1584 am_qs76 am_q13 am_q1585) (am_o12 (p := 271) (by decide +kernel)) rfl ⟨rfl, rfl⟩ (by decide +kernel) ⟨Nat.le_of_ble_eq_true rfl, Nat.le_of_ble_eq_true rfl⟩ rfl hl.1 rfl (Nat.le_of_ble_eq_true rfl) ⟨Nat.zero_le _, Nat.zero_le _⟩ dX12_shelf_42) hH (fun H locs hH => ?_)
        refine lv_iconst (v := 1) hx hb dX12_shelf_45 (by decide) ?_
        refine lv_iadd hx hb dX12_shelf_46 ?_
        refine lv_iload_n hx hb dX12_shelf_47 rfl (lv_at hl 2 rfl) ?_
        refine lv_iadd hx hb dX12_shelf_48 ?_
        obtain ⟨hi_40, hf⟩ := am_chk_some hf
        refine am_iald hx hb hK hH (am_ai_of (N := 245) (by decide +kernel)) hi_40 dX12_shelf_49 ?_
        refine lv_goto (tgt := 54) hx hb dX12_shelf_50 (by decide) ?_
        exact P54 (w_37.1 281 ((r_39 + (1 : Int32)) + a2).toNatClampNeg) w_37 H locs ls hf hH (lv_sub hl [] rfl)

def f_X12_slide_77b (a1 : Int32) (x2 : Int32) (x3 : Int32) (w : am_S) : Option (((Int32 × am_S) ⊕ (Int32 × am_S)) ⊕ (Int32 × am_S)) :=
  if x3 = (-1 : Int32) then (am_x (am_v (x2 + (1 : Int32)) fun (x2_34 : Int32) => some (.inr (x2_34, w)))) else (am_chk x3 10 (am_v (am_pi w 288 x3.toNatClampNeg x2) fun (w_36 : am_S) => am_chk (0 : Int32) 4 (am_chk (0 : Int32) 4 (am_b2 (f_X12_peelNow ((w_36.1 276 (0 : Int32).toNatClampNeg) * x2) ((w_36.1 276 (0 : Int32).toNatClampNeg) * (x2 + a1)) w_36) fun r_41 w_39 => some (.inr (r_41, w_39))))))
def f_X12_slide_77 (a1 : Int32) (x2 : Int32) (x3 : Int32) (w : am_S) : Option ((Int32 × am_S) ⊕ (Int32 × am_S)) :=
  am_loop (fun (st : (Int32 × am_S)) => f_X12_slide_77b a1 x2 st.1 st.2) am_fuel (x3, w)
def f_X12_slide_42b (a1 : Int32) (x2 : Int32) (w : am_S) : Option ((Int32 × am_S) ⊕ (Int32 × am_S)) :=
  am_chk (1 : Int32) 4 (if (w.1 276 (1 : Int32).toNatClampNeg) < (x2 + a1) then (am_x (am_b2 (f_X12_knownSet w) fun r_47 w_45 => am_b1 (f_X12_bringBack w_45) fun w_48 => some (r_47, w_48))) else (am_chk (0 : Int32) 4 (am_chk (0 : Int32) 4 (am_b2 (f_X12_peelNow ((w.1 276 (0 : Int32).toNatClampNeg) * x2) ((w.1 276 (0 : Int32).toNatClampNeg) * (x2 + a1)) w) fun r_54 w_52 => f_X12_slide_77 a1 x2 r_54 w_52))))
def f_X12_slide_42 (a1 : Int32) (x2 : Int32) (w : am_S) : Option (Int32 × am_S) :=
  am_loop (fun (st : (Int32 × am_S)) => f_X12_slide_42b a1 st.1 st.2) am_fuel (x2, w)
def f_X12_slide_33 (a1 : Int32) (x2 : Int32) (s0 : Int32) (s1 : Int32) (w : am_S) : Option ((Int32 × am_S) ⊕ (Int32 × am_S)) :=
  am_chk s1 10 (am_v (am_pi w 288 s1.toNatClampNeg s0) fun (w_56 : am_S) => am_v (x2 + (1 : Int32)) fun (x2_57 : Int32) => some (.inr (x2_57, w_56)))
def f_X12_slide_6b (a1 : Int32) (x2 : Int32) (w : am_S) : Option ((Int32 × am_S) ⊕ (Int32 × am_S)) :=
  if (w.1 271 13) ≤ x2 then (am_x (f_X12_slide_42 a1 (0 : Int32) w)) else (am_b2 (f_X12_isUnknown x2 w) fun r_62 w_60 => if r_62 = 0 then (f_X12_slide_33 a1 x2 (-2 : Int32) x2 w_60) else (f_X12_slide_33 a1 x2 (-1 : Int32) x2 w_60))
def f_X12_slide_6 (a1 : Int32) (x2 : Int32) (w : am_S) : Option (Int32 × am_S) :=
  am_loop (fun (st : (Int32 × am_S)) => f_X12_slide_6b a1 st.1 st.2) am_fuel (x2, w)
def f_X12_slide (a1 : Int32) (w : am_S) : Option (Int32 × am_S) :=
  am_b1 (f_X12_putAside w) fun w_64 => f_X12_slide_6 a1 (0 : Int32) w_64
set_option maxRecDepth 100000 in
set_option maxHeartbeats 4000000 in
theorem k_X12_slide {G : am_G} {l : Launch} {a1 : Int32}  {w : am_S} {rr : Int32} {ww : am_S} (hf : f_X12_slide a1 w = some (rr, ww)) : am_Mi G l yX12_slide (Cond.code yX12_slide cX12_slide 4 (some .int) :: am_T) { frames := 8, cells := 0, slots := 0, locals := 512 } [.ref (G.1 + 271), .int a1] w rr ww := by
  refine Met.ofW (cc := cX12_slide) (maxL := 4) (ret := (some .int)) (by decide) rfl ?_
  intro p e s m args below meth c s₁ B hml hv
  obtain ⟨rfl, hx, hb, hr, hts, hown, hlocks, hK, hE, hH⟩ := am_begin B hv
  have hown : s.vm.findClass RX12 = some m.cls := hown
  show W p l e { frames := 8, cells := 0, slots := 0, locals := 512 } s m _ below meth c s.heap [] 0 0 _ _
  have P42 : ∀ (n1 : Nat) (x2 : Int32) (w : am_S) (H : Heap) (locs : List Loc) (ls : Array Slot), am_loop (fun (st : (Int32 × am_S)) => f_X12_slide_42b a1 st.1 st.2) n1 (x2, w) = some (rr, ww) → am_H G w s H locs → lv_has ls 4 [(0, .ref (G.1 + 271)), (1, .int a1), (2, .int x2)] → W p l e { frames := 8, cells := 0, slots := 0, locals := 512 } s m [.ref (G.1 + 271), .int a1].toArray below meth c H locs 0 0 (MQ below (va_Qi (fun (x : Int32) (u : am_S) => x = rr ∧ u = ww) (am_U G) (am_A G)) [.ref (G.1 + 271), .int a1].toArray s 0 0 (am_A G)) (F0 m 42 ls []) := by
    intro n1
    induction n1 with
    | zero =>
      intro x2 w H locs ls hf hH hl
      exact (am_loop_zero hf).elim
    | succ n1 ih1 =>
      intro x2 w H locs ls hf hH hl
      obtain ⟨z1, hf, hk1⟩ := am_loop_succ hf
      have hf : f_X12_slide_42b a1 x2 w = some z1 := hf
      have P77 : ∀ (x2 : Int32) (n2 : Nat) (x3 : Int32) (w : am_S) (z1 : ((Int32 × am_S) ⊕ (Int32 × am_S))) (H : Heap) (locs : List Loc) (ls : Array Slot), am_loop (fun (st : (Int32 × am_S)) => f_X12_slide_77b a1 x2 st.1 st.2) n2 (x3, w) = some z1 → am_lk (fun (st : (Int32 × am_S)) => f_X12_slide_42b a1 st.1 st.2) n1 (rr, ww) z1 → am_H G w s H locs → lv_has ls 4 [(0, .ref (G.1 + 271)), (1, .int a1), (2, .int x2), (3, .int x3)] → W p l e { frames := 8, cells := 0, slots := 0, locals := 512 } s m [.ref (G.1 + 271), .int a1].toArray below meth c H locs 0 0 (MQ below (va_Qi (fun (x : Int32) (u : am_S) => x = rr ∧ u = ww) (am_U G) (am_A G)) [.ref (G.1 + 271), .int a1].toArray s 0 0 (am_A G)) (F0 m 77 ls []) := by
        intro x2 n2
        induction n2 with
        | zero =>
          intro x3 w z1 H locs ls hf hk1 hH hl
          exact (am_loop_zero hf).elim
        | succ n2 ih2 =>
          intro x3 w z1 H locs ls hf hk1 hH hl
          obtain ⟨z2, hf, hk2⟩ := am_loop_succ hf
          have hf : f_X12_slide_77b a1 x2 x3 w = some z2 := hf
          unfold f_X12_slide_77b at hf
          refine lv_iload_n hx hb dX12_slide_77 rfl (lv_at hl 3 rfl) ?_
          refine lv_iconst (v := -1) hx hb dX12_slide_78 (by decide) ?_
          refine lv_icmp_eq (tgt := 115) hx hb dX12_slide_79 (by decide) (fun hc_32 => ?_) (fun hc_32 => ?_)
          · have hf := (if_pos hc_32).symm.trans hf
            obtain ⟨y_33, hf, hzy_33⟩ := am_x_some hf
            rw [hzy_33] at hk2
            have hf := hf.trans (congrArg some (show y_33 = z1 from hk2))
            obtain ⟨x2_34, hx2_34, hf⟩ := am_v_some hf
            refine lv_iinc (v := x2_34) (lv' := [(2, .int x2_34), (0, .ref (G.1 + 271)), (1, .int a1), (3, .int x3)]) hx hb dX12_slide_115 hl (k := 2) rfl (by rw [hx2_34]; rfl) (by decide) rfl (fun ls hl => ?_)
            refine lv_goto (tgt := 42) hx hb dX12_slide_118 (by decide) ?_
            obtain rfl := Option.some.inj hf
            exact ih1 x2_34 w H locs ls hk1 hH (lv_sub hl [1, 2, 0] rfl)
          · have hf := (if_neg hc_32).symm.trans hf
            refine lv_aload_n hx hb dX12_slide_82 rfl (lv_at hl 0 rfl) ?_
            refine am_get hx hb hts hK hown hH (am_o12 (p := 271) (by decide +kernel)) rfl am_inX12 27 (by decide) am_q1346 (v := .ref (G.1 + 288)) rfl dX12_slide_83 ?_
            refine lv_iload_n hx hb dX12_slide_86 rfl (lv_at hl 3 rfl) ?_
            refine lv_iload_n hx hb dX12_slide_87 rfl (lv_at hl 2 rfl) ?_
            obtain ⟨hi_35, hf⟩ := am_chk_some hf
            obtain ⟨w_36, hw_36, hf⟩ := am_v_some hf
            refine am_iast hx hb hK hH (am_ai_of (N := 10) (by decide +kernel)) hi_35 dX12_slide_88 (fun H locs hH => ?_)
            rw [← hw_36] at hH
            refine lv_aload_n hx hb dX12_slide_89 rfl (lv_at hl 0 rfl) ?_
            refine lv_aload_n hx hb dX12_slide_90 rfl (lv_at hl 0 rfl) ?_
            refine am_get hx hb hts hK hown hH (am_o12 (p := 271) (by decide +kernel)) rfl am_inX12 10 (by decide) am_q1329 (v := .ref (G.1 + 276)) rfl dX12_slide_91 ?_
            refine lv_iconst (v := 0) hx hb dX12_slide_94 (by decide) ?_
            obtain ⟨hi_37, hf⟩ := am_chk_some hf
            refine am_iald hx hb hK hH (am_ai_of (N := 4) (by decide +kernel)) hi_37 dX12_slide_95 ?_
            refine lv_iload_n hx hb dX12_slide_96 rfl (lv_at hl 2 rfl) ?_
            refine lv_imul hx hb dX12_slide_97 ?_
            refine lv_aload_n hx hb dX12_slide_98 rfl (lv_at hl 0 rfl) ?_
            refine am_get hx hb hts hK hown hH (am_o12 (p := 271) (by decide +kernel)) rfl am_inX12 10 (by decide) am_q1329 (v := .ref (G.1 + 276)) rfl dX12_slide_99 ?_
            refine lv_iconst (v := 0) hx hb dX12_slide_102 (by decide) ?_
            obtain ⟨hi_38, hf⟩ := am_chk_some hf
            refine am_iald hx hb hK hH (am_ai_of (N := 4) (by decide +kernel)) hi_38 dX12_slide_103 ?_
            refine lv_iload_n hx hb dX12_slide_104 rfl (lv_at hl 2 rfl) ?_
            refine lv_iload_n hx hb dX12_slide_105 rfl (lv_at hl 1 rfl) ?_
            refine lv_iadd hx hb dX12_slide_106 ?_
            refine lv_imul hx hb dX12_slide_107 ?_
            obtain ⟨r_41, w_39, hq_40, hf⟩ := am_b2_some hf
            refine am_calli (r := r_41) (w' := w_39) (am_runV (n := 2) (As := [.int ((w_36.1 276 (0 : Int32).toNatClampNeg) * x2), .int ((w_36.1 276 (0 : Int32).toNatClampNeg) * (x2 + a1))]) (rest := []) ⟨hx, hb, hml, hown, hts⟩ hK hE hH (k_X12_peelNow hq_40) (am_gV am_q1606 am_q1608 am_qs82 am_q13 am_q1609) (am_o12 (p := 271) (by decide +kernel)) rfl ⟨rfl, rfl⟩ (by decide +kernel) ⟨Nat.le_of_ble_eq_true rfl, Nat.le_of_ble_eq_true rfl⟩ rfl hl.1 rfl (Nat.le_of_ble_eq_true rfl) ⟨Nat.zero_le _, Nat.zero_le _⟩ dX12_slide_108) hH (fun H locs hH => ?_)
            refine lv_istore_n (lv' := [(3, .int r_41), (0, .ref (G.1 + 271)), (1, .int a1), (2, .int x2)]) hx hb dX12_slide_111 rfl hl (by decide) rfl (fun ls hl => ?_)
            refine lv_goto (tgt := 77) hx hb dX12_slide_112 (by decide) ?_
            obtain rfl := Option.some.inj hf
            exact ih2 r_41 w_39 z1 H locs ls hk2 hk1 hH (lv_sub hl [1, 2, 3, 0] rfl)
      unfold f_X12_slide_42b at hf
      refine lv_iload_n hx hb dX12_slide_42 rfl (lv_at hl 2 rfl) ?_
      refine lv_iload_n hx hb dX12_slide_43 rfl (lv_at hl 1 rfl) ?_
      refine lv_iadd hx hb dX12_slide_44 ?_
      refine lv_aload_n hx hb dX12_slide_45 rfl (lv_at hl 0 rfl) ?_
      refine am_get hx hb hts hK hown hH (am_o12 (p := 271) (by decide +kernel)) rfl am_inX12 10 (by decide) am_q1329 (v := .ref (G.1 + 276)) rfl dX12_slide_46 ?_
      refine lv_iconst (v := 1) hx hb dX12_slide_49 (by decide) ?_
      obtain ⟨hi_42, hf⟩ := am_chk_some hf
      refine am_iald hx hb hK hH (am_ai_of (N := 4) (by decide +kernel)) hi_42 dX12_slide_50 ?_
      refine lv_icmp_gt (tgt := 121) hx hb dX12_slide_51 (by decide) (fun hc_43 => ?_) (fun hc_43 => ?_)
      · have hf := (if_pos hc_43).symm.trans hf
        obtain ⟨y_44, hf, hzy_44⟩ := am_x_some hf
        rw [hzy_44] at hk1
        have hf := hf.trans (congrArg some (show y_44 = (rr, ww) from hk1))
        refine lv_aload_n hx hb dX12_slide_121 rfl (lv_at hl 0 rfl) ?_
        obtain ⟨r_47, w_45, hq_46, hf⟩ := am_b2_some hf
        refine am_calli (r := r_47) (w' := w_45) (am_runV (n := 0) (As := []) (rest := []) ⟨hx, hb, hml, hown, hts⟩ hK hE hH (k_X12_knownSet hq_46) (am_gV am_q1625 am_q1627 am_qs86 am_q13 am_q1628) (am_o12 (p := 271) (by decide +kernel)) rfl ⟨rfl, rfl⟩ (by decide +kernel) ⟨Nat.le_of_ble_eq_true rfl, Nat.le_of_ble_eq_true rfl⟩ rfl hl.1 rfl (Nat.le_of_ble_eq_true rfl) ⟨Nat.zero_le _, Nat.zero_le _⟩ dX12_slide_122) hH (fun H locs hH => ?_)
        refine lv_istore_n (lv' := [(2, .int r_47), (0, .ref (G.1 + 271)), (1, .int a1)]) hx hb dX12_slide_125 rfl hl (by decide) rfl (fun ls hl => ?_)
        refine lv_aload_n hx hb dX12_slide_126 rfl (lv_at hl 1 rfl) ?_
        obtain ⟨w_48, hq_49, hf⟩ := am_b1_some hf
        refine am_callv (w' := w_48) (am_runV (n := 0) (As := []) (rest := []) ⟨hx, hb, hml, hown, hts⟩ hK hE hH (k_X12_bringBack hq_49) (am_gV am_q1744 am_q1746 am_qs98 am_q13 am_q1747) (am_o12 (p := 271) (by decide +kernel)) rfl ⟨rfl, rfl⟩ (by decide +kernel) ⟨Nat.le_of_ble_eq_true rfl, Nat.le_of_ble_eq_true rfl⟩ rfl hl.1 rfl (Nat.le_of_ble_eq_true rfl) ⟨Nat.zero_le _, Nat.zero_le _⟩ dX12_slide_127) hH (fun H locs hH => ?_)
        refine lv_iload_n hx hb dX12_slide_130 rfl (lv_at hl 0 rfl) ?_
        exact am_reti hx hb hr hlocks hH hf dX12_slide_131
      · have hf := (if_neg hc_43).symm.trans hf
        refine lv_aload_n hx hb dX12_slide_54 rfl (lv_at hl 0 rfl) ?_
        refine lv_aload_n hx hb dX12_slide_55 rfl (lv_at hl 0 rfl) ?_
        refine am_get hx hb hts hK hown hH (am_o12 (p := 271) (by decide +kernel)) rfl am_inX12 10 (by decide) am_q1329 (v := .ref (G.1 + 276)) rfl dX12_slide_56 ?_
        refine lv_iconst (v := 0) hx hb dX12_slide_59 (by decide) ?_
        obtain ⟨hi_50, hf⟩ := am_chk_some hf
        refine am_iald hx hb hK hH (am_ai_of (N := 4) (by decide +kernel)) hi_50 dX12_slide_60 ?_
        refine lv_iload_n hx hb dX12_slide_61 rfl (lv_at hl 2 rfl) ?_
        refine lv_imul hx hb dX12_slide_62 ?_
        refine lv_aload_n hx hb dX12_slide_63 rfl (lv_at hl 0 rfl) ?_
        refine am_get hx hb hts hK hown hH (am_o12 (p := 271) (by decide +kernel)) rfl am_inX12 10 (by decide) am_q1329 (v := .ref (G.1 + 276)) rfl dX12_slide_64 ?_
        refine lv_iconst (v := 0) hx hb dX12_slide_67 (by decide) ?_
        obtain ⟨hi_51, hf⟩ := am_chk_some hf
        refine am_iald hx hb hK hH (am_ai_of (N := 4) (by decide +kernel)) hi_51 dX12_slide_68 ?_
        refine lv_iload_n hx hb dX12_slide_69 rfl (lv_at hl 2 rfl) ?_
        refine lv_iload_n hx hb dX12_slide_70 rfl (lv_at hl 1 rfl) ?_
        refine lv_iadd hx hb dX12_slide_71 ?_
        refine lv_imul hx hb dX12_slide_72 ?_
        obtain ⟨r_54, w_52, hq_53, hf⟩ := am_b2_some hf
        refine am_calli (r := r_54) (w' := w_52) (am_runV (n := 2) (As := [.int ((w.1 276 (0 : Int32).toNatClampNeg) * x2), .int ((w.1 276 (0 : Int32).toNatClampNeg) * (x2 + a1))]) (rest := []) ⟨hx, hb, hml, hown, hts⟩ hK hE hH (k_X12_peelNow hq_53) (am_gV am_q1606 am_q1608 am_qs82 am_q13 am_q1609) (am_o12 (p := 271) (by decide +kernel)) rfl ⟨rfl, rfl⟩ (by decide +kernel) ⟨Nat.le_of_ble_eq_true rfl, Nat.le_of_ble_eq_true rfl⟩ rfl hl.1 rfl (Nat.le_of_ble_eq_true rfl) ⟨Nat.zero_le _, Nat.zero_le _⟩ dX12_slide_73) hH (fun H locs hH => ?_)
        refine lv_istore_n (lv' := [(3, .int r_54), (0, .ref (G.1 + 271)), (1, .int a1), (2, .int x2)]) hx hb dX12_slide_76 rfl hl (by decide) rfl (fun ls hl => ?_)
        exact P77 x2 am_fuel r_54 w_52 z1 H locs ls hf hk1 hH (lv_sub hl [1, 2, 3, 0] rfl)
  have P6 : ∀ (n1 : Nat) (x2 : Int32) (w : am_S) (H : Heap) (locs : List Loc) (ls : Array Slot), am_loop (fun (st : (Int32 × am_S)) => f_X12_slide_6b a1 st.1 st.2) n1 (x2, w) = some (rr, ww) → am_H G w s H locs → lv_has ls 4 [(0, .ref (G.1 + 271)), (1, .int a1), (2, .int x2)] → W p l e { frames := 8, cells := 0, slots := 0, locals := 512 } s m [.ref (G.1 + 271), .int a1].toArray below meth c H locs 0 0 (MQ below (va_Qi (fun (x : Int32) (u : am_S) => x = rr ∧ u = ww) (am_U G) (am_A G)) [.ref (G.1 + 271), .int a1].toArray s 0 0 (am_A G)) (F0 m 6 ls []) := by
    intro n1
    induction n1 with
    | zero =>
      intro x2 w H locs ls hf hH hl
      exact (am_loop_zero hf).elim
    | succ n1 ih1 =>
      intro x2 w H locs ls hf hH hl
      obtain ⟨z1, hf, hk1⟩ := am_loop_succ hf
      have hf : f_X12_slide_6b a1 x2 w = some z1 := hf
      have P33 : ∀ (x2 : Int32) (s0 : Int32) (s1 : Int32) (w : am_S) (z1 : ((Int32 × am_S) ⊕ (Int32 × am_S))) (H : Heap) (locs : List Loc) (ls : Array Slot), f_X12_slide_33 a1 x2 s0 s1 w = some z1 → am_lk (fun (st : (Int32 × am_S)) => f_X12_slide_6b a1 st.1 st.2) n1 (rr, ww) z1 → am_H G w s H locs → lv_has ls 4 [(0, .ref (G.1 + 271)), (1, .int a1), (2, .int x2)] → W p l e { frames := 8, cells := 0, slots := 0, locals := 512 } s m [.ref (G.1 + 271), .int a1].toArray below meth c H locs 0 0 (MQ below (va_Qi (fun (x : Int32) (u : am_S) => x = rr ∧ u = ww) (am_U G) (am_A G)) [.ref (G.1 + 271), .int a1].toArray s 0 0 (am_A G)) (F0 m 33 ls [.int s0, .int s1, .ref (G.1 + 288)]) := by
        intro x2 s0 s1 w z1 H locs ls hf hk1 hH hl
        unfold f_X12_slide_33 at hf
        obtain ⟨hi_55, hf⟩ := am_chk_some hf
        obtain ⟨w_56, hw_56, hf⟩ := am_v_some hf
        refine am_iast hx hb hK hH (am_ai_of (N := 10) (by decide +kernel)) hi_55 dX12_slide_33 (fun H locs hH => ?_)
        rw [← hw_56] at hH
        obtain ⟨x2_57, hx2_57, hf⟩ := am_v_some hf
        refine lv_iinc (v := x2_57) (lv' := [(2, .int x2_57), (0, .ref (G.1 + 271)), (1, .int a1)]) hx hb dX12_slide_34 hl (k := 2) rfl (by rw [hx2_57]; rfl) (by decide) rfl (fun ls hl => ?_)
        refine lv_goto (tgt := 6) hx hb dX12_slide_37 (by decide) ?_
        obtain rfl := Option.some.inj hf
        exact ih1 x2_57 w_56 H locs ls hk1 hH (lv_sub hl [1, 2, 0] rfl)
      unfold f_X12_slide_6b at hf
      refine lv_iload_n hx hb dX12_slide_6 rfl (lv_at hl 2 rfl) ?_
      refine lv_aload_n hx hb dX12_slide_7 rfl (lv_at hl 0 rfl) ?_
      refine am_get hx hb hts hK hown hH (am_o12 (p := 271) (by decide +kernel)) rfl am_inX12 13 (by decide) am_q1332 (v := .int (w.1 271 13)) rfl dX12_slide_8 ?_
      refine lv_icmp_ge (tgt := 40) hx hb dX12_slide_11 (by decide) (fun hc_58 => ?_) (fun hc_58 => ?_)
      · have hf := (if_pos hc_58).symm.trans hf
        obtain ⟨y_59, hf, hzy_59⟩ := am_x_some hf
        rw [hzy_59] at hk1
        have hf := hf.trans (congrArg some (show y_59 = (rr, ww) from hk1))
        refine lv_iconst (v := 0) hx hb dX12_slide_40 (by decide) ?_
        refine lv_istore_n (lv' := [(2, .int (0 : Int32)), (0, .ref (G.1 + 271)), (1, .int a1)]) hx hb dX12_slide_41 rfl hl (by decide) rfl (fun ls hl => ?_)
        exact P42 am_fuel (0 : Int32) w H locs ls hf hH (lv_sub hl [1, 2, 0] rfl)
      · have hf := (if_neg hc_58).symm.trans hf
        refine lv_aload_n hx hb dX12_slide_14 rfl (lv_at hl 0 rfl) ?_
        refine am_get hx hb hts hK hown hH (am_o12 (p := 271) (by decide +kernel)) rfl am_inX12 27 (by decide) am_q1346 (v := .ref (G.1 + 288)) rfl dX12_slide_15 ?_
        refine lv_iload_n hx hb dX12_slide_18 rfl (lv_at hl 2 rfl) ?_
        refine lv_aload_n hx hb dX12_slide_19 rfl (lv_at hl 0 rfl) ?_
        refine lv_iload_n hx hb dX12_slide_20 rfl (lv_at hl 2 rfl) ?_
        obtain ⟨r_62, w_60, hq_61, hf⟩ := am_b2_some hf
        refine am_calli (r := r_62) (w' := w_60) (am_runV (n := 1) (As := [.int x2]) (rest := [.int x2, .ref (G.1 + 288)]) ⟨hx, hb, hml, hown, hts⟩ hK hE hH (k_X12_isUnknown hq_61) (am_gV am_q1534 am_q1536 am_qs64 am_q13 am_q1537) (am_o12 (p := 271) (by decide +kernel)) rfl ⟨rfl, rfl⟩ (by decide +kernel) ⟨Nat.le_of_ble_eq_true rfl, Nat.le_of_ble_eq_true rfl⟩ rfl hl.1 rfl (Nat.le_of_ble_eq_true rfl) ⟨Nat.zero_le _, Nat.zero_le _⟩ dX12_slide_21) hH (fun H locs hH => ?_)
        refine lv_if_eq (tgt := 31) hx hb dX12_slide_24 (by decide) (fun hc_63 => ?_) (fun hc_63 => ?_)
        · have hf := (if_pos hc_63).symm.trans hf
          refine lv_bipush (v := -2) hx hb dX12_slide_31 (by decide) ?_
          exact P33 x2 (-2 : Int32) x2 w_60 z1 H locs ls hf hk1 hH (lv_sub hl [0, 1, 2] rfl)
        · have hf := (if_neg hc_63).symm.trans hf
          refine lv_iconst (v := -1) hx hb dX12_slide_27 (by decide) ?_
          refine lv_goto (tgt := 33) hx hb dX12_slide_28 (by decide) ?_
          exact P33 x2 (-1 : Int32) x2 w_60 z1 H locs ls hf hk1 hH (lv_sub hl [0, 1, 2] rfl)
  refine am_enter (lv := [(0, .ref (G.1 + 271)), (1, .int a1)]) (Nat.le_of_ble_eq_true rfl) rfl (fun ls hl => ?_)
  unfold f_X12_slide at hf
  refine am_start hH (fun H locs hH => ?_)
  refine lv_aload_n hx hb dX12_slide_0 rfl (lv_at hl 0 rfl) ?_
  obtain ⟨w_64, hq_65, hf⟩ := am_b1_some hf
  refine am_callv (w' := w_64) (am_runV (n := 0) (As := []) (rest := []) ⟨hx, hb, hml, hown, hts⟩ hK hE hH (k_X12_putAside hq_65) (am_gV am_q1740 am_q1742 am_qs97 am_q13 am_q1743) (am_o12 (p := 271) (by decide +kernel)) rfl ⟨rfl, rfl⟩ (by decide +kernel) ⟨Nat.le_of_ble_eq_true rfl, Nat.le_of_ble_eq_true rfl⟩ rfl hl.1 rfl (Nat.le_of_ble_eq_true rfl) ⟨Nat.zero_le _, Nat.zero_le _⟩ dX12_slide_1) hH (fun H locs hH => ?_)
  refine lv_iconst (v := 0) hx hb dX12_slide_4 (by decide) ?_
  refine lv_istore_n (lv' := [(2, .int (0 : Int32)), (0, .ref (G.1 + 271)), (1, .int a1)]) hx hb dX12_slide_5 rfl hl (by decide) rfl (fun ls hl => ?_)
  exact P6 am_fuel (0 : Int32) w_64 H locs ls hf hH (lv_sub hl [1, 2, 0] rfl)

def f_X12_slid_30 (a1 : Int32) (s0 : Int32) (w : am_S) : Option (Int32 × am_S) :=
  some (s0, w)
def f_X12_slid_29 (a1 : Int32) (w : am_S) : Option (Int32 × am_S) :=
  f_X12_slid_30 a1 (-1 : Int32) w
def f_X12_slid (a1 : Int32) (w : am_S) : Option (Int32 × am_S) :=
  am_b2 (f_X12_isField w) fun r_15 w_13 => if r_15 = 0 then (f_X12_slid_29 a1 w_13) else (am_chk (1 : Int32) 4 (am_b2 (f_X12_in a1 (1 : Int32) (w_13.1 276 (1 : Int32).toNatClampNeg) w_13) fun r_20 w_18 => if r_20 = 0 then (f_X12_slid_29 a1 w_18) else (am_b2 (f_X12_slide a1 w_18) fun r_24 w_22 => f_X12_slid_30 a1 r_24 w_22)))
set_option maxRecDepth 100000 in
set_option maxHeartbeats 4000000 in
theorem k_X12_slid {G : am_G} {l : Launch} {a1 : Int32}  {w : am_S} {rr : Int32} {ww : am_S} (hf : f_X12_slid a1 w = some (rr, ww)) : am_Mi G l yX12_slid (Cond.code yX12_slid cX12_slid 2 (some .int) :: am_T) { frames := 9, cells := 0, slots := 0, locals := 576 } [.ref (G.1 + 271), .int a1] w rr ww := by
  refine Met.ofW (cc := cX12_slid) (maxL := 2) (ret := (some .int)) (by decide) rfl ?_
  intro p e s m args below meth c s₁ B hml hv
  obtain ⟨rfl, hx, hb, hr, hts, hown, hlocks, hK, hE, hH⟩ := am_begin B hv
  have hown : s.vm.findClass RX12 = some m.cls := hown
  show W p l e { frames := 9, cells := 0, slots := 0, locals := 576 } s m _ below meth c s.heap [] 0 0 _ _
  have P30 : ∀ (s0 : Int32) (w : am_S) (H : Heap) (locs : List Loc) (ls : Array Slot), f_X12_slid_30 a1 s0 w = some (rr, ww) → am_H G w s H locs → lv_has ls 2 [] → W p l e { frames := 9, cells := 0, slots := 0, locals := 576 } s m [.ref (G.1 + 271), .int a1].toArray below meth c H locs 0 0 (MQ below (va_Qi (fun (x : Int32) (u : am_S) => x = rr ∧ u = ww) (am_U G) (am_A G)) [.ref (G.1 + 271), .int a1].toArray s 0 0 (am_A G)) (F0 m 30 ls [.int s0]) := by
    intro s0 w H locs ls hf hH hl
    unfold f_X12_slid_30 at hf
    exact am_reti hx hb hr hlocks hH hf dX12_slid_30
  have P29 : ∀ (w : am_S) (H : Heap) (locs : List Loc) (ls : Array Slot), f_X12_slid_29 a1 w = some (rr, ww) → am_H G w s H locs → lv_has ls 2 [] → W p l e { frames := 9, cells := 0, slots := 0, locals := 576 } s m [.ref (G.1 + 271), .int a1].toArray below meth c H locs 0 0 (MQ below (va_Qi (fun (x : Int32) (u : am_S) => x = rr ∧ u = ww) (am_U G) (am_A G)) [.ref (G.1 + 271), .int a1].toArray s 0 0 (am_A G)) (F0 m 29 ls []) := by
    intro w H locs ls hf hH hl
    unfold f_X12_slid_29 at hf
    refine lv_iconst (v := -1) hx hb dX12_slid_29 (by decide) ?_
    exact P30 (-1 : Int32) w H locs ls hf hH (lv_sub hl [] rfl)
  refine am_enter (lv := [(0, .ref (G.1 + 271)), (1, .int a1)]) (Nat.le_of_ble_eq_true rfl) rfl (fun ls hl => ?_)
  unfold f_X12_slid at hf
  refine am_start hH (fun H locs hH => ?_)
  refine lv_aload_n hx hb dX12_slid_0 rfl (lv_at hl 0 rfl) ?_
  obtain ⟨r_15, w_13, hq_14, hf⟩ := am_b2_some hf
  refine am_calli (r := r_15) (w' := w_13) (am_runV (n := 0) (As := []) (rest := []) ⟨hx, hb, hml, hown, hts⟩ hK hE hH (k_X12_isField hq_14) (am_gV am_q1514 am_q1516 am_qs59 am_q13 am_q1517) (am_o12 (p := 271) (by decide +kernel)) rfl ⟨rfl, rfl⟩ (by decide +kernel) ⟨Nat.le_of_ble_eq_true rfl, Nat.le_of_ble_eq_true rfl⟩ rfl hl.1 rfl (Nat.le_of_ble_eq_true rfl) ⟨Nat.zero_le _, Nat.zero_le _⟩ dX12_slid_1) hH (fun H locs hH => ?_)
  refine lv_if_eq (tgt := 29) hx hb dX12_slid_4 (by decide) (fun hc_16 => ?_) (fun hc_16 => ?_)
  · have hf := (if_pos hc_16).symm.trans hf
    exact P29 w_13 H locs ls hf hH (lv_sub hl [] rfl)
  · have hf := (if_neg hc_16).symm.trans hf
    refine lv_iload_n hx hb dX12_slid_7 rfl (lv_at hl 1 rfl) ?_
    refine lv_iconst (v := 1) hx hb dX12_slid_8 (by decide) ?_
    refine lv_aload_n hx hb dX12_slid_9 rfl (lv_at hl 0 rfl) ?_
    refine am_get hx hb hts hK hown hH (am_o12 (p := 271) (by decide +kernel)) rfl am_inX12 10 (by decide) am_q1329 (v := .ref (G.1 + 276)) rfl dX12_slid_10 ?_
    refine lv_iconst (v := 1) hx hb dX12_slid_13 (by decide) ?_
    obtain ⟨hi_17, hf⟩ := am_chk_some hf
    refine am_iald hx hb hK hH (am_ai_of (N := 4) (by decide +kernel)) hi_17 dX12_slid_14 ?_
    obtain ⟨r_20, w_18, hq_19, hf⟩ := am_b2_some hf
    refine am_calli (r := r_20) (w' := w_18) (am_runS (n := 3) (As := [.int a1, .int (1 : Int32), .int (w_13.1 276 (1 : Int32).toNatClampNeg)]) (rest := []) ⟨hx, hb, hml, hown, hts⟩ hK hE hH (k_X12_in hq_19) (am_gS am_q1425 am_q1426 am_q13 am_q1427) ⟨rfl, rfl⟩ (by decide +kernel) ⟨Nat.le_of_ble_eq_true rfl, Nat.le_of_ble_eq_true rfl⟩ rfl hl.1 rfl (Nat.le_of_ble_eq_true rfl) ⟨Nat.zero_le _, Nat.zero_le _⟩ dX12_slid_15) hH (fun H locs hH => ?_)
    refine lv_if_eq (tgt := 29) hx hb dX12_slid_18 (by decide) (fun hc_21 => ?_) (fun hc_21 => ?_)
    · have hf := (if_pos hc_21).symm.trans hf
      exact P29 w_18 H locs ls hf hH (lv_sub hl [] rfl)
    · have hf := (if_neg hc_21).symm.trans hf
      refine lv_aload_n hx hb dX12_slid_21 rfl (lv_at hl 0 rfl) ?_
      refine lv_iload_n hx hb dX12_slid_22 rfl (lv_at hl 1 rfl) ?_
      obtain ⟨r_24, w_22, hq_23, hf⟩ := am_b2_some hf
      refine am_calli (r := r_24) (w' := w_22) (am_runV (n := 1) (As := [.int a1]) (rest := []) ⟨hx, hb, hml, hown, hts⟩ hK hE hH (k_X12_slide hq_23) (am_gV am_q1866 am_q1868 am_qs110 am_q13 am_q1869) (am_o12 (p := 271) (by decide +kernel)) rfl ⟨rfl, rfl⟩ (by decide +kernel) ⟨Nat.le_of_ble_eq_true rfl, Nat.le_of_ble_eq_true rfl⟩ rfl hl.1 rfl (Nat.le_of_ble_eq_true rfl) ⟨Nat.zero_le _, Nat.zero_le _⟩ dX12_slid_23) hH (fun H locs hH => ?_)
      refine lv_goto (tgt := 30) hx hb dX12_slid_26 (by decide) ?_
      exact P30 r_24 w_22 H locs ls hf hH (lv_sub hl [] rfl)

def f_X12_slidAt_22 (a1 : Int32) (a2 : Int32) (w : am_S) : Option (Int32 × am_S) :=
  some ((-1 : Int32), w)
def f_X12_slidAt (a1 : Int32) (a2 : Int32) (w : am_S) : Option (Int32 × am_S) :=
  am_b2 (f_X12_isUser a1 w) fun r_16 w_14 => if r_16 = 0 then (f_X12_slidAt_22 a1 a2 w_14) else (am_chk (1 : Int32) 4 (am_b2 (f_X12_in a2 (1 : Int32) (w_14.1 276 (1 : Int32).toNatClampNeg) w_14) fun r_21 w_19 => if r_21 = 0 then (f_X12_slidAt_22 a1 a2 w_19) else (am_b2 (f_X12_slide a2 w_19) fun r_25 w_23 => am_chk a1 10 (some (w_23.1 288 a1.toNatClampNeg, w_23)))))
set_option maxRecDepth 100000 in
set_option maxHeartbeats 4000000 in
theorem k_X12_slidAt {G : am_G} {l : Launch} {a1 : Int32} {a2 : Int32}  {w : am_S} {rr : Int32} {ww : am_S} (hf : f_X12_slidAt a1 a2 w = some (rr, ww)) : am_Mi G l yX12_slidAt (Cond.code yX12_slidAt cX12_slidAt 3 (some .int) :: am_T) { frames := 9, cells := 0, slots := 0, locals := 576 } [.ref (G.1 + 271), .int a1, .int a2] w rr ww := by
  refine Met.ofW (cc := cX12_slidAt) (maxL := 3) (ret := (some .int)) (by decide) rfl ?_
  intro p e s m args below meth c s₁ B hml hv
  obtain ⟨rfl, hx, hb, hr, hts, hown, hlocks, hK, hE, hH⟩ := am_begin B hv
  have hown : s.vm.findClass RX12 = some m.cls := hown
  show W p l e { frames := 9, cells := 0, slots := 0, locals := 576 } s m _ below meth c s.heap [] 0 0 _ _
  have P22 : ∀ (w : am_S) (H : Heap) (locs : List Loc) (ls : Array Slot), f_X12_slidAt_22 a1 a2 w = some (rr, ww) → am_H G w s H locs → lv_has ls 3 [] → W p l e { frames := 9, cells := 0, slots := 0, locals := 576 } s m [.ref (G.1 + 271), .int a1, .int a2].toArray below meth c H locs 0 0 (MQ below (va_Qi (fun (x : Int32) (u : am_S) => x = rr ∧ u = ww) (am_U G) (am_A G)) [.ref (G.1 + 271), .int a1, .int a2].toArray s 0 0 (am_A G)) (F0 m 22 ls []) := by
    intro w H locs ls hf hH hl
    unfold f_X12_slidAt_22 at hf
    refine lv_iconst (v := -1) hx hb dX12_slidAt_22 (by decide) ?_
    exact am_reti hx hb hr hlocks hH hf dX12_slidAt_23
  refine am_enter (lv := [(0, .ref (G.1 + 271)), (1, .int a1), (2, .int a2)]) (Nat.le_of_ble_eq_true rfl) rfl (fun ls hl => ?_)
  unfold f_X12_slidAt at hf
  refine am_start hH (fun H locs hH => ?_)
  refine lv_aload_n hx hb dX12_slidAt_0 rfl (lv_at hl 0 rfl) ?_
  refine lv_iload_n hx hb dX12_slidAt_1 rfl (lv_at hl 1 rfl) ?_
  obtain ⟨r_16, w_14, hq_15, hf⟩ := am_b2_some hf
  refine am_calli (r := r_16) (w' := w_14) (am_runV (n := 1) (As := [.int a1]) (rest := []) ⟨hx, hb, hml, hown, hts⟩ hK hE hH (k_X12_isUser hq_15) (am_gV am_q1554 am_q1556 am_qs69 am_q13 am_q1557) (am_o12 (p := 271) (by decide +kernel)) rfl ⟨rfl, rfl⟩ (by decide +kernel) ⟨Nat.le_of_ble_eq_true rfl, Nat.le_of_ble_eq_true rfl⟩ rfl hl.1 rfl (Nat.le_of_ble_eq_true rfl) ⟨Nat.zero_le _, Nat.zero_le _⟩ dX12_slidAt_2) hH (fun H locs hH => ?_)
  refine lv_if_eq (tgt := 22) hx hb dX12_slidAt_5 (by decide) (fun hc_17 => ?_) (fun hc_17 => ?_)
  · have hf := (if_pos hc_17).symm.trans hf
    exact P22 w_14 H locs ls hf hH (lv_sub hl [] rfl)
  · have hf := (if_neg hc_17).symm.trans hf
    refine lv_iload_n hx hb dX12_slidAt_8 rfl (lv_at hl 2 rfl) ?_
    refine lv_iconst (v := 1) hx hb dX12_slidAt_9 (by decide) ?_
    refine lv_aload_n hx hb dX12_slidAt_10 rfl (lv_at hl 0 rfl) ?_
    refine am_get hx hb hts hK hown hH (am_o12 (p := 271) (by decide +kernel)) rfl am_inX12 10 (by decide) am_q1329 (v := .ref (G.1 + 276)) rfl dX12_slidAt_11 ?_
    refine lv_iconst (v := 1) hx hb dX12_slidAt_14 (by decide) ?_
    obtain ⟨hi_18, hf⟩ := am_chk_some hf
    refine am_iald hx hb hK hH (am_ai_of (N := 4) (by decide +kernel)) hi_18 dX12_slidAt_15 ?_
    obtain ⟨r_21, w_19, hq_20, hf⟩ := am_b2_some hf
    refine am_calli (r := r_21) (w' := w_19) (am_runS (n := 3) (As := [.int a2, .int (1 : Int32), .int (w_14.1 276 (1 : Int32).toNatClampNeg)]) (rest := []) ⟨hx, hb, hml, hown, hts⟩ hK hE hH (k_X12_in hq_20) (am_gS am_q1425 am_q1426 am_q13 am_q1427) ⟨rfl, rfl⟩ (by decide +kernel) ⟨Nat.le_of_ble_eq_true rfl, Nat.le_of_ble_eq_true rfl⟩ rfl hl.1 rfl (Nat.le_of_ble_eq_true rfl) ⟨Nat.zero_le _, Nat.zero_le _⟩ dX12_slidAt_16) hH (fun H locs hH => ?_)
    refine lv_if_ne (tgt := 24) hx hb dX12_slidAt_19 (by decide) (fun hc_22 => ?_) (fun hc_22 => ?_)
    · have hf := (if_neg hc_22).symm.trans hf
      refine lv_aload_n hx hb dX12_slidAt_24 rfl (lv_at hl 0 rfl) ?_
      refine lv_iload_n hx hb dX12_slidAt_25 rfl (lv_at hl 2 rfl) ?_
      obtain ⟨r_25, w_23, hq_24, hf⟩ := am_b2_some hf
      refine am_calli (r := r_25) (w' := w_23) (am_runV (n := 1) (As := [.int a2]) (rest := []) ⟨hx, hb, hml, hown, hts⟩ hK hE hH (k_X12_slide hq_24) (am_gV am_q1866 am_q1868 am_qs110 am_q13 am_q1869) (am_o12 (p := 271) (by decide +kernel)) rfl ⟨rfl, rfl⟩ (by decide +kernel) ⟨Nat.le_of_ble_eq_true rfl, Nat.le_of_ble_eq_true rfl⟩ rfl hl.1 rfl (Nat.le_of_ble_eq_true rfl) ⟨Nat.zero_le _, Nat.zero_le _⟩ dX12_slidAt_26) hH (fun H locs hH => ?_)
      refine lv_pop hx hb dX12_slidAt_29 rfl ?_
      refine lv_aload_n hx hb dX12_slidAt_30 rfl (lv_at hl 0 rfl) ?_
      refine am_get hx hb hts hK hown hH (am_o12 (p := 271) (by decide +kernel)) rfl am_inX12 27 (by decide) am_q1346 (v := .ref (G.1 + 288)) rfl dX12_slidAt_31 ?_
      refine lv_iload_n hx hb dX12_slidAt_34 rfl (lv_at hl 1 rfl) ?_
      obtain ⟨hi_26, hf⟩ := am_chk_some hf
      refine am_iald hx hb hK hH (am_ai_of (N := 10) (by decide +kernel)) hi_26 dX12_slidAt_35 ?_
      exact am_reti hx hb hr hlocks hH hf dX12_slidAt_36
    · have hf := (if_pos hc_22).symm.trans hf
      exact P22 w_19 H locs ls hf hH (lv_sub hl [] rfl)

def f_X12_slot_17 (a1 : Int32) (a2 : Int32) (w : am_S) : Option (Int32 × am_S) :=
  some ((-1000000 : Int32), w)
def f_X12_slot_67 (a1 : Int32) (a2 : Int32) (s0 : Int32) (w : am_S) : Option (Int32 × am_S) :=
  some (s0, w)
def f_X12_slot (a1 : Int32) (a2 : Int32) (w : am_S) : Option (Int32 × am_S) :=
  am_b2 (f_X12_isSlot a1 w) fun r_29 w_27 => if r_29 = 0 then (f_X12_slot_17 a1 a2 w_27) else (am_b2 (f_X12_in a2 (0 : Int32) (3 : Int32) w_27) fun r_33 w_31 => if r_33 = 0 then (f_X12_slot_17 a1 a2 w_31) else (if a2 = 0 then (am_b2 (f_X12_copiesIn a1 w_31) fun r_52 w_50 => f_X12_slot_67 a1 a2 r_52 w_50) else (if a2 = (1 : Int32) then (am_b2 (f_X12_unknownIn a1 w_31) fun r_46 w_44 => am_b2 (f_X12_bits r_46 w_44) fun r_49 w_47 => f_X12_slot_67 a1 a2 r_49 w_47) else (if a2 = (2 : Int32) then (am_b2 (f_X12_unknownIn a1 w_31) fun r_43 w_41 => f_X12_slot_67 a1 a2 r_43 w_41) else (am_b2 (f_X12_clearIn a1 w_31) fun r_40 w_38 => f_X12_slot_67 a1 a2 r_40 w_38)))))
set_option maxRecDepth 100000 in
set_option maxHeartbeats 4000000 in
theorem k_X12_slot {G : am_G} {l : Launch} {a1 : Int32} {a2 : Int32}  {w : am_S} {rr : Int32} {ww : am_S} (hf : f_X12_slot a1 a2 w = some (rr, ww)) : am_Mi G l yX12_slot (Cond.code yX12_slot cX12_slot 3 (some .int) :: am_T) { frames := 6, cells := 0, slots := 0, locals := 384 } [.ref (G.1 + 271), .int a1, .int a2] w rr ww := by
  refine Met.ofW (cc := cX12_slot) (maxL := 3) (ret := (some .int)) (by decide) rfl ?_
  intro p e s m args below meth c s₁ B hml hv
  obtain ⟨rfl, hx, hb, hr, hts, hown, hlocks, hK, hE, hH⟩ := am_begin B hv
  have hown : s.vm.findClass RX12 = some m.cls := hown
  show W p l e { frames := 6, cells := 0, slots := 0, locals := 384 } s m _ below meth c s.heap [] 0 0 _ _
  have P17 : ∀ (w : am_S) (H : Heap) (locs : List Loc) (ls : Array Slot), f_X12_slot_17 a1 a2 w = some (rr, ww) → am_H G w s H locs → lv_has ls 3 [] → W p l e { frames := 6, cells := 0, slots := 0, locals := 384 } s m [.ref (G.1 + 271), .int a1, .int a2].toArray below meth c H locs 0 0 (MQ below (va_Qi (fun (x : Int32) (u : am_S) => x = rr ∧ u = ww) (am_U G) (am_A G)) [.ref (G.1 + 271), .int a1, .int a2].toArray s 0 0 (am_A G)) (F0 m 17 ls []) := by
    intro w H locs ls hf hH hl
    unfold f_X12_slot_17 at hf
    refine lv_ldcw (v := -1000000) hx hb hown (hts _ am_q1723) dX12_slot_17 ?_
    exact am_reti hx hb hr hlocks hH hf dX12_slot_20
  have P67 : ∀ (s0 : Int32) (w : am_S) (H : Heap) (locs : List Loc) (ls : Array Slot), f_X12_slot_67 a1 a2 s0 w = some (rr, ww) → am_H G w s H locs → lv_has ls 3 [] → W p l e { frames := 6, cells := 0, slots := 0, locals := 384 } s m [.ref (G.1 + 271), .int a1, .int a2].toArray below meth c H locs 0 0 (MQ below (va_Qi (fun (x : Int32) (u : am_S) => x = rr ∧ u = ww) (am_U G) (am_A G)) [.ref (G.1 + 271), .int a1, .int a2].toArray s 0 0 (am_A G)) (F0 m 67 ls [.int s0]) := by
    intro s0 w H locs ls hf hH hl
    unfold f_X12_slot_67 at hf
    exact am_reti hx hb hr hlocks hH hf dX12_slot_67
  refine am_enter (lv := [(0, .ref (G.1 + 271)), (1, .int a1), (2, .int a2)]) (Nat.le_of_ble_eq_true rfl) rfl (fun ls hl => ?_)
  unfold f_X12_slot at hf
  refine am_start hH (fun H locs hH => ?_)
  refine lv_aload_n hx hb dX12_slot_0 rfl (lv_at hl 0 rfl) ?_
  refine lv_iload_n hx hb dX12_slot_1 rfl (lv_at hl 1 rfl) ?_
  obtain ⟨r_29, w_27, hq_28, hf⟩ := am_b2_some hf
  refine am_calli (r := r_29) (w' := w_27) (am_runV (n := 1) (As := [.int a1]) (rest := []) ⟨hx, hb, hml, hown, hts⟩ hK hE hH (k_X12_isSlot hq_28) (am_gV am_q1558 am_q1560 am_qs70 am_q13 am_q1561) (am_o12 (p := 271) (by decide +kernel)) rfl ⟨rfl, rfl⟩ (by decide +kernel) ⟨Nat.le_of_ble_eq_true rfl, Nat.le_of_ble_eq_true rfl⟩ rfl hl.1 rfl (Nat.le_of_ble_eq_true rfl) ⟨Nat.zero_le _, Nat.zero_le _⟩ dX12_slot_2) hH (fun H locs hH => ?_)
  refine lv_if_eq (tgt := 17) hx hb dX12_slot_5 (by decide) (fun hc_30 => ?_) (fun hc_30 => ?_)
  · have hf := (if_pos hc_30).symm.trans hf
    exact P17 w_27 H locs ls hf hH (lv_sub hl [] rfl)
  · have hf := (if_neg hc_30).symm.trans hf
    refine lv_iload_n hx hb dX12_slot_8 rfl (lv_at hl 2 rfl) ?_
    refine lv_iconst (v := 0) hx hb dX12_slot_9 (by decide) ?_
    refine lv_iconst (v := 3) hx hb dX12_slot_10 (by decide) ?_
    obtain ⟨r_33, w_31, hq_32, hf⟩ := am_b2_some hf
    refine am_calli (r := r_33) (w' := w_31) (am_runS (n := 3) (As := [.int a2, .int (0 : Int32), .int (3 : Int32)]) (rest := []) ⟨hx, hb, hml, hown, hts⟩ hK hE hH (k_X12_in hq_32) (am_gS am_q1425 am_q1426 am_q13 am_q1427) ⟨rfl, rfl⟩ (by decide +kernel) ⟨Nat.le_of_ble_eq_true rfl, Nat.le_of_ble_eq_true rfl⟩ rfl hl.1 rfl (Nat.le_of_ble_eq_true rfl) ⟨Nat.zero_le _, Nat.zero_le _⟩ dX12_slot_11) hH (fun H locs hH => ?_)
    refine lv_if_ne (tgt := 21) hx hb dX12_slot_14 (by decide) (fun hc_34 => ?_) (fun hc_34 => ?_)
    · have hf := (if_neg hc_34).symm.trans hf
      refine lv_iload_n hx hb dX12_slot_21 rfl (lv_at hl 2 rfl) ?_
      refine lv_if_ne (tgt := 33) hx hb dX12_slot_22 (by decide) (fun hc_35 => ?_) (fun hc_35 => ?_)
      · have hf := (if_neg hc_35).symm.trans hf
        refine lv_iload_n hx hb dX12_slot_33 rfl (lv_at hl 2 rfl) ?_
        refine lv_iconst (v := 1) hx hb dX12_slot_34 (by decide) ?_
        refine lv_icmp_ne (tgt := 49) hx hb dX12_slot_35 (by decide) (fun hc_36 => ?_) (fun hc_36 => ?_)
        · have hf := (if_neg hc_36).symm.trans hf
          refine lv_iload_n hx hb dX12_slot_49 rfl (lv_at hl 2 rfl) ?_
          refine lv_iconst (v := 2) hx hb dX12_slot_50 (by decide) ?_
          refine lv_icmp_ne (tgt := 62) hx hb dX12_slot_51 (by decide) (fun hc_37 => ?_) (fun hc_37 => ?_)
          · have hf := (if_neg hc_37).symm.trans hf
            refine lv_aload_n hx hb dX12_slot_62 rfl (lv_at hl 0 rfl) ?_
            refine lv_iload_n hx hb dX12_slot_63 rfl (lv_at hl 1 rfl) ?_
            obtain ⟨r_40, w_38, hq_39, hf⟩ := am_b2_some hf
            refine am_calli (r := r_40) (w' := w_38) (am_runV (n := 1) (As := [.int a1]) (rest := []) ⟨hx, hb, hml, hown, hts⟩ hK hE hH (k_X12_clearIn hq_39) (am_gV am_q1526 am_q1528 am_qs62 am_q13 am_q1529) (am_o12 (p := 271) (by decide +kernel)) rfl ⟨rfl, rfl⟩ (by decide +kernel) ⟨Nat.le_of_ble_eq_true rfl, Nat.le_of_ble_eq_true rfl⟩ rfl hl.1 rfl (Nat.le_of_ble_eq_true rfl) ⟨Nat.zero_le _, Nat.zero_le _⟩ dX12_slot_64) hH (fun H locs hH => ?_)
            exact P67 r_40 w_38 H locs ls hf hH (lv_sub hl [] rfl)
          · have hf := (if_pos hc_37).symm.trans hf
            refine lv_aload_n hx hb dX12_slot_54 rfl (lv_at hl 0 rfl) ?_
            refine lv_iload_n hx hb dX12_slot_55 rfl (lv_at hl 1 rfl) ?_
            obtain ⟨r_43, w_41, hq_42, hf⟩ := am_b2_some hf
            refine am_calli (r := r_43) (w' := w_41) (am_runV (n := 1) (As := [.int a1]) (rest := []) ⟨hx, hb, hml, hown, hts⟩ hK hE hH (k_X12_unknownIn hq_42) (am_gV am_q1542 am_q1544 am_qs66 am_q13 am_q1545) (am_o12 (p := 271) (by decide +kernel)) rfl ⟨rfl, rfl⟩ (by decide +kernel) ⟨Nat.le_of_ble_eq_true rfl, Nat.le_of_ble_eq_true rfl⟩ rfl hl.1 rfl (Nat.le_of_ble_eq_true rfl) ⟨Nat.zero_le _, Nat.zero_le _⟩ dX12_slot_56) hH (fun H locs hH => ?_)
            refine lv_goto (tgt := 67) hx hb dX12_slot_59 (by decide) ?_
            exact P67 r_43 w_41 H locs ls hf hH (lv_sub hl [] rfl)
        · have hf := (if_pos hc_36).symm.trans hf
          refine lv_aload_n hx hb dX12_slot_38 rfl (lv_at hl 0 rfl) ?_
          refine lv_iload_n hx hb dX12_slot_39 rfl (lv_at hl 1 rfl) ?_
          obtain ⟨r_46, w_44, hq_45, hf⟩ := am_b2_some hf
          refine am_calli (r := r_46) (w' := w_44) (am_runV (n := 1) (As := [.int a1]) (rest := []) ⟨hx, hb, hml, hown, hts⟩ hK hE hH (k_X12_unknownIn hq_45) (am_gV am_q1542 am_q1544 am_qs66 am_q13 am_q1545) (am_o12 (p := 271) (by decide +kernel)) rfl ⟨rfl, rfl⟩ (by decide +kernel) ⟨Nat.le_of_ble_eq_true rfl, Nat.le_of_ble_eq_true rfl⟩ rfl hl.1 rfl (Nat.le_of_ble_eq_true rfl) ⟨Nat.zero_le _, Nat.zero_le _⟩ dX12_slot_40) hH (fun H locs hH => ?_)
          obtain ⟨r_49, w_47, hq_48, hf⟩ := am_b2_some hf
          refine am_calli (r := r_49) (w' := w_47) (am_runS (n := 1) (As := [.int r_46]) (rest := []) ⟨hx, hb, hml, hown, hts⟩ hK hE hH (k_X12_bits hq_48) (am_gS am_q1629 am_q1630 am_q13 am_q1631) ⟨rfl, rfl⟩ (by decide +kernel) ⟨Nat.le_of_ble_eq_true rfl, Nat.le_of_ble_eq_true rfl⟩ rfl hl.1 rfl (Nat.le_of_ble_eq_true rfl) ⟨Nat.zero_le _, Nat.zero_le _⟩ dX12_slot_43) hH (fun H locs hH => ?_)
          refine lv_goto (tgt := 67) hx hb dX12_slot_46 (by decide) ?_
          exact P67 r_49 w_47 H locs ls hf hH (lv_sub hl [] rfl)
      · have hf := (if_pos hc_35).symm.trans hf
        refine lv_aload_n hx hb dX12_slot_25 rfl (lv_at hl 0 rfl) ?_
        refine lv_iload_n hx hb dX12_slot_26 rfl (lv_at hl 1 rfl) ?_
        obtain ⟨r_52, w_50, hq_51, hf⟩ := am_b2_some hf
        refine am_calli (r := r_52) (w' := w_50) (am_runV (n := 1) (As := [.int a1]) (rest := []) ⟨hx, hb, hml, hown, hts⟩ hK hE hH (k_X12_copiesIn hq_51) (am_gV am_q1786 am_q1788 am_qs100 am_q13 am_q1789) (am_o12 (p := 271) (by decide +kernel)) rfl ⟨rfl, rfl⟩ (by decide +kernel) ⟨Nat.le_of_ble_eq_true rfl, Nat.le_of_ble_eq_true rfl⟩ rfl hl.1 rfl (Nat.le_of_ble_eq_true rfl) ⟨Nat.zero_le _, Nat.zero_le _⟩ dX12_slot_27) hH (fun H locs hH => ?_)
        refine lv_goto (tgt := 67) hx hb dX12_slot_30 (by decide) ?_
        exact P67 r_52 w_50 H locs ls hf hH (lv_sub hl [] rfl)
    · have hf := (if_pos hc_34).symm.trans hf
      exact P17 w_31 H locs ls hf hH (lv_sub hl [] rfl)

def f_X12_solveNow_2b  (x1 : Int32) (w : am_S) : Option ((Int32 × am_S) ⊕ (Int32 × am_S)) :=
  am_b2 (f_X12_roundNow w) fun r_8 w_6 => if r_8 ≤ 0 then (am_x (some (x1, w_6))) else (am_v (x1 + (1 : Int32)) fun (x1_11 : Int32) => some (.inr (x1_11, w_6)))
def f_X12_solveNow_2  (x1 : Int32) (w : am_S) : Option (Int32 × am_S) :=
  am_loop (fun (st : (Int32 × am_S)) => f_X12_solveNow_2b st.1 st.2) am_fuel (x1, w)
def f_X12_solveNow  (w : am_S) : Option (Int32 × am_S) :=
  f_X12_solveNow_2 (0 : Int32) w
set_option maxRecDepth 100000 in
set_option maxHeartbeats 4000000 in
theorem k_X12_solveNow {G : am_G} {l : Launch}   {w : am_S} {rr : Int32} {ww : am_S} (hf : f_X12_solveNow  w = some (rr, ww)) : am_Mi G l yX12_solveNow (Cond.code yX12_solveNow cX12_solveNow 2 (some .int) :: am_T) { frames := 7, cells := 0, slots := 0, locals := 448 } [.ref (G.1 + 271)] w rr ww := by
  refine Met.ofW (cc := cX12_solveNow) (maxL := 2) (ret := (some .int)) (by decide) rfl ?_
  intro p e s m args below meth c s₁ B hml hv
  obtain ⟨rfl, hx, hb, hr, hts, hown, hlocks, hK, hE, hH⟩ := am_begin B hv
  have hown : s.vm.findClass RX12 = some m.cls := hown
  show W p l e { frames := 7, cells := 0, slots := 0, locals := 448 } s m _ below meth c s.heap [] 0 0 _ _
  have P2 : ∀ (n1 : Nat) (x1 : Int32) (w : am_S) (H : Heap) (locs : List Loc) (ls : Array Slot), am_loop (fun (st : (Int32 × am_S)) => f_X12_solveNow_2b st.1 st.2) n1 (x1, w) = some (rr, ww) → am_H G w s H locs → lv_has ls 2 [(0, .ref (G.1 + 271)), (1, .int x1)] → W p l e { frames := 7, cells := 0, slots := 0, locals := 448 } s m [.ref (G.1 + 271)].toArray below meth c H locs 0 0 (MQ below (va_Qi (fun (x : Int32) (u : am_S) => x = rr ∧ u = ww) (am_U G) (am_A G)) [.ref (G.1 + 271)].toArray s 0 0 (am_A G)) (F0 m 2 ls []) := by
    intro n1
    induction n1 with
    | zero =>
      intro x1 w H locs ls hf hH hl
      exact (am_loop_zero hf).elim
    | succ n1 ih1 =>
      intro x1 w H locs ls hf hH hl
      obtain ⟨z1, hf, hk1⟩ := am_loop_succ hf
      have hf : f_X12_solveNow_2b x1 w = some z1 := hf
      unfold f_X12_solveNow_2b at hf
      refine lv_aload_n hx hb dX12_solveNow_2 rfl (lv_at hl 0 rfl) ?_
      obtain ⟨r_8, w_6, hq_7, hf⟩ := am_b2_some hf
      refine am_calli (r := r_8) (w' := w_6) (am_runV (n := 0) (As := []) (rest := []) ⟨hx, hb, hml, hown, hts⟩ hK hE hH (k_X12_roundNow hq_7) (am_gV am_q1617 am_q1619 am_qs84 am_q13 am_q1620) (am_o12 (p := 271) (by decide +kernel)) rfl ⟨rfl, rfl⟩ (by decide +kernel) ⟨Nat.le_of_ble_eq_true rfl, Nat.le_of_ble_eq_true rfl⟩ rfl hl.1 rfl (Nat.le_of_ble_eq_true rfl) ⟨Nat.zero_le _, Nat.zero_le _⟩ dX12_solveNow_3) hH (fun H locs hH => ?_)
      refine lv_if_le (tgt := 15) hx hb dX12_solveNow_6 (by decide) (fun hc_9 => ?_) (fun hc_9 => ?_)
      · have hf := (if_pos hc_9).symm.trans hf
        obtain ⟨y_10, hf, hzy_10⟩ := am_x_some hf
        rw [hzy_10] at hk1
        have hf := hf.trans (congrArg some (show y_10 = (rr, ww) from hk1))
        refine lv_iload_n hx hb dX12_solveNow_15 rfl (lv_at hl 1 rfl) ?_
        exact am_reti hx hb hr hlocks hH hf dX12_solveNow_16
      · have hf := (if_neg hc_9).symm.trans hf
        obtain ⟨x1_11, hx1_11, hf⟩ := am_v_some hf
        refine lv_iinc (v := x1_11) (lv' := [(1, .int x1_11), (0, .ref (G.1 + 271))]) hx hb dX12_solveNow_9 hl (k := 1) rfl (by rw [hx1_11]; rfl) (by decide) rfl (fun ls hl => ?_)
        refine lv_goto (tgt := 2) hx hb dX12_solveNow_12 (by decide) ?_
        obtain rfl := Option.some.inj hf
        exact ih1 x1_11 w_6 H locs ls hk1 hH (lv_sub hl [1, 0] rfl)
  refine am_enter (lv := [(0, .ref (G.1 + 271))]) (Nat.le_of_ble_eq_true rfl) rfl (fun ls hl => ?_)
  unfold f_X12_solveNow at hf
  refine am_start hH (fun H locs hH => ?_)
  refine lv_iconst (v := 0) hx hb dX12_solveNow_0 (by decide) ?_
  refine lv_istore_n (lv' := [(1, .int (0 : Int32)), (0, .ref (G.1 + 271))]) hx hb dX12_solveNow_1 rfl hl (by decide) rfl (fun ls hl => ?_)
  exact P2 am_fuel (0 : Int32) w H locs ls hf hH (lv_sub hl [1, 0] rfl)

def f_X12_solved_16 (a1 : Int32) (w : am_S) : Option (Int32 × am_S) :=
  some ((-1 : Int32), w)
def f_X12_solved_57 (a1 : Int32) (s0 : Int32) (w : am_S) : Option (Int32 × am_S) :=
  some (s0, w)
def f_X12_solved (a1 : Int32) (w : am_S) : Option (Int32 × am_S) :=
  am_b2 (f_X12_isField w) fun r_26 w_24 => if r_26 = 0 then (f_X12_solved_16 a1 w_24) else (am_b2 (f_X12_in a1 (0 : Int32) (2 : Int32) w_24) fun r_30 w_28 => if r_30 = 0 then (f_X12_solved_16 a1 w_28) else (am_b1 (f_X12_putAside w_28) fun w_32 => am_b2 (f_X12_solveNow w_32) fun r_36 w_34 => am_b2 (f_X12_knownSet w_34) fun r_39 w_37 => am_b1 (f_X12_bringBack w_37) fun w_40 => if a1 = 0 then (am_b2 (f_X12_bits r_39 w_40) fun r_46 w_44 => f_X12_solved_57 a1 r_46 w_44) else (if a1 = (1 : Int32) then (f_X12_solved_57 a1 r_39 w_40) else (f_X12_solved_57 a1 r_36 w_40))))
set_option maxRecDepth 100000 in
set_option maxHeartbeats 4000000 in
theorem k_X12_solved {G : am_G} {l : Launch} {a1 : Int32}  {w : am_S} {rr : Int32} {ww : am_S} (hf : f_X12_solved a1 w = some (rr, ww)) : am_Mi G l yX12_solved (Cond.code yX12_solved cX12_solved 4 (some .int) :: am_T) { frames := 8, cells := 0, slots := 0, locals := 512 } [.ref (G.1 + 271), .int a1] w rr ww := by
  refine Met.ofW (cc := cX12_solved) (maxL := 4) (ret := (some .int)) (by decide) rfl ?_
  intro p e s m args below meth c s₁ B hml hv
  obtain ⟨rfl, hx, hb, hr, hts, hown, hlocks, hK, hE, hH⟩ := am_begin B hv
  have hown : s.vm.findClass RX12 = some m.cls := hown
  show W p l e { frames := 8, cells := 0, slots := 0, locals := 512 } s m _ below meth c s.heap [] 0 0 _ _
  have P16 : ∀ (w : am_S) (H : Heap) (locs : List Loc) (ls : Array Slot), f_X12_solved_16 a1 w = some (rr, ww) → am_H G w s H locs → lv_has ls 4 [] → W p l e { frames := 8, cells := 0, slots := 0, locals := 512 } s m [.ref (G.1 + 271), .int a1].toArray below meth c H locs 0 0 (MQ below (va_Qi (fun (x : Int32) (u : am_S) => x = rr ∧ u = ww) (am_U G) (am_A G)) [.ref (G.1 + 271), .int a1].toArray s 0 0 (am_A G)) (F0 m 16 ls []) := by
    intro w H locs ls hf hH hl
    unfold f_X12_solved_16 at hf
    refine lv_iconst (v := -1) hx hb dX12_solved_16 (by decide) ?_
    exact am_reti hx hb hr hlocks hH hf dX12_solved_17
  have P57 : ∀ (s0 : Int32) (w : am_S) (H : Heap) (locs : List Loc) (ls : Array Slot), f_X12_solved_57 a1 s0 w = some (rr, ww) → am_H G w s H locs → lv_has ls 4 [] → W p l e { frames := 8, cells := 0, slots := 0, locals := 512 } s m [.ref (G.1 + 271), .int a1].toArray below meth c H locs 0 0 (MQ below (va_Qi (fun (x : Int32) (u : am_S) => x = rr ∧ u = ww) (am_U G) (am_A G)) [.ref (G.1 + 271), .int a1].toArray s 0 0 (am_A G)) (F0 m 57 ls [.int s0]) := by
    intro s0 w H locs ls hf hH hl
    unfold f_X12_solved_57 at hf
    exact am_reti hx hb hr hlocks hH hf dX12_solved_57
  refine am_enter (lv := [(0, .ref (G.1 + 271)), (1, .int a1)]) (Nat.le_of_ble_eq_true rfl) rfl (fun ls hl => ?_)
  unfold f_X12_solved at hf
  refine am_start hH (fun H locs hH => ?_)
  refine lv_aload_n hx hb dX12_solved_0 rfl (lv_at hl 0 rfl) ?_
  obtain ⟨r_26, w_24, hq_25, hf⟩ := am_b2_some hf
  refine am_calli (r := r_26) (w' := w_24) (am_runV (n := 0) (As := []) (rest := []) ⟨hx, hb, hml, hown, hts⟩ hK hE hH (k_X12_isField hq_25) (am_gV am_q1514 am_q1516 am_qs59 am_q13 am_q1517) (am_o12 (p := 271) (by decide +kernel)) rfl ⟨rfl, rfl⟩ (by decide +kernel) ⟨Nat.le_of_ble_eq_true rfl, Nat.le_of_ble_eq_true rfl⟩ rfl hl.1 rfl (Nat.le_of_ble_eq_true rfl) ⟨Nat.zero_le _, Nat.zero_le _⟩ dX12_solved_1) hH (fun H locs hH => ?_)
  refine lv_if_eq (tgt := 16) hx hb dX12_solved_4 (by decide) (fun hc_27 => ?_) (fun hc_27 => ?_)
  · have hf := (if_pos hc_27).symm.trans hf
    exact P16 w_24 H locs ls hf hH (lv_sub hl [] rfl)
  · have hf := (if_neg hc_27).symm.trans hf
    refine lv_iload_n hx hb dX12_solved_7 rfl (lv_at hl 1 rfl) ?_
    refine lv_iconst (v := 0) hx hb dX12_solved_8 (by decide) ?_
    refine lv_iconst (v := 2) hx hb dX12_solved_9 (by decide) ?_
    obtain ⟨r_30, w_28, hq_29, hf⟩ := am_b2_some hf
    refine am_calli (r := r_30) (w' := w_28) (am_runS (n := 3) (As := [.int a1, .int (0 : Int32), .int (2 : Int32)]) (rest := []) ⟨hx, hb, hml, hown, hts⟩ hK hE hH (k_X12_in hq_29) (am_gS am_q1425 am_q1426 am_q13 am_q1427) ⟨rfl, rfl⟩ (by decide +kernel) ⟨Nat.le_of_ble_eq_true rfl, Nat.le_of_ble_eq_true rfl⟩ rfl hl.1 rfl (Nat.le_of_ble_eq_true rfl) ⟨Nat.zero_le _, Nat.zero_le _⟩ dX12_solved_10) hH (fun H locs hH => ?_)
    refine lv_if_ne (tgt := 18) hx hb dX12_solved_13 (by decide) (fun hc_31 => ?_) (fun hc_31 => ?_)
    · have hf := (if_neg hc_31).symm.trans hf
      refine lv_aload_n hx hb dX12_solved_18 rfl (lv_at hl 0 rfl) ?_
      obtain ⟨w_32, hq_33, hf⟩ := am_b1_some hf
      refine am_callv (w' := w_32) (am_runV (n := 0) (As := []) (rest := []) ⟨hx, hb, hml, hown, hts⟩ hK hE hH (k_X12_putAside hq_33) (am_gV am_q1740 am_q1742 am_qs97 am_q13 am_q1743) (am_o12 (p := 271) (by decide +kernel)) rfl ⟨rfl, rfl⟩ (by decide +kernel) ⟨Nat.le_of_ble_eq_true rfl, Nat.le_of_ble_eq_true rfl⟩ rfl hl.1 rfl (Nat.le_of_ble_eq_true rfl) ⟨Nat.zero_le _, Nat.zero_le _⟩ dX12_solved_19) hH (fun H locs hH => ?_)
      refine lv_aload_n hx hb dX12_solved_22 rfl (lv_at hl 0 rfl) ?_
      obtain ⟨r_36, w_34, hq_35, hf⟩ := am_b2_some hf
      refine am_calli (r := r_36) (w' := w_34) (am_runV (n := 0) (As := []) (rest := []) ⟨hx, hb, hml, hown, hts⟩ hK hE hH (k_X12_solveNow hq_35) (am_gV am_q1834 am_q1836 am_qs107 am_q13 am_q1837) (am_o12 (p := 271) (by decide +kernel)) rfl ⟨rfl, rfl⟩ (by decide +kernel) ⟨Nat.le_of_ble_eq_true rfl, Nat.le_of_ble_eq_true rfl⟩ rfl hl.1 rfl (Nat.le_of_ble_eq_true rfl) ⟨Nat.zero_le _, Nat.zero_le _⟩ dX12_solved_23) hH (fun H locs hH => ?_)
      refine lv_istore_n (lv' := [(2, .int r_36), (0, .ref (G.1 + 271)), (1, .int a1)]) hx hb dX12_solved_26 rfl hl (by decide) rfl (fun ls hl => ?_)
      refine lv_aload_n hx hb dX12_solved_27 rfl (lv_at hl 1 rfl) ?_
      obtain ⟨r_39, w_37, hq_38, hf⟩ := am_b2_some hf
      refine am_calli (r := r_39) (w' := w_37) (am_runV (n := 0) (As := []) (rest := []) ⟨hx, hb, hml, hown, hts⟩ hK hE hH (k_X12_knownSet hq_38) (am_gV am_q1625 am_q1627 am_qs86 am_q13 am_q1628) (am_o12 (p := 271) (by decide +kernel)) rfl ⟨rfl, rfl⟩ (by decide +kernel) ⟨Nat.le_of_ble_eq_true rfl, Nat.le_of_ble_eq_true rfl⟩ rfl hl.1 rfl (Nat.le_of_ble_eq_true rfl) ⟨Nat.zero_le _, Nat.zero_le _⟩ dX12_solved_28) hH (fun H locs hH => ?_)
      refine lv_istore_n (lv' := [(3, .int r_39), (2, .int r_36), (0, .ref (G.1 + 271)), (1, .int a1)]) hx hb dX12_solved_31 rfl hl (by decide) rfl (fun ls hl => ?_)
      refine lv_aload_n hx hb dX12_solved_32 rfl (lv_at hl 2 rfl) ?_
      obtain ⟨w_40, hq_41, hf⟩ := am_b1_some hf
      refine am_callv (w' := w_40) (am_runV (n := 0) (As := []) (rest := []) ⟨hx, hb, hml, hown, hts⟩ hK hE hH (k_X12_bringBack hq_41) (am_gV am_q1744 am_q1746 am_qs98 am_q13 am_q1747) (am_o12 (p := 271) (by decide +kernel)) rfl ⟨rfl, rfl⟩ (by decide +kernel) ⟨Nat.le_of_ble_eq_true rfl, Nat.le_of_ble_eq_true rfl⟩ rfl hl.1 rfl (Nat.le_of_ble_eq_true rfl) ⟨Nat.zero_le _, Nat.zero_le _⟩ dX12_solved_33) hH (fun H locs hH => ?_)
      refine lv_iload_n hx hb dX12_solved_36 rfl (lv_at hl 3 rfl) ?_
      refine lv_if_ne (tgt := 47) hx hb dX12_solved_37 (by decide) (fun hc_42 => ?_) (fun hc_42 => ?_)
      · have hf := (if_neg hc_42).symm.trans hf
        refine lv_iload_n hx hb dX12_solved_47 rfl (lv_at hl 3 rfl) ?_
        refine lv_iconst (v := 1) hx hb dX12_solved_48 (by decide) ?_
        refine lv_icmp_ne (tgt := 56) hx hb dX12_solved_49 (by decide) (fun hc_43 => ?_) (fun hc_43 => ?_)
        · have hf := (if_neg hc_43).symm.trans hf
          refine lv_iload_n hx hb dX12_solved_56 rfl (lv_at hl 1 rfl) ?_
          exact P57 r_36 w_40 H locs ls hf hH (lv_sub hl [] rfl)
        · have hf := (if_pos hc_43).symm.trans hf
          refine lv_iload_n hx hb dX12_solved_52 rfl (lv_at hl 0 rfl) ?_
          refine lv_goto (tgt := 57) hx hb dX12_solved_53 (by decide) ?_
          exact P57 r_39 w_40 H locs ls hf hH (lv_sub hl [] rfl)
      · have hf := (if_pos hc_42).symm.trans hf
        refine lv_iload_n hx hb dX12_solved_40 rfl (lv_at hl 0 rfl) ?_
        obtain ⟨r_46, w_44, hq_45, hf⟩ := am_b2_some hf
        refine am_calli (r := r_46) (w' := w_44) (am_runS (n := 1) (As := [.int r_39]) (rest := []) ⟨hx, hb, hml, hown, hts⟩ hK hE hH (k_X12_bits hq_45) (am_gS am_q1629 am_q1630 am_q13 am_q1631) ⟨rfl, rfl⟩ (by decide +kernel) ⟨Nat.le_of_ble_eq_true rfl, Nat.le_of_ble_eq_true rfl⟩ rfl hl.1 rfl (Nat.le_of_ble_eq_true rfl) ⟨Nat.zero_le _, Nat.zero_le _⟩ dX12_solved_41) hH (fun H locs hH => ?_)
        refine lv_goto (tgt := 57) hx hb dX12_solved_44 (by decide) ?_
        exact P57 r_46 w_44 H locs ls hf hH (lv_sub hl [] rfl)
    · have hf := (if_pos hc_31).symm.trans hf
      exact P16 w_28 H locs ls hf hH (lv_sub hl [] rfl)

def f_X12_status_19 (a1 : Int32) (s0 : Int32) (w : am_S) : Option (Int32 × am_S) :=
  some (s0, w)
def f_X12_status (a1 : Int32) (w : am_S) : Option (Int32 × am_S) :=
  am_b2 (f_X12_in a1 (0 : Int32) (3 : Int32) w) fun r_8 w_6 => if r_8 = 0 then (f_X12_status_19 a1 (-1 : Int32) w_6) else (am_chk a1 4 (f_X12_status_19 a1 (w_6.1 282 a1.toNatClampNeg) w_6))
set_option maxRecDepth 100000 in
set_option maxHeartbeats 4000000 in
theorem k_X12_status {G : am_G} {l : Launch} {a1 : Int32}  {w : am_S} {rr : Int32} {ww : am_S} (hf : f_X12_status a1 w = some (rr, ww)) : am_Mi G l yX12_status (Cond.code yX12_status cX12_status 2 (some .int) :: am_T) { frames := 1, cells := 0, slots := 0, locals := 64 } [.ref (G.1 + 271), .int a1] w rr ww := by
  refine Met.ofW (cc := cX12_status) (maxL := 2) (ret := (some .int)) (by decide) rfl ?_
  intro p e s m args below meth c s₁ B hml hv
  obtain ⟨rfl, hx, hb, hr, hts, hown, hlocks, hK, hE, hH⟩ := am_begin B hv
  have hown : s.vm.findClass RX12 = some m.cls := hown
  show W p l e { frames := 1, cells := 0, slots := 0, locals := 64 } s m _ below meth c s.heap [] 0 0 _ _
  have P19 : ∀ (s0 : Int32) (w : am_S) (H : Heap) (locs : List Loc) (ls : Array Slot), f_X12_status_19 a1 s0 w = some (rr, ww) → am_H G w s H locs → lv_has ls 2 [] → W p l e { frames := 1, cells := 0, slots := 0, locals := 64 } s m [.ref (G.1 + 271), .int a1].toArray below meth c H locs 0 0 (MQ below (va_Qi (fun (x : Int32) (u : am_S) => x = rr ∧ u = ww) (am_U G) (am_A G)) [.ref (G.1 + 271), .int a1].toArray s 0 0 (am_A G)) (F0 m 19 ls [.int s0]) := by
    intro s0 w H locs ls hf hH hl
    unfold f_X12_status_19 at hf
    exact am_reti hx hb hr hlocks hH hf dX12_status_19
  refine am_enter (lv := [(0, .ref (G.1 + 271)), (1, .int a1)]) (Nat.le_of_ble_eq_true rfl) rfl (fun ls hl => ?_)
  unfold f_X12_status at hf
  refine am_start hH (fun H locs hH => ?_)
  refine lv_iload_n hx hb dX12_status_0 rfl (lv_at hl 1 rfl) ?_
  refine lv_iconst (v := 0) hx hb dX12_status_1 (by decide) ?_
  refine lv_iconst (v := 3) hx hb dX12_status_2 (by decide) ?_
  obtain ⟨r_8, w_6, hq_7, hf⟩ := am_b2_some hf
  refine am_calli (r := r_8) (w' := w_6) (am_runS (n := 3) (As := [.int a1, .int (0 : Int32), .int (3 : Int32)]) (rest := []) ⟨hx, hb, hml, hown, hts⟩ hK hE hH (k_X12_in hq_7) (am_gS am_q1425 am_q1426 am_q13 am_q1427) ⟨rfl, rfl⟩ (by decide +kernel) ⟨Nat.le_of_ble_eq_true rfl, Nat.le_of_ble_eq_true rfl⟩ rfl hl.1 rfl (Nat.le_of_ble_eq_true rfl) ⟨Nat.zero_le _, Nat.zero_le _⟩ dX12_status_3) hH (fun H locs hH => ?_)
  refine lv_if_eq (tgt := 18) hx hb dX12_status_6 (by decide) (fun hc_9 => ?_) (fun hc_9 => ?_)
  · have hf := (if_pos hc_9).symm.trans hf
    refine lv_iconst (v := -1) hx hb dX12_status_18 (by decide) ?_
    exact P19 (-1 : Int32) w_6 H locs ls hf hH (lv_sub hl [] rfl)
  · have hf := (if_neg hc_9).symm.trans hf
    refine lv_aload_n hx hb dX12_status_9 rfl (lv_at hl 0 rfl) ?_
    refine am_get hx hb hts hK hown hH (am_o12 (p := 271) (by decide +kernel)) rfl am_inX12 18 (by decide) am_q1337 (v := .ref (G.1 + 282)) rfl dX12_status_10 ?_
    refine lv_iload_n hx hb dX12_status_13 rfl (lv_at hl 1 rfl) ?_
    obtain ⟨hi_10, hf⟩ := am_chk_some hf
    refine am_iald hx hb hK hH (am_ai_of (N := 4) (by decide +kernel)) hi_10 dX12_status_14 ?_
    refine lv_goto (tgt := 19) hx hb dX12_status_15 (by decide) ?_
    exact P19 (w_6.1 282 a1.toNatClampNeg) w_6 H locs ls hf hH (lv_sub hl [] rfl)

def f_X12_step_54 (a1 : Int32) (a2 : Int32) (a3 : Int32) (s0 : Int32) (w : am_S) : Option (Int32 × am_S) :=
  some (s0, w)
def f_X12_step_51 (a1 : Int32) (a2 : Int32) (a3 : Int32) (w : am_S) : Option (Int32 × am_S) :=
  f_X12_step_54 a1 a2 a3 (-1000000 : Int32) w
def f_X12_step (a1 : Int32) (a2 : Int32) (a3 : Int32) (w : am_S) : Option (Int32 × am_S) :=
  am_b2 (f_X12_isScript a1 w) fun r_17 w_15 => if r_17 = 0 then (f_X12_step_51 a1 a2 a3 w_15) else (am_chk a1 5 (am_b2 (f_X12_in a2 (0 : Int32) ((w_15.1 280 a1.toNatClampNeg) - (1 : Int32)) w_15) fun r_22 w_20 => if r_22 = 0 then (f_X12_step_51 a1 a2 a3 w_20) else (am_b2 (f_X12_in a3 (0 : Int32) (1 : Int32) w_20) fun r_26 w_24 => if r_26 = 0 then (f_X12_step_51 a1 a2 a3 w_24) else (am_chk (((2 : Int32) * (((16 : Int32) * a1) + a2)) + a3) 160 (f_X12_step_54 a1 a2 a3 (w_24.1 279 (((2 : Int32) * (((16 : Int32) * a1) + a2)) + a3).toNatClampNeg) w_24)))))
set_option maxRecDepth 100000 in
set_option maxHeartbeats 4000000 in
theorem k_X12_step {G : am_G} {l : Launch} {a1 : Int32} {a2 : Int32} {a3 : Int32}  {w : am_S} {rr : Int32} {ww : am_S} (hf : f_X12_step a1 a2 a3 w = some (rr, ww)) : am_Mi G l yX12_step (Cond.code yX12_step cX12_step 4 (some .int) :: am_T) { frames := 2, cells := 0, slots := 0, locals := 128 } [.ref (G.1 + 271), .int a1, .int a2, .int a3] w rr ww := by
  refine Met.ofW (cc := cX12_step) (maxL := 4) (ret := (some .int)) (by decide) rfl ?_
  intro p e s m args below meth c s₁ B hml hv
  obtain ⟨rfl, hx, hb, hr, hts, hown, hlocks, hK, hE, hH⟩ := am_begin B hv
  have hown : s.vm.findClass RX12 = some m.cls := hown
  show W p l e { frames := 2, cells := 0, slots := 0, locals := 128 } s m _ below meth c s.heap [] 0 0 _ _
  have P54 : ∀ (s0 : Int32) (w : am_S) (H : Heap) (locs : List Loc) (ls : Array Slot), f_X12_step_54 a1 a2 a3 s0 w = some (rr, ww) → am_H G w s H locs → lv_has ls 4 [] → W p l e { frames := 2, cells := 0, slots := 0, locals := 128 } s m [.ref (G.1 + 271), .int a1, .int a2, .int a3].toArray below meth c H locs 0 0 (MQ below (va_Qi (fun (x : Int32) (u : am_S) => x = rr ∧ u = ww) (am_U G) (am_A G)) [.ref (G.1 + 271), .int a1, .int a2, .int a3].toArray s 0 0 (am_A G)) (F0 m 54 ls [.int s0]) := by
    intro s0 w H locs ls hf hH hl
    unfold f_X12_step_54 at hf
    exact am_reti hx hb hr hlocks hH hf dX12_step_54
  have P51 : ∀ (w : am_S) (H : Heap) (locs : List Loc) (ls : Array Slot), f_X12_step_51 a1 a2 a3 w = some (rr, ww) → am_H G w s H locs → lv_has ls 4 [] → W p l e { frames := 2, cells := 0, slots := 0, locals := 128 } s m [.ref (G.1 + 271), .int a1, .int a2, .int a3].toArray below meth c H locs 0 0 (MQ below (va_Qi (fun (x : Int32) (u : am_S) => x = rr ∧ u = ww) (am_U G) (am_A G)) [.ref (G.1 + 271), .int a1, .int a2, .int a3].toArray s 0 0 (am_A G)) (F0 m 51 ls []) := by
    intro w H locs ls hf hH hl
    unfold f_X12_step_51 at hf
    refine lv_ldcw (v := -1000000) hx hb hown (hts _ am_q1723) dX12_step_51 ?_
    exact P54 (-1000000 : Int32) w H locs ls hf hH (lv_sub hl [] rfl)
  refine am_enter (lv := [(0, .ref (G.1 + 271)), (1, .int a1), (2, .int a2), (3, .int a3)]) (Nat.le_of_ble_eq_true rfl) rfl (fun ls hl => ?_)
  unfold f_X12_step at hf
  refine am_start hH (fun H locs hH => ?_)
  refine lv_aload_n hx hb dX12_step_0 rfl (lv_at hl 0 rfl) ?_
  refine lv_iload_n hx hb dX12_step_1 rfl (lv_at hl 1 rfl) ?_
  obtain ⟨r_17, w_15, hq_16, hf⟩ := am_b2_some hf
  refine am_calli (r := r_17) (w' := w_15) (am_runV (n := 1) (As := [.int a1]) (rest := []) ⟨hx, hb, hml, hown, hts⟩ hK hE hH (k_X12_isScript hq_16) (am_gV am_q1946 am_q1948 am_qs115 am_q13 am_q1949) (am_o12 (p := 271) (by decide +kernel)) rfl ⟨rfl, rfl⟩ (by decide +kernel) ⟨Nat.le_of_ble_eq_true rfl, Nat.le_of_ble_eq_true rfl⟩ rfl hl.1 rfl (Nat.le_of_ble_eq_true rfl) ⟨Nat.zero_le _, Nat.zero_le _⟩ dX12_step_2) hH (fun H locs hH => ?_)
  refine lv_if_eq (tgt := 51) hx hb dX12_step_5 (by decide) (fun hc_18 => ?_) (fun hc_18 => ?_)
  · have hf := (if_pos hc_18).symm.trans hf
    exact P51 w_15 H locs ls hf hH (lv_sub hl [] rfl)
  · have hf := (if_neg hc_18).symm.trans hf
    refine lv_iload_n hx hb dX12_step_8 rfl (lv_at hl 2 rfl) ?_
    refine lv_iconst (v := 0) hx hb dX12_step_9 (by decide) ?_
    refine lv_aload_n hx hb dX12_step_10 rfl (lv_at hl 0 rfl) ?_
    refine am_get hx hb hts hK hown hH (am_o12 (p := 271) (by decide +kernel)) rfl am_inX12 15 (by decide) am_q1334 (v := .ref (G.1 + 280)) rfl dX12_step_11 ?_
    refine lv_iload_n hx hb dX12_step_14 rfl (lv_at hl 1 rfl) ?_
    obtain ⟨hi_19, hf⟩ := am_chk_some hf
    refine am_iald hx hb hK hH (am_ai_of (N := 5) (by decide +kernel)) hi_19 dX12_step_15 ?_
    refine lv_iconst (v := 1) hx hb dX12_step_16 (by decide) ?_
    refine lv_isub hx hb dX12_step_17 ?_
    obtain ⟨r_22, w_20, hq_21, hf⟩ := am_b2_some hf
    refine am_calli (r := r_22) (w' := w_20) (am_runS (n := 3) (As := [.int a2, .int (0 : Int32), .int ((w_15.1 280 a1.toNatClampNeg) - (1 : Int32))]) (rest := []) ⟨hx, hb, hml, hown, hts⟩ hK hE hH (k_X12_in hq_21) (am_gS am_q1425 am_q1426 am_q13 am_q1427) ⟨rfl, rfl⟩ (by decide +kernel) ⟨Nat.le_of_ble_eq_true rfl, Nat.le_of_ble_eq_true rfl⟩ rfl hl.1 rfl (Nat.le_of_ble_eq_true rfl) ⟨Nat.zero_le _, Nat.zero_le _⟩ dX12_step_18) hH (fun H locs hH => ?_)
    refine lv_if_eq (tgt := 51) hx hb dX12_step_21 (by decide) (fun hc_23 => ?_) (fun hc_23 => ?_)
    · have hf := (if_pos hc_23).symm.trans hf
      exact P51 w_20 H locs ls hf hH (lv_sub hl [] rfl)
    · have hf := (if_neg hc_23).symm.trans hf
      refine lv_iload_n hx hb dX12_step_24 rfl (lv_at hl 3 rfl) ?_
      refine lv_iconst (v := 0) hx hb dX12_step_25 (by decide) ?_
      refine lv_iconst (v := 1) hx hb dX12_step_26 (by decide) ?_
      obtain ⟨r_26, w_24, hq_25, hf⟩ := am_b2_some hf
      refine am_calli (r := r_26) (w' := w_24) (am_runS (n := 3) (As := [.int a3, .int (0 : Int32), .int (1 : Int32)]) (rest := []) ⟨hx, hb, hml, hown, hts⟩ hK hE hH (k_X12_in hq_25) (am_gS am_q1425 am_q1426 am_q13 am_q1427) ⟨rfl, rfl⟩ (by decide +kernel) ⟨Nat.le_of_ble_eq_true rfl, Nat.le_of_ble_eq_true rfl⟩ rfl hl.1 rfl (Nat.le_of_ble_eq_true rfl) ⟨Nat.zero_le _, Nat.zero_le _⟩ dX12_step_27) hH (fun H locs hH => ?_)
      refine lv_if_eq (tgt := 51) hx hb dX12_step_30 (by decide) (fun hc_27 => ?_) (fun hc_27 => ?_)
      · have hf := (if_pos hc_27).symm.trans hf
        exact P51 w_24 H locs ls hf hH (lv_sub hl [] rfl)
      · have hf := (if_neg hc_27).symm.trans hf
        refine lv_aload_n hx hb dX12_step_33 rfl (lv_at hl 0 rfl) ?_
        refine am_get hx hb hts hK hown hH (am_o12 (p := 271) (by decide +kernel)) rfl am_inX12 14 (by decide) am_q1333 (v := .ref (G.1 + 279)) rfl dX12_step_34 ?_
        refine lv_iconst (v := 2) hx hb dX12_step_37 (by decide) ?_
        refine lv_bipush (v := 16) hx hb dX12_step_38 (by decide) ?_
        refine lv_iload_n hx hb dX12_step_40 rfl (lv_at hl 1 rfl) ?_
        refine lv_imul hx hb dX12_step_41 ?_
        refine lv_iload_n hx hb dX12_step_42 rfl (lv_at hl 2 rfl) ?_
        refine lv_iadd hx hb dX12_step_43 ?_
        refine lv_imul hx hb dX12_step_44 ?_
        refine lv_iload_n hx hb dX12_step_45 rfl (lv_at hl 3 rfl) ?_
        refine lv_iadd hx hb dX12_step_46 ?_
        obtain ⟨hi_28, hf⟩ := am_chk_some hf
        refine am_iald hx hb hK hH (am_ai_of (N := 160) (by decide +kernel)) hi_28 dX12_step_47 ?_
        refine lv_goto (tgt := 54) hx hb dX12_step_48 (by decide) ?_
        exact P54 (w_24.1 279 (((2 : Int32) * (((16 : Int32) * a1) + a2)) + a3).toNatClampNeg) w_24 H locs ls hf hH (lv_sub hl [] rfl)

def f_X12_strength_21 (a1 : Int32) (s0 : Int32) (w : am_S) : Option (Int32 × am_S) :=
  some (s0, w)
def f_X12_strength (a1 : Int32) (w : am_S) : Option (Int32 × am_S) :=
  am_b2 (f_X12_isUser a1 w) fun r_11 w_9 => if r_11 = 0 then (f_X12_strength_21 a1 (-1 : Int32) w_9) else (am_chk a1 10 (am_b2 (f_Jxf58ca_floatToIntBits_5c35a (w_9.2.2 283 a1.toNatClampNeg) w_9) fun r_16 w_14 => f_X12_strength_21 a1 r_16 w_14))
set_option maxRecDepth 100000 in
set_option maxHeartbeats 4000000 in
theorem k_X12_strength {G : am_G} {l : Launch} {a1 : Int32}  {w : am_S} {rr : Int32} {ww : am_S} (hf : f_X12_strength a1 w = some (rr, ww)) : am_Mi G l yX12_strength (Cond.code yX12_strength cX12_strength 2 (some .int) :: am_T) { frames := 3, cells := 0, slots := 0, locals := 192 } [.ref (G.1 + 271), .int a1] w rr ww := by
  refine Met.ofW (cc := cX12_strength) (maxL := 2) (ret := (some .int)) (by decide) rfl ?_
  intro p e s m args below meth c s₁ B hml hv
  obtain ⟨rfl, hx, hb, hr, hts, hown, hlocks, hK, hE, hH⟩ := am_begin B hv
  have hown : s.vm.findClass RX12 = some m.cls := hown
  show W p l e { frames := 3, cells := 0, slots := 0, locals := 192 } s m _ below meth c s.heap [] 0 0 _ _
  have P21 : ∀ (s0 : Int32) (w : am_S) (H : Heap) (locs : List Loc) (ls : Array Slot), f_X12_strength_21 a1 s0 w = some (rr, ww) → am_H G w s H locs → lv_has ls 2 [] → W p l e { frames := 3, cells := 0, slots := 0, locals := 192 } s m [.ref (G.1 + 271), .int a1].toArray below meth c H locs 0 0 (MQ below (va_Qi (fun (x : Int32) (u : am_S) => x = rr ∧ u = ww) (am_U G) (am_A G)) [.ref (G.1 + 271), .int a1].toArray s 0 0 (am_A G)) (F0 m 21 ls [.int s0]) := by
    intro s0 w H locs ls hf hH hl
    unfold f_X12_strength_21 at hf
    exact am_reti hx hb hr hlocks hH hf dX12_strength_21
  refine am_enter (lv := [(0, .ref (G.1 + 271)), (1, .int a1)]) (Nat.le_of_ble_eq_true rfl) rfl (fun ls hl => ?_)
  unfold f_X12_strength at hf
  refine am_start hH (fun H locs hH => ?_)
  refine lv_aload_n hx hb dX12_strength_0 rfl (lv_at hl 0 rfl) ?_
  refine lv_iload_n hx hb dX12_strength_1 rfl (lv_at hl 1 rfl) ?_
  obtain ⟨r_11, w_9, hq_10, hf⟩ := am_b2_some hf
  refine am_calli (r := r_11) (w' := w_9) (am_runV (n := 1) (As := [.int a1]) (rest := []) ⟨hx, hb, hml, hown, hts⟩ hK hE hH (k_X12_isUser hq_10) (am_gV am_q1554 am_q1556 am_qs69 am_q13 am_q1557) (am_o12 (p := 271) (by decide +kernel)) rfl ⟨rfl, rfl⟩ (by decide +kernel) ⟨Nat.le_of_ble_eq_true rfl, Nat.le_of_ble_eq_true rfl⟩ rfl hl.1 rfl (Nat.le_of_ble_eq_true rfl) ⟨Nat.zero_le _, Nat.zero_le _⟩ dX12_strength_2) hH (fun H locs hH => ?_)
  refine lv_if_eq (tgt := 20) hx hb dX12_strength_5 (by decide) (fun hc_12 => ?_) (fun hc_12 => ?_)
  · have hf := (if_pos hc_12).symm.trans hf
    refine lv_iconst (v := -1) hx hb dX12_strength_20 (by decide) ?_
    exact P21 (-1 : Int32) w_9 H locs ls hf hH (lv_sub hl [] rfl)
  · have hf := (if_neg hc_12).symm.trans hf
    refine lv_aload_n hx hb dX12_strength_8 rfl (lv_at hl 0 rfl) ?_
    refine am_get hx hb hts hK hown hH (am_o12 (p := 271) (by decide +kernel)) rfl am_inX12 19 (by decide) am_q1338 (v := .ref (G.1 + 283)) rfl dX12_strength_9 ?_
    refine lv_iload_n hx hb dX12_strength_12 rfl (lv_at hl 1 rfl) ?_
    obtain ⟨hi_13, hf⟩ := am_chk_some hf
    refine am_fald hx hb hK hH (am_af_of (N := 10) (by decide +kernel)) hi_13 dX12_strength_13 ?_
    obtain ⟨r_16, w_14, hq_15, hf⟩ := am_b2_some hf
    refine am_calli (r := r_16) (w' := w_14) (am_runS (n := 1) (As := [.float (w_9.2.2 283 a1.toNatClampNeg)]) (rest := []) ⟨hx, hb, hml, hown, hts⟩ hK hE hH (k_Jxf58ca_floatToIntBits_5c35a hq_15) (am_gS am_q1756 am_q1757 am_q29 am_q1758) ⟨rfl, rfl⟩ (by decide +kernel) ⟨Nat.le_of_ble_eq_true rfl, Nat.le_of_ble_eq_true rfl⟩ rfl hl.1 rfl (Nat.le_of_ble_eq_true rfl) ⟨Nat.zero_le _, Nat.zero_le _⟩ dX12_strength_14) hH (fun H locs hH => ?_)
    refine lv_goto (tgt := 21) hx hb dX12_strength_17 (by decide) ?_
    exact P21 r_16 w_14 H locs ls hf hH (lv_sub hl [] rfl)

def f_X12_isFast_36 (a1 : Int32) (s0 : Int32) (w : am_S) : Option (Int32 × am_S) :=
  am_nar .boolean s0 (some (s0, w))
def f_X12_isFast_4b (a1 : Int32) (x2 : Int32) (x3 : Int32) (w : am_S) : Option ((Int32 × am_S) ⊕ (Int32 × Int32 × am_S)) :=
  am_b2 (f_X12_slotMany w) fun r_14 w_12 => if r_14 ≤ x3 then (am_x (if x2 = 0 then (f_X12_isFast_36 a1 (1 : Int32) w_12) else (f_X12_isFast_36 a1 (0 : Int32) w_12))) else (am_b2 (f_X12_clearBy x3 a1 w_12) fun r_20 w_18 => am_v (x2 ||| r_20) fun (x2_21 : Int32) => am_v (x3 + (1 : Int32)) fun (x3_22 : Int32) => some (.inr (x2_21, x3_22, w_18)))
def f_X12_isFast_4 (a1 : Int32) (x2 : Int32) (x3 : Int32) (w : am_S) : Option (Int32 × am_S) :=
  am_loop (fun (st : (Int32 × Int32 × am_S)) => f_X12_isFast_4b a1 st.1 st.2.1 st.2.2) am_fuel (x2, x3, w)
def f_X12_isFast (a1 : Int32) (w : am_S) : Option (Int32 × am_S) :=
  f_X12_isFast_4 a1 (0 : Int32) (0 : Int32) w
set_option maxRecDepth 100000 in
set_option maxHeartbeats 4000000 in
theorem k_X12_isFast {G : am_G} {l : Launch} {a1 : Int32}  {w : am_S} {rr : Int32} {ww : am_S} (hf : f_X12_isFast a1 w = some (rr, ww)) : am_Mi G l yX12_isFast (Cond.code yX12_isFast cX12_isFast 4 (some .boolean) :: am_T) { frames := 2, cells := 0, slots := 0, locals := 128 } [.ref (G.1 + 271), .int a1] w rr ww := by
  refine Met.ofW (cc := cX12_isFast) (maxL := 4) (ret := (some .boolean)) (by decide) rfl ?_
  intro p e s m args below meth c s₁ B hml hv
  obtain ⟨rfl, hx, hb, hr, hts, hown, hlocks, hK, hE, hH⟩ := am_begin B hv
  have hown : s.vm.findClass RX12 = some m.cls := hown
  show W p l e { frames := 2, cells := 0, slots := 0, locals := 128 } s m _ below meth c s.heap [] 0 0 _ _
  have P36 : ∀ (s0 : Int32) (w : am_S) (H : Heap) (locs : List Loc) (ls : Array Slot), f_X12_isFast_36 a1 s0 w = some (rr, ww) → am_H G w s H locs → lv_has ls 4 [] → W p l e { frames := 2, cells := 0, slots := 0, locals := 128 } s m [.ref (G.1 + 271), .int a1].toArray below meth c H locs 0 0 (MQ below (va_Qi (fun (x : Int32) (u : am_S) => x = rr ∧ u = ww) (am_U G) (am_A G)) [.ref (G.1 + 271), .int a1].toArray s 0 0 (am_A G)) (F0 m 36 ls [.int s0]) := by
    intro s0 w H locs ls hf hH hl
    unfold f_X12_isFast_36 at hf
    obtain ⟨hr_11, hf⟩ := am_nar_some hf
    exact am_retz hx hb hr hr_11.1 hlocks hH hf dX12_isFast_36
  have P4 : ∀ (n1 : Nat) (x2 : Int32) (x3 : Int32) (w : am_S) (H : Heap) (locs : List Loc) (ls : Array Slot), am_loop (fun (st : (Int32 × Int32 × am_S)) => f_X12_isFast_4b a1 st.1 st.2.1 st.2.2) n1 (x2, x3, w) = some (rr, ww) → am_H G w s H locs → lv_has ls 4 [(0, .ref (G.1 + 271)), (1, .int a1), (2, .int x2), (3, .int x3)] → W p l e { frames := 2, cells := 0, slots := 0, locals := 128 } s m [.ref (G.1 + 271), .int a1].toArray below meth c H locs 0 0 (MQ below (va_Qi (fun (x : Int32) (u : am_S) => x = rr ∧ u = ww) (am_U G) (am_A G)) [.ref (G.1 + 271), .int a1].toArray s 0 0 (am_A G)) (F0 m 4 ls []) := by
    intro n1
    induction n1 with
    | zero =>
      intro x2 x3 w H locs ls hf hH hl
      exact (am_loop_zero hf).elim
    | succ n1 ih1 =>
      intro x2 x3 w H locs ls hf hH hl
      obtain ⟨z1, hf, hk1⟩ := am_loop_succ hf
      have hf : f_X12_isFast_4b a1 x2 x3 w = some z1 := hf
      unfold f_X12_isFast_4b at hf
      refine lv_iload_n hx hb dX12_isFast_4 rfl (lv_at hl 3 rfl) ?_
      refine lv_aload_n hx hb dX12_isFast_5 rfl (lv_at hl 0 rfl) ?_
      obtain ⟨r_14, w_12, hq_13, hf⟩ := am_b2_some hf
      refine am_calli (r := r_14) (w' := w_12) (am_runV (n := 0) (As := []) (rest := [.int x3]) ⟨hx, hb, hml, hown, hts⟩ hK hE hH (k_X12_slotMany hq_13) (am_gV am_q1518 am_q1520 am_qs60 am_q13 am_q1521) (am_o12 (p := 271) (by decide +kernel)) rfl ⟨rfl, rfl⟩ (by decide +kernel) ⟨Nat.le_of_ble_eq_true rfl, Nat.le_of_ble_eq_true rfl⟩ rfl hl.1 rfl (Nat.le_of_ble_eq_true rfl) ⟨Nat.zero_le _, Nat.zero_le _⟩ dX12_isFast_6) hH (fun H locs hH => ?_)
      refine lv_icmp_ge (tgt := 27) hx hb dX12_isFast_9 (by decide) (fun hc_15 => ?_) (fun hc_15 => ?_)
      · have hf := (if_pos hc_15).symm.trans hf
        obtain ⟨y_16, hf, hzy_16⟩ := am_x_some hf
        rw [hzy_16] at hk1
        have hf := hf.trans (congrArg some (show y_16 = (rr, ww) from hk1))
        refine lv_iload_n hx hb dX12_isFast_27 rfl (lv_at hl 2 rfl) ?_
        refine lv_if_ne (tgt := 35) hx hb dX12_isFast_28 (by decide) (fun hc_17 => ?_) (fun hc_17 => ?_)
        · have hf := (if_neg hc_17).symm.trans hf
          refine lv_iconst (v := 0) hx hb dX12_isFast_35 (by decide) ?_
          exact P36 (0 : Int32) w_12 H locs ls hf hH (lv_sub hl [] rfl)
        · have hf := (if_pos hc_17).symm.trans hf
          refine lv_iconst (v := 1) hx hb dX12_isFast_31 (by decide) ?_
          refine lv_goto (tgt := 36) hx hb dX12_isFast_32 (by decide) ?_
          exact P36 (1 : Int32) w_12 H locs ls hf hH (lv_sub hl [] rfl)
      · have hf := (if_neg hc_15).symm.trans hf
        refine lv_iload_n hx hb dX12_isFast_12 rfl (lv_at hl 2 rfl) ?_
        refine lv_aload_n hx hb dX12_isFast_13 rfl (lv_at hl 0 rfl) ?_
        refine lv_iload_n hx hb dX12_isFast_14 rfl (lv_at hl 3 rfl) ?_
        refine lv_iload_n hx hb dX12_isFast_15 rfl (lv_at hl 1 rfl) ?_
        obtain ⟨r_20, w_18, hq_19, hf⟩ := am_b2_some hf
        refine am_calli (r := r_20) (w' := w_18) (am_runV (n := 2) (As := [.int x3, .int a1]) (rest := [.int x2]) ⟨hx, hb, hml, hown, hts⟩ hK hE hH (k_X12_clearBy hq_19) (am_gV am_q1810 am_q1812 am_qs105 am_q13 am_q1813) (am_o12 (p := 271) (by decide +kernel)) rfl ⟨rfl, rfl⟩ (by decide +kernel) ⟨Nat.le_of_ble_eq_true rfl, Nat.le_of_ble_eq_true rfl⟩ rfl hl.1 rfl (Nat.le_of_ble_eq_true rfl) ⟨Nat.zero_le _, Nat.zero_le _⟩ dX12_isFast_16) hH (fun H locs hH => ?_)
        refine lv_ior hx hb dX12_isFast_19 ?_
        obtain ⟨x2_21, hx2_21, hf⟩ := am_v_some hf
        refine am_topi hx2_21 ?_
        refine lv_istore_n (lv' := [(2, .int x2_21), (0, .ref (G.1 + 271)), (1, .int a1), (3, .int x3)]) hx hb dX12_isFast_20 rfl hl (by decide) rfl (fun ls hl => ?_)
        obtain ⟨x3_22, hx3_22, hf⟩ := am_v_some hf
        refine lv_iinc (v := x3_22) (lv' := [(3, .int x3_22), (2, .int x2_21), (0, .ref (G.1 + 271)), (1, .int a1)]) hx hb dX12_isFast_21 hl (k := 3) rfl (by rw [hx3_22]; rfl) (by decide) rfl (fun ls hl => ?_)
        refine lv_goto (tgt := 4) hx hb dX12_isFast_24 (by decide) ?_
        obtain rfl := Option.some.inj hf
        exact ih1 x2_21 x3_22 w_18 H locs ls hk1 hH (lv_sub hl [2, 3, 1, 0] rfl)
  refine am_enter (lv := [(0, .ref (G.1 + 271)), (1, .int a1)]) (Nat.le_of_ble_eq_true rfl) rfl (fun ls hl => ?_)
  unfold f_X12_isFast at hf
  refine am_start hH (fun H locs hH => ?_)
  refine lv_iconst (v := 0) hx hb dX12_isFast_0 (by decide) ?_
  refine lv_istore_n (lv' := [(2, .int (0 : Int32)), (0, .ref (G.1 + 271)), (1, .int a1)]) hx hb dX12_isFast_1 rfl hl (by decide) rfl (fun ls hl => ?_)
  refine lv_iconst (v := 0) hx hb dX12_isFast_2 (by decide) ?_
  refine lv_istore_n (lv' := [(3, .int (0 : Int32)), (2, .int (0 : Int32)), (0, .ref (G.1 + 271)), (1, .int a1)]) hx hb dX12_isFast_3 rfl hl (by decide) rfl (fun ls hl => ?_)
  exact P4 am_fuel (0 : Int32) (0 : Int32) w H locs ls hf hH (lv_sub hl [2, 3, 1, 0] rfl)

def f_X12_stuck_16 (a1 : Int32) (w : am_S) : Option (Int32 × am_S) :=
  some ((-1 : Int32), w)
def f_X12_stuck_149 (a1 : Int32) (s0 : Int32) (w : am_S) : Option (Int32 × am_S) :=
  some (s0, w)
def f_X12_stuck_111 (a1 : Int32) (x2 : Int32) (x3 : Int32) (x4 : Int32) (x5 : Int32) (x6 : Int32) (w : am_S) : Option ((Int32 × am_S) ⊕ (Int32 × Int32 × Int32 × Int32 × am_S)) :=
  am_v (x6 + (1 : Int32)) fun (x6_43 : Int32) => some (.inr (x3, x4, x5, x6_43, w))
def f_X12_stuck_106 (a1 : Int32) (x2 : Int32) (x3 : Int32) (x5 : Int32) (x6 : Int32) (s0 : Int32) (w : am_S) : Option ((Int32 × am_S) ⊕ (Int32 × Int32 × Int32 × Int32 × am_S)) :=
  am_v (x5 + (1 : Int32)) fun (x5_44 : Int32) => f_X12_stuck_111 a1 x2 x3 s0 x5_44 x6 w
def f_X12_stuck_85 (a1 : Int32) (x2 : Int32) (x4 : Int32) (x5 : Int32) (x6 : Int32) (s0 : Int32) (w : am_S) : Option ((Int32 × am_S) ⊕ (Int32 × Int32 × Int32 × Int32 × am_S)) :=
  am_b2 (f_X12_bits x6 w) fun r_47 w_45 => am_b2 (f_X12_bits x4 w_45) fun r_50 w_48 => if r_47 ≤ r_50 then (f_X12_stuck_106 a1 x2 s0 x5 x6 x4 w_48) else (f_X12_stuck_106 a1 x2 s0 x5 x6 x6 w_48)
def f_X12_stuck_79 (a1 : Int32) (x2 : Int32) (x4 : Int32) (x5 : Int32) (x6 : Int32) (w : am_S) : Option ((Int32 × am_S) ⊕ (Int32 × Int32 × Int32 × Int32 × am_S)) :=
  f_X12_stuck_85 a1 x2 x4 x5 x6 x6 w
def f_X12_stuck_38b (a1 : Int32) (x2 : Int32) (x3 : Int32) (x4 : Int32) (x5 : Int32) (x6 : Int32) (w : am_S) : Option ((Int32 × am_S) ⊕ (Int32 × Int32 × Int32 × Int32 × am_S)) :=
  if x2 < x6 then (am_x (if a1 = 0 then (am_b2 (f_X12_bits x3 w) fun r_59 w_57 => f_X12_stuck_149 a1 r_59 w_57) else (if a1 = (1 : Int32) then (f_X12_stuck_149 a1 x3 w) else (if a1 = (2 : Int32) then (f_X12_stuck_149 a1 x5 w) else (f_X12_stuck_149 a1 x4 w))))) else (if (x6 &&& (x2 ^^^ (-1 : Int32))) = 0 then (am_b2 (f_X12_isFast x6 w) fun r_63 w_61 => if r_63 = 0 then (f_X12_stuck_111 a1 x2 x3 x4 x5 x6 w_61) else (if x5 = 0 then (f_X12_stuck_79 a1 x2 x4 x5 x6 w_61) else (am_b2 (f_X12_bits x6 w_61) fun r_68 w_66 => am_b2 (f_X12_bits x3 w_66) fun r_71 w_69 => if r_71 ≤ r_68 then (f_X12_stuck_85 a1 x2 x4 x5 x6 x3 w_69) else (f_X12_stuck_79 a1 x2 x4 x5 x6 w_69)))) else (f_X12_stuck_111 a1 x2 x3 x4 x5 x6 w))
def f_X12_stuck_38 (a1 : Int32) (x2 : Int32) (x3 : Int32) (x4 : Int32) (x5 : Int32) (x6 : Int32) (w : am_S) : Option (Int32 × am_S) :=
  am_loop (fun (st : (Int32 × Int32 × Int32 × Int32 × am_S)) => f_X12_stuck_38b a1 x2 st.1 st.2.1 st.2.2.1 st.2.2.2.1 st.2.2.2.2) am_fuel (x3, x4, x5, x6, w)
def f_X12_stuck (a1 : Int32) (w : am_S) : Option (Int32 × am_S) :=
  am_b2 (f_X12_isField w) fun r_75 w_73 => if r_75 = 0 then (f_X12_stuck_16 a1 w_73) else (am_b2 (f_X12_in a1 (0 : Int32) (3 : Int32) w_73) fun r_79 w_77 => if r_79 = 0 then (f_X12_stuck_16 a1 w_77) else (am_b1 (f_X12_layOccupied w_77) fun w_81 => am_b2 (f_X12_unknownOnes w_81) fun r_85 w_83 => f_X12_stuck_38 a1 r_85 (0 : Int32) (0 : Int32) (0 : Int32) (1 : Int32) w_83))
set_option maxRecDepth 100000 in
set_option maxHeartbeats 4000000 in
theorem k_X12_stuck {G : am_G} {l : Launch} {a1 : Int32}  {w : am_S} {rr : Int32} {ww : am_S} (hf : f_X12_stuck a1 w = some (rr, ww)) : am_Mi G l yX12_stuck (Cond.code yX12_stuck cX12_stuck 7 (some .int) :: am_T) { frames := 3, cells := 0, slots := 0, locals := 192 } [.ref (G.1 + 271), .int a1] w rr ww := by
  refine Met.ofW (cc := cX12_stuck) (maxL := 7) (ret := (some .int)) (by decide) rfl ?_
  intro p e s m args below meth c s₁ B hml hv
  obtain ⟨rfl, hx, hb, hr, hts, hown, hlocks, hK, hE, hH⟩ := am_begin B hv
  have hown : s.vm.findClass RX12 = some m.cls := hown
  show W p l e { frames := 3, cells := 0, slots := 0, locals := 192 } s m _ below meth c s.heap [] 0 0 _ _
  have P16 : ∀ (w : am_S) (H : Heap) (locs : List Loc) (ls : Array Slot), f_X12_stuck_16 a1 w = some (rr, ww) → am_H G w s H locs → lv_has ls 7 [] → W p l e { frames := 3, cells := 0, slots := 0, locals := 192 } s m [.ref (G.1 + 271), .int a1].toArray below meth c H locs 0 0 (MQ below (va_Qi (fun (x : Int32) (u : am_S) => x = rr ∧ u = ww) (am_U G) (am_A G)) [.ref (G.1 + 271), .int a1].toArray s 0 0 (am_A G)) (F0 m 16 ls []) := by
    intro w H locs ls hf hH hl
    unfold f_X12_stuck_16 at hf
    refine lv_iconst (v := -1) hx hb dX12_stuck_16 (by decide) ?_
    exact am_reti hx hb hr hlocks hH hf dX12_stuck_17
  have P149 : ∀ (s0 : Int32) (w : am_S) (H : Heap) (locs : List Loc) (ls : Array Slot), f_X12_stuck_149 a1 s0 w = some (rr, ww) → am_H G w s H locs → lv_has ls 7 [] → W p l e { frames := 3, cells := 0, slots := 0, locals := 192 } s m [.ref (G.1 + 271), .int a1].toArray below meth c H locs 0 0 (MQ below (va_Qi (fun (x : Int32) (u : am_S) => x = rr ∧ u = ww) (am_U G) (am_A G)) [.ref (G.1 + 271), .int a1].toArray s 0 0 (am_A G)) (F0 m 149 ls [.int s0]) := by
    intro s0 w H locs ls hf hH hl
    unfold f_X12_stuck_149 at hf
    exact am_reti hx hb hr hlocks hH hf dX12_stuck_149
  have P38 : ∀ (x2 : Int32) (n1 : Nat) (x3 : Int32) (x4 : Int32) (x5 : Int32) (x6 : Int32) (w : am_S) (H : Heap) (locs : List Loc) (ls : Array Slot), am_loop (fun (st : (Int32 × Int32 × Int32 × Int32 × am_S)) => f_X12_stuck_38b a1 x2 st.1 st.2.1 st.2.2.1 st.2.2.2.1 st.2.2.2.2) n1 (x3, x4, x5, x6, w) = some (rr, ww) → am_H G w s H locs → lv_has ls 7 [(0, .ref (G.1 + 271)), (1, .int a1), (2, .int x2), (3, .int x3), (4, .int x4), (5, .int x5), (6, .int x6)] → W p l e { frames := 3, cells := 0, slots := 0, locals := 192 } s m [.ref (G.1 + 271), .int a1].toArray below meth c H locs 0 0 (MQ below (va_Qi (fun (x : Int32) (u : am_S) => x = rr ∧ u = ww) (am_U G) (am_A G)) [.ref (G.1 + 271), .int a1].toArray s 0 0 (am_A G)) (F0 m 38 ls []) := by
    intro x2 n1
    induction n1 with
    | zero =>
      intro x3 x4 x5 x6 w H locs ls hf hH hl
      exact (am_loop_zero hf).elim
    | succ n1 ih1 =>
      intro x3 x4 x5 x6 w H locs ls hf hH hl
      obtain ⟨z1, hf, hk1⟩ := am_loop_succ hf
      have hf : f_X12_stuck_38b a1 x2 x3 x4 x5 x6 w = some z1 := hf
      have P111 : ∀ (x3 : Int32) (x4 : Int32) (x5 : Int32) (x6 : Int32) (w : am_S) (z1 : ((Int32 × am_S) ⊕ (Int32 × Int32 × Int32 × Int32 × am_S))) (H : Heap) (locs : List Loc) (ls : Array Slot), f_X12_stuck_111 a1 x2 x3 x4 x5 x6 w = some z1 → am_lk (fun (st : (Int32 × Int32 × Int32 × Int32 × am_S)) => f_X12_stuck_38b a1 x2 st.1 st.2.1 st.2.2.1 st.2.2.2.1 st.2.2.2.2) n1 (rr, ww) z1 → am_H G w s H locs → lv_has ls 7 [(0, .ref (G.1 + 271)), (1, .int a1), (2, .int x2), (3, .int x3), (4, .int x4), (5, .int x5), (6, .int x6)] → W p l e { frames := 3, cells := 0, slots := 0, locals := 192 } s m [.ref (G.1 + 271), .int a1].toArray below meth c H locs 0 0 (MQ below (va_Qi (fun (x : Int32) (u : am_S) => x = rr ∧ u = ww) (am_U G) (am_A G)) [.ref (G.1 + 271), .int a1].toArray s 0 0 (am_A G)) (F0 m 111 ls []) := by
        intro x3 x4 x5 x6 w z1 H locs ls hf hk1 hH hl
        unfold f_X12_stuck_111 at hf
        obtain ⟨x6_43, hx6_43, hf⟩ := am_v_some hf
        refine lv_iinc (v := x6_43) (lv' := [(6, .int x6_43), (0, .ref (G.1 + 271)), (1, .int a1), (2, .int x2), (3, .int x3), (4, .int x4), (5, .int x5)]) hx hb dX12_stuck_111 hl (k := 6) rfl (by rw [hx6_43]; rfl) (by decide) rfl (fun ls hl => ?_)
        refine lv_goto (tgt := 38) hx hb dX12_stuck_114 (by decide) ?_
        obtain rfl := Option.some.inj hf
        exact ih1 x3 x4 x5 x6_43 w H locs ls hk1 hH (lv_sub hl [1, 2, 3, 4, 5, 6, 0] rfl)
      have P106 : ∀ (x3 : Int32) (x5 : Int32) (x6 : Int32) (s0 : Int32) (w : am_S) (z1 : ((Int32 × am_S) ⊕ (Int32 × Int32 × Int32 × Int32 × am_S))) (H : Heap) (locs : List Loc) (ls : Array Slot), f_X12_stuck_106 a1 x2 x3 x5 x6 s0 w = some z1 → am_lk (fun (st : (Int32 × Int32 × Int32 × Int32 × am_S)) => f_X12_stuck_38b a1 x2 st.1 st.2.1 st.2.2.1 st.2.2.2.1 st.2.2.2.2) n1 (rr, ww) z1 → am_H G w s H locs → lv_has ls 7 [(0, .ref (G.1 + 271)), (1, .int a1), (2, .int x2), (3, .int x3), (5, .int x5), (6, .int x6)] → W p l e { frames := 3, cells := 0, slots := 0, locals := 192 } s m [.ref (G.1 + 271), .int a1].toArray below meth c H locs 0 0 (MQ below (va_Qi (fun (x : Int32) (u : am_S) => x = rr ∧ u = ww) (am_U G) (am_A G)) [.ref (G.1 + 271), .int a1].toArray s 0 0 (am_A G)) (F0 m 106 ls [.int s0]) := by
        intro x3 x5 x6 s0 w z1 H locs ls hf hk1 hH hl
        unfold f_X12_stuck_106 at hf
        refine lv_istore (lv' := [(4, .int s0), (0, .ref (G.1 + 271)), (1, .int a1), (2, .int x2), (3, .int x3), (5, .int x5), (6, .int x6)]) hx hb dX12_stuck_106 hl (by decide) rfl (fun ls hl => ?_)
        obtain ⟨x5_44, hx5_44, hf⟩ := am_v_some hf
        refine lv_iinc (v := x5_44) (lv' := [(5, .int x5_44), (4, .int s0), (0, .ref (G.1 + 271)), (1, .int a1), (2, .int x2), (3, .int x3), (6, .int x6)]) hx hb dX12_stuck_108 hl (k := 5) rfl (by rw [hx5_44]; rfl) (by decide) rfl (fun ls hl => ?_)
        exact P111 x3 s0 x5_44 x6 w z1 H locs ls hf hk1 hH (lv_sub hl [2, 3, 4, 5, 1, 0, 6] rfl)
      have P85 : ∀ (x4 : Int32) (x5 : Int32) (x6 : Int32) (s0 : Int32) (w : am_S) (z1 : ((Int32 × am_S) ⊕ (Int32 × Int32 × Int32 × Int32 × am_S))) (H : Heap) (locs : List Loc) (ls : Array Slot), f_X12_stuck_85 a1 x2 x4 x5 x6 s0 w = some z1 → am_lk (fun (st : (Int32 × Int32 × Int32 × Int32 × am_S)) => f_X12_stuck_38b a1 x2 st.1 st.2.1 st.2.2.1 st.2.2.2.1 st.2.2.2.2) n1 (rr, ww) z1 → am_H G w s H locs → lv_has ls 7 [(0, .ref (G.1 + 271)), (1, .int a1), (2, .int x2), (4, .int x4), (5, .int x5), (6, .int x6)] → W p l e { frames := 3, cells := 0, slots := 0, locals := 192 } s m [.ref (G.1 + 271), .int a1].toArray below meth c H locs 0 0 (MQ below (va_Qi (fun (x : Int32) (u : am_S) => x = rr ∧ u = ww) (am_U G) (am_A G)) [.ref (G.1 + 271), .int a1].toArray s 0 0 (am_A G)) (F0 m 85 ls [.int s0]) := by
        intro x4 x5 x6 s0 w z1 H locs ls hf hk1 hH hl
        unfold f_X12_stuck_85 at hf
        refine lv_istore_n (lv' := [(3, .int s0), (0, .ref (G.1 + 271)), (1, .int a1), (2, .int x2), (4, .int x4), (5, .int x5), (6, .int x6)]) hx hb dX12_stuck_85 rfl hl (by decide) rfl (fun ls hl => ?_)
        refine lv_iload hx hb dX12_stuck_86 (lv_at hl 6 rfl) ?_
        obtain ⟨r_47, w_45, hq_46, hf⟩ := am_b2_some hf
        refine am_calli (r := r_47) (w' := w_45) (am_runS (n := 1) (As := [.int x6]) (rest := []) ⟨hx, hb, hml, hown, hts⟩ hK hE hH (k_X12_bits hq_46) (am_gS am_q1629 am_q1630 am_q13 am_q1631) ⟨rfl, rfl⟩ (by decide +kernel) ⟨Nat.le_of_ble_eq_true rfl, Nat.le_of_ble_eq_true rfl⟩ rfl hl.1 rfl (Nat.le_of_ble_eq_true rfl) ⟨Nat.zero_le _, Nat.zero_le _⟩ dX12_stuck_88) hH (fun H locs hH => ?_)
        refine lv_iload hx hb dX12_stuck_91 (lv_at hl 4 rfl) ?_
        obtain ⟨r_50, w_48, hq_49, hf⟩ := am_b2_some hf
        refine am_calli (r := r_50) (w' := w_48) (am_runS (n := 1) (As := [.int x4]) (rest := [.int r_47]) ⟨hx, hb, hml, hown, hts⟩ hK hE hH (k_X12_bits hq_49) (am_gS am_q1629 am_q1630 am_q13 am_q1631) ⟨rfl, rfl⟩ (by decide +kernel) ⟨Nat.le_of_ble_eq_true rfl, Nat.le_of_ble_eq_true rfl⟩ rfl hl.1 rfl (Nat.le_of_ble_eq_true rfl) ⟨Nat.zero_le _, Nat.zero_le _⟩ dX12_stuck_93) hH (fun H locs hH => ?_)
        refine lv_icmp_le (tgt := 104) hx hb dX12_stuck_96 (by decide) (fun hc_51 => ?_) (fun hc_51 => ?_)
        · have hf := (if_pos hc_51).symm.trans hf
          refine lv_iload hx hb dX12_stuck_104 (lv_at hl 4 rfl) ?_
          exact P106 s0 x5 x6 x4 w_48 z1 H locs ls hf hk1 hH (lv_sub hl [1, 2, 3, 0, 5, 6] rfl)
        · have hf := (if_neg hc_51).symm.trans hf
          refine lv_iload hx hb dX12_stuck_99 (lv_at hl 6 rfl) ?_
          refine lv_goto (tgt := 106) hx hb dX12_stuck_101 (by decide) ?_
          exact P106 s0 x5 x6 x6 w_48 z1 H locs ls hf hk1 hH (lv_sub hl [1, 2, 3, 0, 5, 6] rfl)
      have P79 : ∀ (x4 : Int32) (x5 : Int32) (x6 : Int32) (w : am_S) (z1 : ((Int32 × am_S) ⊕ (Int32 × Int32 × Int32 × Int32 × am_S))) (H : Heap) (locs : List Loc) (ls : Array Slot), f_X12_stuck_79 a1 x2 x4 x5 x6 w = some z1 → am_lk (fun (st : (Int32 × Int32 × Int32 × Int32 × am_S)) => f_X12_stuck_38b a1 x2 st.1 st.2.1 st.2.2.1 st.2.2.2.1 st.2.2.2.2) n1 (rr, ww) z1 → am_H G w s H locs → lv_has ls 7 [(0, .ref (G.1 + 271)), (1, .int a1), (2, .int x2), (4, .int x4), (5, .int x5), (6, .int x6)] → W p l e { frames := 3, cells := 0, slots := 0, locals := 192 } s m [.ref (G.1 + 271), .int a1].toArray below meth c H locs 0 0 (MQ below (va_Qi (fun (x : Int32) (u : am_S) => x = rr ∧ u = ww) (am_U G) (am_A G)) [.ref (G.1 + 271), .int a1].toArray s 0 0 (am_A G)) (F0 m 79 ls []) := by
        intro x4 x5 x6 w z1 H locs ls hf hk1 hH hl
        unfold f_X12_stuck_79 at hf
        refine lv_iload hx hb dX12_stuck_79 (lv_at hl 5 rfl) ?_
        refine lv_goto (tgt := 85) hx hb dX12_stuck_81 (by decide) ?_
        exact P85 x4 x5 x6 x6 w z1 H locs ls hf hk1 hH (lv_sub hl [0, 1, 2, 3, 4, 5] rfl)
      unfold f_X12_stuck_38b at hf
      refine lv_iload hx hb dX12_stuck_38 (lv_at hl 6 rfl) ?_
      refine lv_iload_n hx hb dX12_stuck_40 rfl (lv_at hl 2 rfl) ?_
      refine lv_icmp_gt (tgt := 117) hx hb dX12_stuck_41 (by decide) (fun hc_52 => ?_) (fun hc_52 => ?_)
      · have hf := (if_pos hc_52).symm.trans hf
        obtain ⟨y_53, hf, hzy_53⟩ := am_x_some hf
        rw [hzy_53] at hk1
        have hf := hf.trans (congrArg some (show y_53 = (rr, ww) from hk1))
        refine lv_iload_n hx hb dX12_stuck_117 rfl (lv_at hl 1 rfl) ?_
        refine lv_if_ne (tgt := 128) hx hb dX12_stuck_118 (by decide) (fun hc_54 => ?_) (fun hc_54 => ?_)
        · have hf := (if_neg hc_54).symm.trans hf
          refine lv_iload_n hx hb dX12_stuck_128 rfl (lv_at hl 1 rfl) ?_
          refine lv_iconst (v := 1) hx hb dX12_stuck_129 (by decide) ?_
          refine lv_icmp_ne (tgt := 137) hx hb dX12_stuck_130 (by decide) (fun hc_55 => ?_) (fun hc_55 => ?_)
          · have hf := (if_neg hc_55).symm.trans hf
            refine lv_iload_n hx hb dX12_stuck_137 rfl (lv_at hl 1 rfl) ?_
            refine lv_iconst (v := 2) hx hb dX12_stuck_138 (by decide) ?_
            refine lv_icmp_ne (tgt := 147) hx hb dX12_stuck_139 (by decide) (fun hc_56 => ?_) (fun hc_56 => ?_)
            · have hf := (if_neg hc_56).symm.trans hf
              refine lv_iload hx hb dX12_stuck_147 (lv_at hl 4 rfl) ?_
              exact P149 x4 w H locs ls hf hH (lv_sub hl [] rfl)
            · have hf := (if_pos hc_56).symm.trans hf
              refine lv_iload hx hb dX12_stuck_142 (lv_at hl 5 rfl) ?_
              refine lv_goto (tgt := 149) hx hb dX12_stuck_144 (by decide) ?_
              exact P149 x5 w H locs ls hf hH (lv_sub hl [] rfl)
          · have hf := (if_pos hc_55).symm.trans hf
            refine lv_iload_n hx hb dX12_stuck_133 rfl (lv_at hl 3 rfl) ?_
            refine lv_goto (tgt := 149) hx hb dX12_stuck_134 (by decide) ?_
            exact P149 x3 w H locs ls hf hH (lv_sub hl [] rfl)
        · have hf := (if_pos hc_54).symm.trans hf
          refine lv_iload_n hx hb dX12_stuck_121 rfl (lv_at hl 3 rfl) ?_
          obtain ⟨r_59, w_57, hq_58, hf⟩ := am_b2_some hf
          refine am_calli (r := r_59) (w' := w_57) (am_runS (n := 1) (As := [.int x3]) (rest := []) ⟨hx, hb, hml, hown, hts⟩ hK hE hH (k_X12_bits hq_58) (am_gS am_q1629 am_q1630 am_q13 am_q1631) ⟨rfl, rfl⟩ (by decide +kernel) ⟨Nat.le_of_ble_eq_true rfl, Nat.le_of_ble_eq_true rfl⟩ rfl hl.1 rfl (Nat.le_of_ble_eq_true rfl) ⟨Nat.zero_le _, Nat.zero_le _⟩ dX12_stuck_122) hH (fun H locs hH => ?_)
          refine lv_goto (tgt := 149) hx hb dX12_stuck_125 (by decide) ?_
          exact P149 r_59 w_57 H locs ls hf hH (lv_sub hl [] rfl)
      · have hf := (if_neg hc_52).symm.trans hf
        refine lv_iload hx hb dX12_stuck_44 (lv_at hl 6 rfl) ?_
        refine lv_iload_n hx hb dX12_stuck_46 rfl (lv_at hl 2 rfl) ?_
        refine lv_iconst (v := -1) hx hb dX12_stuck_47 (by decide) ?_
        refine lv_ixor hx hb dX12_stuck_48 ?_
        refine lv_iand hx hb dX12_stuck_49 ?_
        refine lv_if_ne (tgt := 111) hx hb dX12_stuck_50 (by decide) (fun hc_60 => ?_) (fun hc_60 => ?_)
        · have hf := (if_neg hc_60).symm.trans hf
          exact P111 x3 x4 x5 x6 w z1 H locs ls hf hk1 hH (lv_sub hl [0, 1, 2, 3, 4, 5, 6] rfl)
        · have hf := (if_pos hc_60).symm.trans hf
          refine lv_aload_n hx hb dX12_stuck_53 rfl (lv_at hl 0 rfl) ?_
          refine lv_iload hx hb dX12_stuck_54 (lv_at hl 6 rfl) ?_
          obtain ⟨r_63, w_61, hq_62, hf⟩ := am_b2_some hf
          refine am_calli (r := r_63) (w' := w_61) (am_runV (n := 1) (As := [.int x6]) (rest := []) ⟨hx, hb, hml, hown, hts⟩ hK hE hH (k_X12_isFast hq_62) (am_gV am_q1858 am_q1860 am_qs109 am_q13 am_q1861) (am_o12 (p := 271) (by decide +kernel)) rfl ⟨rfl, rfl⟩ (by decide +kernel) ⟨Nat.le_of_ble_eq_true rfl, Nat.le_of_ble_eq_true rfl⟩ rfl hl.1 rfl (Nat.le_of_ble_eq_true rfl) ⟨Nat.zero_le _, Nat.zero_le _⟩ dX12_stuck_56) hH (fun H locs hH => ?_)
          refine lv_if_eq (tgt := 111) hx hb dX12_stuck_59 (by decide) (fun hc_64 => ?_) (fun hc_64 => ?_)
          · have hf := (if_pos hc_64).symm.trans hf
            exact P111 x3 x4 x5 x6 w_61 z1 H locs ls hf hk1 hH (lv_sub hl [0, 1, 2, 3, 4, 5, 6] rfl)
          · have hf := (if_neg hc_64).symm.trans hf
            refine lv_iload hx hb dX12_stuck_62 (lv_at hl 5 rfl) ?_
            refine lv_if_eq (tgt := 79) hx hb dX12_stuck_64 (by decide) (fun hc_65 => ?_) (fun hc_65 => ?_)
            · have hf := (if_pos hc_65).symm.trans hf
              exact P79 x4 x5 x6 w_61 z1 H locs ls hf hk1 hH (lv_sub hl [0, 1, 2, 4, 5, 6] rfl)
            · have hf := (if_neg hc_65).symm.trans hf
              refine lv_iload hx hb dX12_stuck_67 (lv_at hl 6 rfl) ?_
              obtain ⟨r_68, w_66, hq_67, hf⟩ := am_b2_some hf
              refine am_calli (r := r_68) (w' := w_66) (am_runS (n := 1) (As := [.int x6]) (rest := []) ⟨hx, hb, hml, hown, hts⟩ hK hE hH (k_X12_bits hq_67) (am_gS am_q1629 am_q1630 am_q13 am_q1631) ⟨rfl, rfl⟩ (by decide +kernel) ⟨Nat.le_of_ble_eq_true rfl, Nat.le_of_ble_eq_true rfl⟩ rfl hl.1 rfl (Nat.le_of_ble_eq_true rfl) ⟨Nat.zero_le _, Nat.zero_le _⟩ dX12_stuck_69) hH (fun H locs hH => ?_)
              refine lv_iload_n hx hb dX12_stuck_72 rfl (lv_at hl 3 rfl) ?_
              obtain ⟨r_71, w_69, hq_70, hf⟩ := am_b2_some hf
              refine am_calli (r := r_71) (w' := w_69) (am_runS (n := 1) (As := [.int x3]) (rest := [.int r_68]) ⟨hx, hb, hml, hown, hts⟩ hK hE hH (k_X12_bits hq_70) (am_gS am_q1629 am_q1630 am_q13 am_q1631) ⟨rfl, rfl⟩ (by decide +kernel) ⟨Nat.le_of_ble_eq_true rfl, Nat.le_of_ble_eq_true rfl⟩ rfl hl.1 rfl (Nat.le_of_ble_eq_true rfl) ⟨Nat.zero_le _, Nat.zero_le _⟩ dX12_stuck_73) hH (fun H locs hH => ?_)
              refine lv_icmp_ge (tgt := 84) hx hb dX12_stuck_76 (by decide) (fun hc_72 => ?_) (fun hc_72 => ?_)
              · have hf := (if_pos hc_72).symm.trans hf
                refine lv_iload_n hx hb dX12_stuck_84 rfl (lv_at hl 3 rfl) ?_
                exact P85 x4 x5 x6 x3 w_69 z1 H locs ls hf hk1 hH (lv_sub hl [0, 1, 2, 4, 5, 6] rfl)
              · have hf := (if_neg hc_72).symm.trans hf
                exact P79 x4 x5 x6 w_69 z1 H locs ls hf hk1 hH (lv_sub hl [0, 1, 2, 4, 5, 6] rfl)
  refine am_enter (lv := [(0, .ref (G.1 + 271)), (1, .int a1)]) (Nat.le_of_ble_eq_true rfl) rfl (fun ls hl => ?_)
  unfold f_X12_stuck at hf
  refine am_start hH (fun H locs hH => ?_)
  refine lv_aload_n hx hb dX12_stuck_0 rfl (lv_at hl 0 rfl) ?_
  obtain ⟨r_75, w_73, hq_74, hf⟩ := am_b2_some hf
  refine am_calli (r := r_75) (w' := w_73) (am_runV (n := 0) (As := []) (rest := []) ⟨hx, hb, hml, hown, hts⟩ hK hE hH (k_X12_isField hq_74) (am_gV am_q1514 am_q1516 am_qs59 am_q13 am_q1517) (am_o12 (p := 271) (by decide +kernel)) rfl ⟨rfl, rfl⟩ (by decide +kernel) ⟨Nat.le_of_ble_eq_true rfl, Nat.le_of_ble_eq_true rfl⟩ rfl hl.1 rfl (Nat.le_of_ble_eq_true rfl) ⟨Nat.zero_le _, Nat.zero_le _⟩ dX12_stuck_1) hH (fun H locs hH => ?_)
  refine lv_if_eq (tgt := 16) hx hb dX12_stuck_4 (by decide) (fun hc_76 => ?_) (fun hc_76 => ?_)
  · have hf := (if_pos hc_76).symm.trans hf
    exact P16 w_73 H locs ls hf hH (lv_sub hl [] rfl)
  · have hf := (if_neg hc_76).symm.trans hf
    refine lv_iload_n hx hb dX12_stuck_7 rfl (lv_at hl 1 rfl) ?_
    refine lv_iconst (v := 0) hx hb dX12_stuck_8 (by decide) ?_
    refine lv_iconst (v := 3) hx hb dX12_stuck_9 (by decide) ?_
    obtain ⟨r_79, w_77, hq_78, hf⟩ := am_b2_some hf
    refine am_calli (r := r_79) (w' := w_77) (am_runS (n := 3) (As := [.int a1, .int (0 : Int32), .int (3 : Int32)]) (rest := []) ⟨hx, hb, hml, hown, hts⟩ hK hE hH (k_X12_in hq_78) (am_gS am_q1425 am_q1426 am_q13 am_q1427) ⟨rfl, rfl⟩ (by decide +kernel) ⟨Nat.le_of_ble_eq_true rfl, Nat.le_of_ble_eq_true rfl⟩ rfl hl.1 rfl (Nat.le_of_ble_eq_true rfl) ⟨Nat.zero_le _, Nat.zero_le _⟩ dX12_stuck_10) hH (fun H locs hH => ?_)
    refine lv_if_ne (tgt := 18) hx hb dX12_stuck_13 (by decide) (fun hc_80 => ?_) (fun hc_80 => ?_)
    · have hf := (if_neg hc_80).symm.trans hf
      refine lv_aload_n hx hb dX12_stuck_18 rfl (lv_at hl 0 rfl) ?_
      obtain ⟨w_81, hq_82, hf⟩ := am_b1_some hf
      refine am_callv (w' := w_81) (am_runV (n := 0) (As := []) (rest := []) ⟨hx, hb, hml, hown, hts⟩ hK hE hH (k_X12_layOccupied hq_82) (am_gV am_q1794 am_q1796 am_qs101 am_q13 am_q1797) (am_o12 (p := 271) (by decide +kernel)) rfl ⟨rfl, rfl⟩ (by decide +kernel) ⟨Nat.le_of_ble_eq_true rfl, Nat.le_of_ble_eq_true rfl⟩ rfl hl.1 rfl (Nat.le_of_ble_eq_true rfl) ⟨Nat.zero_le _, Nat.zero_le _⟩ dX12_stuck_19) hH (fun H locs hH => ?_)
      refine lv_aload_n hx hb dX12_stuck_22 rfl (lv_at hl 0 rfl) ?_
      obtain ⟨r_85, w_83, hq_84, hf⟩ := am_b2_some hf
      refine am_calli (r := r_85) (w' := w_83) (am_runV (n := 0) (As := []) (rest := []) ⟨hx, hb, hml, hown, hts⟩ hK hE hH (k_X12_unknownOnes hq_84) (am_gV am_q1798 am_q1800 am_qs102 am_q13 am_q1801) (am_o12 (p := 271) (by decide +kernel)) rfl ⟨rfl, rfl⟩ (by decide +kernel) ⟨Nat.le_of_ble_eq_true rfl, Nat.le_of_ble_eq_true rfl⟩ rfl hl.1 rfl (Nat.le_of_ble_eq_true rfl) ⟨Nat.zero_le _, Nat.zero_le _⟩ dX12_stuck_23) hH (fun H locs hH => ?_)
      refine lv_istore_n (lv' := [(2, .int r_85), (0, .ref (G.1 + 271)), (1, .int a1)]) hx hb dX12_stuck_26 rfl hl (by decide) rfl (fun ls hl => ?_)
      refine lv_iconst (v := 0) hx hb dX12_stuck_27 (by decide) ?_
      refine lv_istore_n (lv' := [(3, .int (0 : Int32)), (2, .int r_85), (0, .ref (G.1 + 271)), (1, .int a1)]) hx hb dX12_stuck_28 rfl hl (by decide) rfl (fun ls hl => ?_)
      refine lv_iconst (v := 0) hx hb dX12_stuck_29 (by decide) ?_
      refine lv_istore (lv' := [(4, .int (0 : Int32)), (3, .int (0 : Int32)), (2, .int r_85), (0, .ref (G.1 + 271)), (1, .int a1)]) hx hb dX12_stuck_30 hl (by decide) rfl (fun ls hl => ?_)
      refine lv_iconst (v := 0) hx hb dX12_stuck_32 (by decide) ?_
      refine lv_istore (lv' := [(5, .int (0 : Int32)), (4, .int (0 : Int32)), (3, .int (0 : Int32)), (2, .int r_85), (0, .ref (G.1 + 271)), (1, .int a1)]) hx hb dX12_stuck_33 hl (by decide) rfl (fun ls hl => ?_)
      refine lv_iconst (v := 1) hx hb dX12_stuck_35 (by decide) ?_
      refine lv_istore (lv' := [(6, .int (1 : Int32)), (5, .int (0 : Int32)), (4, .int (0 : Int32)), (3, .int (0 : Int32)), (2, .int r_85), (0, .ref (G.1 + 271)), (1, .int a1)]) hx hb dX12_stuck_36 hl (by decide) rfl (fun ls hl => ?_)
      exact P38 r_85 am_fuel (0 : Int32) (0 : Int32) (0 : Int32) (1 : Int32) w_83 H locs ls hf hH (lv_sub hl [5, 6, 4, 3, 2, 1, 0] rfl)
    · have hf := (if_pos hc_80).symm.trans hf
      exact P16 w_77 H locs ls hf hH (lv_sub hl [] rfl)

def f_X12_swap (a1 : Int32) (a2 : Int32) (w : am_S) : Option (Int32 × am_S) :=
  am_b2 (f_X12_hand (8 : Int32) a1 a2 (0 : Int64) w) fun r_6 w_4 => some (r_6, w_4)
set_option maxRecDepth 100000 in
set_option maxHeartbeats 4000000 in
theorem k_X12_swap {G : am_G} {l : Launch} {a1 : Int32} {a2 : Int32}  {w : am_S} {rr : Int32} {ww : am_S} (hf : f_X12_swap a1 a2 w = some (rr, ww)) : am_Mi G l yX12_swap (Cond.code yX12_swap cX12_swap 3 (some .int) :: am_T) { frames := 11, cells := 0, slots := 0, locals := 704 } [.ref (G.1 + 271), .int a1, .int a2] w rr ww := by
  refine Met.ofW (cc := cX12_swap) (maxL := 3) (ret := (some .int)) (by decide) rfl ?_
  intro p e s m args below meth c s₁ B hml hv
  obtain ⟨rfl, hx, hb, hr, hts, hown, hlocks, hK, hE, hH⟩ := am_begin B hv
  have hown : s.vm.findClass RX12 = some m.cls := hown
  show W p l e { frames := 11, cells := 0, slots := 0, locals := 704 } s m _ below meth c s.heap [] 0 0 _ _
  refine am_enter (lv := [(0, .ref (G.1 + 271)), (1, .int a1), (2, .int a2)]) (Nat.le_of_ble_eq_true rfl) rfl (fun ls hl => ?_)
  unfold f_X12_swap at hf
  refine am_start hH (fun H locs hH => ?_)
  refine lv_aload_n hx hb dX12_swap_0 rfl (lv_at hl 0 rfl) ?_
  refine lv_bipush (v := 8) hx hb dX12_swap_1 (by decide) ?_
  refine lv_iload_n hx hb dX12_swap_3 rfl (lv_at hl 1 rfl) ?_
  refine lv_iload_n hx hb dX12_swap_4 rfl (lv_at hl 2 rfl) ?_
  refine lv_lconst (v := 0) hx hb dX12_swap_5 (by decide) ?_
  obtain ⟨r_6, w_4, hq_5, hf⟩ := am_b2_some hf
  refine am_calli (r := r_6) (w' := w_4) (am_runV (n := 4) (As := [.int (8 : Int32), .int a1, .int a2, .long (0 : Int64)]) (rest := []) ⟨hx, hb, hml, hown, hts⟩ hK hE hH (k_X12_hand hq_5) (am_gV am_q1506 am_q1508 am_qs57 am_q13 am_q1509) (am_o12 (p := 271) (by decide +kernel)) rfl ⟨rfl, rfl⟩ (by decide +kernel) ⟨Nat.le_of_ble_eq_true rfl, Nat.le_of_ble_eq_true rfl⟩ rfl hl.1 rfl (Nat.le_of_ble_eq_true rfl) ⟨Nat.zero_le _, Nat.zero_le _⟩ dX12_swap_6) hH (fun H locs hH => ?_)
  exact am_reti hx hb hr hlocks hH hf dX12_swap_9

def f_X12_tell (a1 : Int32) (w : am_S) : Option (Int32 × am_S) :=
  am_b2 (f_X12_hand (2 : Int32) a1 (0 : Int32) (0 : Int64) w) fun r_6 w_4 => some (r_6, w_4)
set_option maxRecDepth 100000 in
set_option maxHeartbeats 4000000 in
theorem k_X12_tell {G : am_G} {l : Launch} {a1 : Int32}  {w : am_S} {rr : Int32} {ww : am_S} (hf : f_X12_tell a1 w = some (rr, ww)) : am_Mi G l yX12_tell (Cond.code yX12_tell cX12_tell 2 (some .int) :: am_T) { frames := 11, cells := 0, slots := 0, locals := 704 } [.ref (G.1 + 271), .int a1] w rr ww := by
  refine Met.ofW (cc := cX12_tell) (maxL := 2) (ret := (some .int)) (by decide) rfl ?_
  intro p e s m args below meth c s₁ B hml hv
  obtain ⟨rfl, hx, hb, hr, hts, hown, hlocks, hK, hE, hH⟩ := am_begin B hv
  have hown : s.vm.findClass RX12 = some m.cls := hown
  show W p l e { frames := 11, cells := 0, slots := 0, locals := 704 } s m _ below meth c s.heap [] 0 0 _ _
  refine am_enter (lv := [(0, .ref (G.1 + 271)), (1, .int a1)]) (Nat.le_of_ble_eq_true rfl) rfl (fun ls hl => ?_)
  unfold f_X12_tell at hf
  refine am_start hH (fun H locs hH => ?_)
  refine lv_aload_n hx hb dX12_tell_0 rfl (lv_at hl 0 rfl) ?_
  refine lv_iconst (v := 2) hx hb dX12_tell_1 (by decide) ?_
  refine lv_iload_n hx hb dX12_tell_2 rfl (lv_at hl 1 rfl) ?_
  refine lv_iconst (v := 0) hx hb dX12_tell_3 (by decide) ?_
  refine lv_lconst (v := 0) hx hb dX12_tell_4 (by decide) ?_
  obtain ⟨r_6, w_4, hq_5, hf⟩ := am_b2_some hf
  refine am_calli (r := r_6) (w' := w_4) (am_runV (n := 4) (As := [.int (2 : Int32), .int a1, .int (0 : Int32), .long (0 : Int64)]) (rest := []) ⟨hx, hb, hml, hown, hts⟩ hK hE hH (k_X12_hand hq_5) (am_gV am_q1506 am_q1508 am_qs57 am_q13 am_q1509) (am_o12 (p := 271) (by decide +kernel)) rfl ⟨rfl, rfl⟩ (by decide +kernel) ⟨Nat.le_of_ble_eq_true rfl, Nat.le_of_ble_eq_true rfl⟩ rfl hl.1 rfl (Nat.le_of_ble_eq_true rfl) ⟨Nat.zero_le _, Nat.zero_le _⟩ dX12_tell_5) hH (fun H locs hH => ?_)
  exact am_reti hx hb hr hlocks hH hf dX12_tell_8

def f_X12_takeField_318  (x1 : Int32) (x3 : Int32) (w : am_S) : Option (((Int32 × am_S) ⊕ (Int32 × am_S)) ⊕ (Int32 × am_S)) :=
  am_v (x3 + (1 : Int32)) fun (x3_65 : Int32) => some (.inr (x3_65, w))
def f_X12_takeField_287  (x1 : Int32) (x3 : Int32) (s0 : Int32) (w : am_S) : Option (((Int32 × am_S) ⊕ (Int32 × am_S)) ⊕ (Int32 × am_S)) :=
  if s0 = 0 then (f_X12_takeField_318 x1 x3 w) else (am_chk (0 : Int32) 4 (am_chk (((5 : Int32) * x1) + (2 : Int32)) 50 (am_b1 (f_X12_turnCopy x1 (((w.1 276 (0 : Int32).toNatClampNeg) * (w.1 277 (((5 : Int32) * x1) + (2 : Int32)).toNatClampNeg)) + x3) w) fun w_69 => f_X12_takeField_318 x1 x3 w_69)))
def f_X12_takeField_227b  (x1 : Int32) (x3 : Int32) (w : am_S) : Option (((Int32 × am_S) ⊕ (Int32 × am_S)) ⊕ (Int32 × am_S)) :=
  am_chk (0 : Int32) 4 (if ((2 : Int32) * (w.1 276 (0 : Int32).toNatClampNeg)) ≤ x3 then (am_x (am_v (x1 + (1 : Int32)) fun (x1_74 : Int32) => some (.inr (x1_74, w)))) else (am_chk (0 : Int32) 4 (if (w.1 276 (0 : Int32).toNatClampNeg) ≤ x3 then (am_chk (((5 : Int32) * x1) + (4 : Int32)) 50 (am_chk (0 : Int32) 4 (am_b2 (f_X12_has (w.1 277 (((5 : Int32) * x1) + (4 : Int32)).toNatClampNeg) (x3 - (w.1 276 (0 : Int32).toNatClampNeg)) w) fun r_81 w_79 => f_X12_takeField_287 x1 x3 r_81 w_79))) else (am_chk (((5 : Int32) * x1) + (3 : Int32)) 50 (am_b2 (f_X12_has (w.1 277 (((5 : Int32) * x1) + (3 : Int32)).toNatClampNeg) x3 w) fun r_85 w_83 => f_X12_takeField_287 x1 x3 r_85 w_83)))))
def f_X12_takeField_227  (x1 : Int32) (x3 : Int32) (w : am_S) : Option ((Int32 × am_S) ⊕ (Int32 × am_S)) :=
  am_loop (fun (st : (Int32 × am_S)) => f_X12_takeField_227b x1 st.1 st.2) am_fuel (x3, w)
def f_X12_takeField_159b  (x1 : Int32) (w : am_S) : Option ((Int32 × am_S) ⊕ (Int32 × am_S)) :=
  if (w.1 271 13) ≤ x1 then (am_x (am_v (am_pi w 271 23 (0 : Int32)) fun (w_88 : am_S) => am_v (am_pi w_88 271 29 (0 : Int32)) fun (w_89 : am_S) => some (w_89.1 271 13, w_89))) else (am_chk (((5 : Int32) * x1) + (0 : Int32)) 50 (am_n32 (FP.fdiv (FP.i2f (w.1 277 (((5 : Int32) * x1) + (0 : Int32)).toNatClampNeg)) (1092616192 : UInt32)) (am_v (FP.fdiv (FP.i2f (w.1 277 (((5 : Int32) * x1) + (0 : Int32)).toNatClampNeg)) (1092616192 : UInt32)) fun (x2_92 : UInt32) => am_chk (((5 : Int32) * x1) + (1 : Int32)) 50 (am_n32 (FP.fdiv x2_92 (FP.i2f (w.1 277 (((5 : Int32) * x1) + (1 : Int32)).toNatClampNeg))) (am_chk x1 10 (am_v (am_pf w 283 x1.toNatClampNeg (FP.fdiv x2_92 (FP.i2f (w.1 277 (((5 : Int32) * x1) + (1 : Int32)).toNatClampNeg)))) fun (w_96 : am_S) => am_chk x1 10 (am_chk (((5 : Int32) * x1) + (1 : Int32)) 50 (am_n32 (FP.fdiv (w_96.2.2 283 x1.toNatClampNeg) (FP.i2f (w_96.1 277 (((5 : Int32) * x1) + (1 : Int32)).toNatClampNeg))) (am_chk x1 10 (am_v (am_pf w_96 283 x1.toNatClampNeg (FP.fdiv (w_96.2.2 283 x1.toNatClampNeg) (FP.i2f (w_96.1 277 (((5 : Int32) * x1) + (1 : Int32)).toNatClampNeg)))) fun (w_101 : am_S) => f_X12_takeField_227 x1 (0 : Int32) w_101))))))))))
def f_X12_takeField_159  (x1 : Int32) (w : am_S) : Option (Int32 × am_S) :=
  am_loop (fun (st : (Int32 × am_S)) => f_X12_takeField_159b st.1 st.2) am_fuel (x1, w)
def f_X12_takeField_124b  (x1 : Int32) (w : am_S) : Option ((Int32 × am_S) ⊕ (Int32 × am_S)) :=
  if (245 : Int32) ≤ x1 then (am_x (am_chk (2 : Int32) 4 (am_chk (30 : Int32) 245 (am_v (am_pi w 281 (30 : Int32).toNatClampNeg (w.1 276 (2 : Int32).toNatClampNeg)) fun (w_106 : am_S) => f_X12_takeField_159 (0 : Int32) w_106)))) else (am_chk x1 245 (am_v (am_pi w 281 x1.toNatClampNeg (0 : Int32)) fun (w_108 : am_S) => am_v (x1 + (1 : Int32)) fun (x1_109 : Int32) => some (.inr (x1_109, w_108))))
def f_X12_takeField_124  (x1 : Int32) (w : am_S) : Option (Int32 × am_S) :=
  am_loop (fun (st : (Int32 × am_S)) => f_X12_takeField_124b st.1 st.2) am_fuel (x1, w)
def f_X12_takeField_82b  (x1 : Int32) (w : am_S) : Option ((Int32 × am_S) ⊕ (Int32 × am_S)) :=
  if (w.1 271 9) ≤ x1 then (am_x (f_X12_takeField_124 (0 : Int32) w)) else (am_chk ((2 : Int32) * x1) 12 (am_chk (w.1 275 ((2 : Int32) * x1).toNatClampNeg) 7 (am_chk (((2 : Int32) * x1) + (1 : Int32)) 12 (am_chk (w.1 275 ((2 : Int32) * x1).toNatClampNeg) 7 (am_v (am_pi w 278 (w.1 275 ((2 : Int32) * x1).toNatClampNeg).toNatClampNeg ((w.1 278 (w.1 275 ((2 : Int32) * x1).toNatClampNeg).toNatClampNeg) + (w.1 275 (((2 : Int32) * x1) + (1 : Int32)).toNatClampNeg))) fun (w_116 : am_S) => am_v (x1 + (1 : Int32)) fun (x1_117 : Int32) => some (.inr (x1_117, w_116)))))))
def f_X12_takeField_82  (x1 : Int32) (w : am_S) : Option (Int32 × am_S) :=
  am_loop (fun (st : (Int32 × am_S)) => f_X12_takeField_82b st.1 st.2) am_fuel (x1, w)
def f_X12_takeField_61b  (x1 : Int32) (w : am_S) : Option ((Int32 × am_S) ⊕ (Int32 × am_S)) :=
  if (6 : Int32) < x1 then (am_x (f_X12_takeField_82 (0 : Int32) w)) else (am_chk x1 7 (am_v (am_pi w 278 x1.toNatClampNeg (0 : Int32)) fun (w_121 : am_S) => am_v (x1 + (1 : Int32)) fun (x1_122 : Int32) => some (.inr (x1_122, w_121))))
def f_X12_takeField_61  (x1 : Int32) (w : am_S) : Option (Int32 × am_S) :=
  am_loop (fun (st : (Int32 × am_S)) => f_X12_takeField_61b st.1 st.2) am_fuel (x1, w)
def f_X12_takeField_35b  (x1 : Int32) (w : am_S) : Option ((Int32 × am_S) ⊕ (Int32 × am_S)) :=
  if (50 : Int32) ≤ x1 then (am_x (f_X12_takeField_61 (0 : Int32) w)) else (am_chk x1 50 (am_chk x1 50 (am_v (am_pi w 277 x1.toNatClampNeg (w.1 274 x1.toNatClampNeg)) fun (w_127 : am_S) => am_v (x1 + (1 : Int32)) fun (x1_128 : Int32) => some (.inr (x1_128, w_127)))))
def f_X12_takeField_35  (x1 : Int32) (w : am_S) : Option (Int32 × am_S) :=
  am_loop (fun (st : (Int32 × am_S)) => f_X12_takeField_35b st.1 st.2) am_fuel (x1, w)
def f_X12_takeField_10b  (x1 : Int32) (w : am_S) : Option ((Int32 × am_S) ⊕ (Int32 × am_S)) :=
  if (4 : Int32) ≤ x1 then (am_x (f_X12_takeField_35 (0 : Int32) w)) else (am_chk x1 4 (am_chk x1 4 (am_v (am_pi w 276 x1.toNatClampNeg (w.1 273 x1.toNatClampNeg)) fun (w_133 : am_S) => am_v (x1 + (1 : Int32)) fun (x1_134 : Int32) => some (.inr (x1_134, w_133)))))
def f_X12_takeField_10  (x1 : Int32) (w : am_S) : Option (Int32 × am_S) :=
  am_loop (fun (st : (Int32 × am_S)) => f_X12_takeField_10b st.1 st.2) am_fuel (x1, w)
def f_X12_takeField  (w : am_S) : Option (Int32 × am_S) :=
  am_v (am_pi w 271 13 (w.1 271 8)) fun (w_135 : am_S) => f_X12_takeField_10 (0 : Int32) w_135
set_option maxRecDepth 100000 in
set_option maxHeartbeats 4000000 in
theorem k_X12_takeField {G : am_G} {l : Launch}   {w : am_S} {rr : Int32} {ww : am_S} (hf : f_X12_takeField  w = some (rr, ww)) : am_Mi G l yX12_takeField (Cond.code yX12_takeField cX12_takeField 5 (some .int) :: am_T) { frames := 1, cells := 0, slots := 0, locals := 64 } [.ref (G.1 + 271)] w rr ww := by
  refine Met.ofW (cc := cX12_takeField) (maxL := 5) (ret := (some .int)) (by decide) rfl ?_
  intro p e s m args below meth c s₁ B hml hv
  obtain ⟨rfl, hx, hb, hr, hts, hown, hlocks, hK, hE, hH⟩ := am_begin B hv
  have hown : s.vm.findClass RX12 = some m.cls := hown
  show W p l e { frames := 1, cells := 0, slots := 0, locals := 64 } s m _ below meth c s.heap [] 0 0 _ _
  have P159 : ∀ (n1 : Nat) (x1 : Int32) (w : am_S) (H : Heap) (locs : List Loc) (ls : Array Slot), am_loop (fun (st : (Int32 × am_S)) => f_X12_takeField_159b st.1 st.2) n1 (x1, w) = some (rr, ww) → am_H G w s H locs → lv_has ls 5 [(0, .ref (G.1 + 271)), (1, .int x1)] → W p l e { frames := 1, cells := 0, slots := 0, locals := 64 } s m [.ref (G.1 + 271)].toArray below meth c H locs 0 0 (MQ below (va_Qi (fun (x : Int32) (u : am_S) => x = rr ∧ u = ww) (am_U G) (am_A G)) [.ref (G.1 + 271)].toArray s 0 0 (am_A G)) (F0 m 159 ls []) := by
    intro n1
    induction n1 with
    | zero =>
      intro x1 w H locs ls hf hH hl
      exact (am_loop_zero hf).elim
    | succ n1 ih1 =>
      intro x1 w H locs ls hf hH hl
      obtain ⟨z1, hf, hk1⟩ := am_loop_succ hf
      have hf : f_X12_takeField_159b x1 w = some z1 := hf
      have P227 : ∀ (x1 : Int32) (n2 : Nat) (x3 : Int32) (w : am_S) (z1 : ((Int32 × am_S) ⊕ (Int32 × am_S))) (H : Heap) (locs : List Loc) (ls : Array Slot), am_loop (fun (st : (Int32 × am_S)) => f_X12_takeField_227b x1 st.1 st.2) n2 (x3, w) = some z1 → am_lk (fun (st : (Int32 × am_S)) => f_X12_takeField_159b st.1 st.2) n1 (rr, ww) z1 → am_H G w s H locs → lv_has ls 5 [(0, .ref (G.1 + 271)), (1, .int x1), (3, .int x3)] → W p l e { frames := 1, cells := 0, slots := 0, locals := 64 } s m [.ref (G.1 + 271)].toArray below meth c H locs 0 0 (MQ below (va_Qi (fun (x : Int32) (u : am_S) => x = rr ∧ u = ww) (am_U G) (am_A G)) [.ref (G.1 + 271)].toArray s 0 0 (am_A G)) (F0 m 227 ls []) := by
        intro x1 n2
        induction n2 with
        | zero =>
          intro x3 w z1 H locs ls hf hk1 hH hl
          exact (am_loop_zero hf).elim
        | succ n2 ih2 =>
          intro x3 w z1 H locs ls hf hk1 hH hl
          obtain ⟨z2, hf, hk2⟩ := am_loop_succ hf
          have hf : f_X12_takeField_227b x1 x3 w = some z2 := hf
          have P318 : ∀ (x3 : Int32) (w : am_S) (z2 : (((Int32 × am_S) ⊕ (Int32 × am_S)) ⊕ (Int32 × am_S))) (H : Heap) (locs : List Loc) (ls : Array Slot), f_X12_takeField_318 x1 x3 w = some z2 → am_lk (fun (st : (Int32 × am_S)) => f_X12_takeField_227b x1 st.1 st.2) n2 z1 z2 → am_H G w s H locs → lv_has ls 5 [(0, .ref (G.1 + 271)), (1, .int x1), (3, .int x3)] → W p l e { frames := 1, cells := 0, slots := 0, locals := 64 } s m [.ref (G.1 + 271)].toArray below meth c H locs 0 0 (MQ below (va_Qi (fun (x : Int32) (u : am_S) => x = rr ∧ u = ww) (am_U G) (am_A G)) [.ref (G.1 + 271)].toArray s 0 0 (am_A G)) (F0 m 318 ls []) := by
            intro x3 w z2 H locs ls hf hk2 hH hl
            unfold f_X12_takeField_318 at hf
            obtain ⟨x3_65, hx3_65, hf⟩ := am_v_some hf
            refine lv_iinc (v := x3_65) (lv' := [(3, .int x3_65), (0, .ref (G.1 + 271)), (1, .int x1)]) hx hb dX12_takeField_318 hl (k := 2) rfl (by rw [hx3_65]; rfl) (by decide) rfl (fun ls hl => ?_)
            refine lv_goto (tgt := 227) hx hb dX12_takeField_321 (by decide) ?_
            obtain rfl := Option.some.inj hf
            exact ih2 x3_65 w z1 H locs ls hk2 hk1 hH (lv_sub hl [1, 2, 0] rfl)
          have P287 : ∀ (x3 : Int32) (s0 : Int32) (w : am_S) (z2 : (((Int32 × am_S) ⊕ (Int32 × am_S)) ⊕ (Int32 × am_S))) (H : Heap) (locs : List Loc) (ls : Array Slot), f_X12_takeField_287 x1 x3 s0 w = some z2 → am_lk (fun (st : (Int32 × am_S)) => f_X12_takeField_227b x1 st.1 st.2) n2 z1 z2 → am_H G w s H locs → lv_has ls 5 [(0, .ref (G.1 + 271)), (1, .int x1), (3, .int x3)] → W p l e { frames := 1, cells := 0, slots := 0, locals := 64 } s m [.ref (G.1 + 271)].toArray below meth c H locs 0 0 (MQ below (va_Qi (fun (x : Int32) (u : am_S) => x = rr ∧ u = ww) (am_U G) (am_A G)) [.ref (G.1 + 271)].toArray s 0 0 (am_A G)) (F0 m 287 ls [.int s0]) := by
            intro x3 s0 w z2 H locs ls hf hk2 hH hl
            unfold f_X12_takeField_287 at hf
            refine lv_istore (lv' := [(4, .int s0), (0, .ref (G.1 + 271)), (1, .int x1), (3, .int x3)]) hx hb dX12_takeField_287 hl (by decide) rfl (fun ls hl => ?_)
            refine lv_iload hx hb dX12_takeField_289 (lv_at hl 0 rfl) ?_
            refine lv_if_eq (tgt := 318) hx hb dX12_takeField_291 (by decide) (fun hc_66 => ?_) (fun hc_66 => ?_)
            · have hf := (if_pos hc_66).symm.trans hf
              exact P318 x3 w z2 H locs ls hf hk2 hH (lv_sub hl [1, 2, 3] rfl)
            · have hf := (if_neg hc_66).symm.trans hf
              refine lv_aload_n hx hb dX12_takeField_294 rfl (lv_at hl 1 rfl) ?_
              refine lv_iload_n hx hb dX12_takeField_295 rfl (lv_at hl 2 rfl) ?_
              refine lv_aload_n hx hb dX12_takeField_296 rfl (lv_at hl 1 rfl) ?_
              refine am_get hx hb hts hK hown hH (am_o12 (p := 271) (by decide +kernel)) rfl am_inX12 10 (by decide) am_q1329 (v := .ref (G.1 + 276)) rfl dX12_takeField_297 ?_
              refine lv_iconst (v := 0) hx hb dX12_takeField_300 (by decide) ?_
              obtain ⟨hi_67, hf⟩ := am_chk_some hf
              refine am_iald hx hb hK hH (am_ai_of (N := 4) (by decide +kernel)) hi_67 dX12_takeField_301 ?_
              refine lv_aload_n hx hb dX12_takeField_302 rfl (lv_at hl 1 rfl) ?_
              refine am_get hx hb hts hK hown hH (am_o12 (p := 271) (by decide +kernel)) rfl am_inX12 11 (by decide) am_q1330 (v := .ref (G.1 + 277)) rfl dX12_takeField_303 ?_
              refine lv_iconst (v := 5) hx hb dX12_takeField_306 (by decide) ?_
              refine lv_iload_n hx hb dX12_takeField_307 rfl (lv_at hl 2 rfl) ?_
              refine lv_imul hx hb dX12_takeField_308 ?_
              refine lv_iconst (v := 2) hx hb dX12_takeField_309 (by decide) ?_
              refine lv_iadd hx hb dX12_takeField_310 ?_
              obtain ⟨hi_68, hf⟩ := am_chk_some hf
              refine am_iald hx hb hK hH (am_ai_of (N := 50) (by decide +kernel)) hi_68 dX12_takeField_311 ?_
              refine lv_imul hx hb dX12_takeField_312 ?_
              refine lv_iload_n hx hb dX12_takeField_313 rfl (lv_at hl 3 rfl) ?_
              refine lv_iadd hx hb dX12_takeField_314 ?_
              obtain ⟨w_69, hq_70, hf⟩ := am_b1_some hf
              refine am_callv (w' := w_69) (am_runV (n := 2) (As := [.int x1, .int (((w.1 276 (0 : Int32).toNatClampNeg) * (w.1 277 (((5 : Int32) * x1) + (2 : Int32)).toNatClampNeg)) + x3)]) (rest := []) ⟨hx, hb, hml, hown, hts⟩ hK hE hH (k_X12_turnCopy hq_70) (am_gV am_q1498 am_q1500 am_qs56 am_q13 am_q1501) (am_o12 (p := 271) (by decide +kernel)) rfl ⟨rfl, rfl⟩ (by decide +kernel) ⟨Nat.le_of_ble_eq_true rfl, Nat.le_of_ble_eq_true rfl⟩ rfl hl.1 rfl (Nat.le_of_ble_eq_true rfl) ⟨Nat.zero_le _, Nat.zero_le _⟩ dX12_takeField_315) hH (fun H locs hH => ?_)
              exact P318 x3 w_69 z2 H locs ls hf hk2 hH (lv_sub hl [1, 2, 3] rfl)
          unfold f_X12_takeField_227b at hf
          refine lv_iload_n hx hb dX12_takeField_227 rfl (lv_at hl 2 rfl) ?_
          refine lv_iconst (v := 2) hx hb dX12_takeField_228 (by decide) ?_
          refine lv_aload_n hx hb dX12_takeField_229 rfl (lv_at hl 0 rfl) ?_
          refine am_get hx hb hts hK hown hH (am_o12 (p := 271) (by decide +kernel)) rfl am_inX12 10 (by decide) am_q1329 (v := .ref (G.1 + 276)) rfl dX12_takeField_230 ?_
          refine lv_iconst (v := 0) hx hb dX12_takeField_233 (by decide) ?_
          obtain ⟨hi_71, hf⟩ := am_chk_some hf
          refine am_iald hx hb hK hH (am_ai_of (N := 4) (by decide +kernel)) hi_71 dX12_takeField_234 ?_
          refine lv_imul hx hb dX12_takeField_235 ?_
          refine lv_icmp_ge (tgt := 324) hx hb dX12_takeField_236 (by decide) (fun hc_72 => ?_) (fun hc_72 => ?_)
          · have hf := (if_pos hc_72).symm.trans hf
            obtain ⟨y_73, hf, hzy_73⟩ := am_x_some hf
            rw [hzy_73] at hk2
            have hf := hf.trans (congrArg some (show y_73 = z1 from hk2))
            obtain ⟨x1_74, hx1_74, hf⟩ := am_v_some hf
            refine lv_iinc (v := x1_74) (lv' := [(1, .int x1_74), (0, .ref (G.1 + 271)), (3, .int x3)]) hx hb dX12_takeField_324 hl (k := 1) rfl (by rw [hx1_74]; rfl) (by decide) rfl (fun ls hl => ?_)
            refine lv_goto (tgt := 159) hx hb dX12_takeField_327 (by decide) ?_
            obtain rfl := Option.some.inj hf
            exact ih1 x1_74 w H locs ls hk1 hH (lv_sub hl [1, 0] rfl)
          · have hf := (if_neg hc_72).symm.trans hf
            refine lv_iload_n hx hb dX12_takeField_239 rfl (lv_at hl 2 rfl) ?_
            refine lv_aload_n hx hb dX12_takeField_240 rfl (lv_at hl 0 rfl) ?_
            refine am_get hx hb hts hK hown hH (am_o12 (p := 271) (by decide +kernel)) rfl am_inX12 10 (by decide) am_q1329 (v := .ref (G.1 + 276)) rfl dX12_takeField_241 ?_
            refine lv_iconst (v := 0) hx hb dX12_takeField_244 (by decide) ?_
            obtain ⟨hi_75, hf⟩ := am_chk_some hf
            refine am_iald hx hb hK hH (am_ai_of (N := 4) (by decide +kernel)) hi_75 dX12_takeField_245 ?_
            refine lv_icmp_ge (tgt := 266) hx hb dX12_takeField_246 (by decide) (fun hc_76 => ?_) (fun hc_76 => ?_)
            · have hf := (if_pos hc_76).symm.trans hf
              refine lv_aload_n hx hb dX12_takeField_266 rfl (lv_at hl 0 rfl) ?_
              refine am_get hx hb hts hK hown hH (am_o12 (p := 271) (by decide +kernel)) rfl am_inX12 11 (by decide) am_q1330 (v := .ref (G.1 + 277)) rfl dX12_takeField_267 ?_
              refine lv_iconst (v := 5) hx hb dX12_takeField_270 (by decide) ?_
              refine lv_iload_n hx hb dX12_takeField_271 rfl (lv_at hl 1 rfl) ?_
              refine lv_imul hx hb dX12_takeField_272 ?_
              refine lv_iconst (v := 4) hx hb dX12_takeField_273 (by decide) ?_
              refine lv_iadd hx hb dX12_takeField_274 ?_
              obtain ⟨hi_77, hf⟩ := am_chk_some hf
              refine am_iald hx hb hK hH (am_ai_of (N := 50) (by decide +kernel)) hi_77 dX12_takeField_275 ?_
              refine lv_iload_n hx hb dX12_takeField_276 rfl (lv_at hl 2 rfl) ?_
              refine lv_aload_n hx hb dX12_takeField_277 rfl (lv_at hl 0 rfl) ?_
              refine am_get hx hb hts hK hown hH (am_o12 (p := 271) (by decide +kernel)) rfl am_inX12 10 (by decide) am_q1329 (v := .ref (G.1 + 276)) rfl dX12_takeField_278 ?_
              refine lv_iconst (v := 0) hx hb dX12_takeField_281 (by decide) ?_
              obtain ⟨hi_78, hf⟩ := am_chk_some hf
              refine am_iald hx hb hK hH (am_ai_of (N := 4) (by decide +kernel)) hi_78 dX12_takeField_282 ?_
              refine lv_isub hx hb dX12_takeField_283 ?_
              obtain ⟨r_81, w_79, hq_80, hf⟩ := am_b2_some hf
              refine am_calli (r := r_81) (w' := w_79) (am_runS (n := 2) (As := [.int (w.1 277 (((5 : Int32) * x1) + (4 : Int32)).toNatClampNeg), .int (x3 - (w.1 276 (0 : Int32).toNatClampNeg))]) (rest := []) ⟨hx, hb, hml, hown, hts⟩ hK hE hH (k_X12_has hq_80) (am_gS am_q1454 am_q1455 am_q13 am_q1456) ⟨rfl, rfl⟩ (by decide +kernel) ⟨Nat.le_of_ble_eq_true rfl, Nat.le_of_ble_eq_true rfl⟩ rfl hl.1 rfl (Nat.le_of_ble_eq_true rfl) ⟨Nat.zero_le _, Nat.zero_le _⟩ dX12_takeField_284) hH (fun H locs hH => ?_)
              exact P287 x3 r_81 w_79 z2 H locs ls hf hk2 hH (lv_sub hl [0, 1, 2] rfl)
            · have hf := (if_neg hc_76).symm.trans hf
              refine lv_aload_n hx hb dX12_takeField_249 rfl (lv_at hl 0 rfl) ?_
              refine am_get hx hb hts hK hown hH (am_o12 (p := 271) (by decide +kernel)) rfl am_inX12 11 (by decide) am_q1330 (v := .ref (G.1 + 277)) rfl dX12_takeField_250 ?_
              refine lv_iconst (v := 5) hx hb dX12_takeField_253 (by decide) ?_
              refine lv_iload_n hx hb dX12_takeField_254 rfl (lv_at hl 1 rfl) ?_
              refine lv_imul hx hb dX12_takeField_255 ?_
              refine lv_iconst (v := 3) hx hb dX12_takeField_256 (by decide) ?_
              refine lv_iadd hx hb dX12_takeField_257 ?_
              obtain ⟨hi_82, hf⟩ := am_chk_some hf
              refine am_iald hx hb hK hH (am_ai_of (N := 50) (by decide +kernel)) hi_82 dX12_takeField_258 ?_
              refine lv_iload_n hx hb dX12_takeField_259 rfl (lv_at hl 2 rfl) ?_
              obtain ⟨r_85, w_83, hq_84, hf⟩ := am_b2_some hf
              refine am_calli (r := r_85) (w' := w_83) (am_runS (n := 2) (As := [.int (w.1 277 (((5 : Int32) * x1) + (3 : Int32)).toNatClampNeg), .int x3]) (rest := []) ⟨hx, hb, hml, hown, hts⟩ hK hE hH (k_X12_has hq_84) (am_gS am_q1454 am_q1455 am_q13 am_q1456) ⟨rfl, rfl⟩ (by decide +kernel) ⟨Nat.le_of_ble_eq_true rfl, Nat.le_of_ble_eq_true rfl⟩ rfl hl.1 rfl (Nat.le_of_ble_eq_true rfl) ⟨Nat.zero_le _, Nat.zero_le _⟩ dX12_takeField_260) hH (fun H locs hH => ?_)
              refine lv_goto (tgt := 287) hx hb dX12_takeField_263 (by decide) ?_
              exact P287 x3 r_85 w_83 z2 H locs ls hf hk2 hH (lv_sub hl [0, 1, 2] rfl)
      unfold f_X12_takeField_159b at hf
      refine lv_iload_n hx hb dX12_takeField_159 rfl (lv_at hl 1 rfl) ?_
      refine lv_aload_n hx hb dX12_takeField_160 rfl (lv_at hl 0 rfl) ?_
      refine am_get hx hb hts hK hown hH (am_o12 (p := 271) (by decide +kernel)) rfl am_inX12 13 (by decide) am_q1332 (v := .int (w.1 271 13)) rfl dX12_takeField_161 ?_
      refine lv_icmp_ge (tgt := 330) hx hb dX12_takeField_164 (by decide) (fun hc_86 => ?_) (fun hc_86 => ?_)
      · have hf := (if_pos hc_86).symm.trans hf
        obtain ⟨y_87, hf, hzy_87⟩ := am_x_some hf
        rw [hzy_87] at hk1
        have hf := hf.trans (congrArg some (show y_87 = (rr, ww) from hk1))
        refine lv_aload_n hx hb dX12_takeField_330 rfl (lv_at hl 0 rfl) ?_
        refine lv_iconst (v := 0) hx hb dX12_takeField_331 (by decide) ?_
        obtain ⟨w_88, hw_88, hf⟩ := am_v_some hf
        refine am_puti hx hb hts hK hown hH (am_o12 (p := 271) (by decide +kernel)) rfl am_inX12 tyX12 tyX12_ok nmX12 23 (by decide) am_q1342 rfl rfl rfl (fun _ _ => Nat.le_of_ble_eq_true rfl) (fun _ _ _ => rfl) dX12_takeField_332 (fun H locs hH => ?_)
        rw [← hw_88] at hH
        refine lv_aload_n hx hb dX12_takeField_335 rfl (lv_at hl 0 rfl) ?_
        refine lv_iconst (v := 0) hx hb dX12_takeField_336 (by decide) ?_
        obtain ⟨w_89, hw_89, hf⟩ := am_v_some hf
        refine am_puti hx hb hts hK hown hH (am_o12 (p := 271) (by decide +kernel)) rfl am_inX12 tyX12 tyX12_ok nmX12 29 (by decide) am_q1348 rfl rfl rfl (fun _ _ => Nat.le_of_ble_eq_true rfl) (fun _ _ _ => rfl) dX12_takeField_337 (fun H locs hH => ?_)
        rw [← hw_89] at hH
        refine lv_aload_n hx hb dX12_takeField_340 rfl (lv_at hl 0 rfl) ?_
        refine am_get hx hb hts hK hown hH (am_o12 (p := 271) (by decide +kernel)) rfl am_inX12 13 (by decide) am_q1332 (v := .int (w_89.1 271 13)) rfl dX12_takeField_341 ?_
        exact am_reti hx hb hr hlocks hH hf dX12_takeField_344
      · have hf := (if_neg hc_86).symm.trans hf
        refine lv_aload_n hx hb dX12_takeField_167 rfl (lv_at hl 0 rfl) ?_
        refine am_get hx hb hts hK hown hH (am_o12 (p := 271) (by decide +kernel)) rfl am_inX12 11 (by decide) am_q1330 (v := .ref (G.1 + 277)) rfl dX12_takeField_168 ?_
        refine lv_iconst (v := 5) hx hb dX12_takeField_171 (by decide) ?_
        refine lv_iload_n hx hb dX12_takeField_172 rfl (lv_at hl 1 rfl) ?_
        refine lv_imul hx hb dX12_takeField_173 ?_
        refine lv_iconst (v := 0) hx hb dX12_takeField_174 (by decide) ?_
        refine lv_iadd hx hb dX12_takeField_175 ?_
        obtain ⟨hi_90, hf⟩ := am_chk_some hf
        refine am_iald hx hb hK hH (am_ai_of (N := 50) (by decide +kernel)) hi_90 dX12_takeField_176 ?_
        refine lv_i2f hx hb dX12_takeField_177 ?_
        refine lv_ldcf (v := 1092616192) hx hb hown (hts _ am_q1497) dX12_takeField_178 ?_
        obtain ⟨hn_91, hf⟩ := am_n32_some hf
        refine lv_fdiv hx hb dX12_takeField_180 hn_91 ?_
        obtain ⟨x2_92, hx2_92, hf⟩ := am_v_some hf
        refine am_topf hx2_92 ?_
        refine lv_fstore_n (lv' := [(2, .float x2_92), (0, .ref (G.1 + 271)), (1, .int x1)]) hx hb dX12_takeField_181 rfl hl (by decide) rfl (fun ls hl => ?_)
        refine lv_aload_n hx hb dX12_takeField_182 rfl (lv_at hl 1 rfl) ?_
        refine am_get hx hb hts hK hown hH (am_o12 (p := 271) (by decide +kernel)) rfl am_inX12 19 (by decide) am_q1338 (v := .ref (G.1 + 283)) rfl dX12_takeField_183 ?_
        refine lv_iload_n hx hb dX12_takeField_186 rfl (lv_at hl 2 rfl) ?_
        refine lv_fload_n hx hb dX12_takeField_187 rfl (lv_at hl 0 rfl) ?_
        refine lv_aload_n hx hb dX12_takeField_188 rfl (lv_at hl 1 rfl) ?_
        refine am_get hx hb hts hK hown hH (am_o12 (p := 271) (by decide +kernel)) rfl am_inX12 11 (by decide) am_q1330 (v := .ref (G.1 + 277)) rfl dX12_takeField_189 ?_
        refine lv_iconst (v := 5) hx hb dX12_takeField_192 (by decide) ?_
        refine lv_iload_n hx hb dX12_takeField_193 rfl (lv_at hl 2 rfl) ?_
        refine lv_imul hx hb dX12_takeField_194 ?_
        refine lv_iconst (v := 1) hx hb dX12_takeField_195 (by decide) ?_
        refine lv_iadd hx hb dX12_takeField_196 ?_
        obtain ⟨hi_93, hf⟩ := am_chk_some hf
        refine am_iald hx hb hK hH (am_ai_of (N := 50) (by decide +kernel)) hi_93 dX12_takeField_197 ?_
        refine lv_i2f hx hb dX12_takeField_198 ?_
        obtain ⟨hn_94, hf⟩ := am_n32_some hf
        refine lv_fdiv hx hb dX12_takeField_199 hn_94 ?_
        obtain ⟨hi_95, hf⟩ := am_chk_some hf
        obtain ⟨w_96, hw_96, hf⟩ := am_v_some hf
        refine am_fast hx hb hK hH (am_af_of (N := 10) (by decide +kernel)) hi_95 dX12_takeField_200 (fun H locs hH => ?_)
        rw [← hw_96] at hH
        refine lv_aload_n hx hb dX12_takeField_201 rfl (lv_at hl 1 rfl) ?_
        refine am_get hx hb hts hK hown hH (am_o12 (p := 271) (by decide +kernel)) rfl am_inX12 19 (by decide) am_q1338 (v := .ref (G.1 + 283)) rfl dX12_takeField_202 ?_
        refine lv_iload_n hx hb dX12_takeField_205 rfl (lv_at hl 2 rfl) ?_
        refine lv_aload_n hx hb dX12_takeField_206 rfl (lv_at hl 1 rfl) ?_
        refine am_get hx hb hts hK hown hH (am_o12 (p := 271) (by decide +kernel)) rfl am_inX12 19 (by decide) am_q1338 (v := .ref (G.1 + 283)) rfl dX12_takeField_207 ?_
        refine lv_iload_n hx hb dX12_takeField_210 rfl (lv_at hl 2 rfl) ?_
        obtain ⟨hi_97, hf⟩ := am_chk_some hf
        refine am_fald hx hb hK hH (am_af_of (N := 10) (by decide +kernel)) hi_97 dX12_takeField_211 ?_
        refine lv_aload_n hx hb dX12_takeField_212 rfl (lv_at hl 1 rfl) ?_
        refine am_get hx hb hts hK hown hH (am_o12 (p := 271) (by decide +kernel)) rfl am_inX12 11 (by decide) am_q1330 (v := .ref (G.1 + 277)) rfl dX12_takeField_213 ?_
        refine lv_iconst (v := 5) hx hb dX12_takeField_216 (by decide) ?_
        refine lv_iload_n hx hb dX12_takeField_217 rfl (lv_at hl 2 rfl) ?_
        refine lv_imul hx hb dX12_takeField_218 ?_
        refine lv_iconst (v := 1) hx hb dX12_takeField_219 (by decide) ?_
        refine lv_iadd hx hb dX12_takeField_220 ?_
        obtain ⟨hi_98, hf⟩ := am_chk_some hf
        refine am_iald hx hb hK hH (am_ai_of (N := 50) (by decide +kernel)) hi_98 dX12_takeField_221 ?_
        refine lv_i2f hx hb dX12_takeField_222 ?_
        obtain ⟨hn_99, hf⟩ := am_n32_some hf
        refine lv_fdiv hx hb dX12_takeField_223 hn_99 ?_
        obtain ⟨hi_100, hf⟩ := am_chk_some hf
        obtain ⟨w_101, hw_101, hf⟩ := am_v_some hf
        refine am_fast hx hb hK hH (am_af_of (N := 10) (by decide +kernel)) hi_100 dX12_takeField_224 (fun H locs hH => ?_)
        rw [← hw_101] at hH
        refine lv_iconst (v := 0) hx hb dX12_takeField_225 (by decide) ?_
        refine lv_istore_n (lv' := [(3, .int (0 : Int32)), (2, .float x2_92), (0, .ref (G.1 + 271)), (1, .int x1)]) hx hb dX12_takeField_226 rfl hl (by decide) rfl (fun ls hl => ?_)
        exact P227 x1 am_fuel (0 : Int32) w_101 z1 H locs ls hf hk1 hH (lv_sub hl [2, 3, 0] rfl)
  have P124 : ∀ (n1 : Nat) (x1 : Int32) (w : am_S) (H : Heap) (locs : List Loc) (ls : Array Slot), am_loop (fun (st : (Int32 × am_S)) => f_X12_takeField_124b st.1 st.2) n1 (x1, w) = some (rr, ww) → am_H G w s H locs → lv_has ls 5 [(0, .ref (G.1 + 271)), (1, .int x1)] → W p l e { frames := 1, cells := 0, slots := 0, locals := 64 } s m [.ref (G.1 + 271)].toArray below meth c H locs 0 0 (MQ below (va_Qi (fun (x : Int32) (u : am_S) => x = rr ∧ u = ww) (am_U G) (am_A G)) [.ref (G.1 + 271)].toArray s 0 0 (am_A G)) (F0 m 124 ls []) := by
    intro n1
    induction n1 with
    | zero =>
      intro x1 w H locs ls hf hH hl
      exact (am_loop_zero hf).elim
    | succ n1 ih1 =>
      intro x1 w H locs ls hf hH hl
      obtain ⟨z1, hf, hk1⟩ := am_loop_succ hf
      have hf : f_X12_takeField_124b x1 w = some z1 := hf
      unfold f_X12_takeField_124b at hf
      refine lv_iload_n hx hb dX12_takeField_124 rfl (lv_at hl 1 rfl) ?_
      refine lv_sipush (v := 245) hx hb dX12_takeField_125 (by decide) ?_
      refine lv_icmp_ge (tgt := 144) hx hb dX12_takeField_128 (by decide) (fun hc_102 => ?_) (fun hc_102 => ?_)
      · have hf := (if_pos hc_102).symm.trans hf
        obtain ⟨y_103, hf, hzy_103⟩ := am_x_some hf
        rw [hzy_103] at hk1
        have hf := hf.trans (congrArg some (show y_103 = (rr, ww) from hk1))
        refine lv_aload_n hx hb dX12_takeField_144 rfl (lv_at hl 0 rfl) ?_
        refine am_get hx hb hts hK hown hH (am_o12 (p := 271) (by decide +kernel)) rfl am_inX12 17 (by decide) am_q1336 (v := .ref (G.1 + 281)) rfl dX12_takeField_145 ?_
        refine lv_bipush (v := 30) hx hb dX12_takeField_148 (by decide) ?_
        refine lv_aload_n hx hb dX12_takeField_150 rfl (lv_at hl 0 rfl) ?_
        refine am_get hx hb hts hK hown hH (am_o12 (p := 271) (by decide +kernel)) rfl am_inX12 10 (by decide) am_q1329 (v := .ref (G.1 + 276)) rfl dX12_takeField_151 ?_
        refine lv_iconst (v := 2) hx hb dX12_takeField_154 (by decide) ?_
        obtain ⟨hi_104, hf⟩ := am_chk_some hf
        refine am_iald hx hb hK hH (am_ai_of (N := 4) (by decide +kernel)) hi_104 dX12_takeField_155 ?_
        obtain ⟨hi_105, hf⟩ := am_chk_some hf
        obtain ⟨w_106, hw_106, hf⟩ := am_v_some hf
        refine am_iast hx hb hK hH (am_ai_of (N := 245) (by decide +kernel)) hi_105 dX12_takeField_156 (fun H locs hH => ?_)
        rw [← hw_106] at hH
        refine lv_iconst (v := 0) hx hb dX12_takeField_157 (by decide) ?_
        refine lv_istore_n (lv' := [(1, .int (0 : Int32)), (0, .ref (G.1 + 271))]) hx hb dX12_takeField_158 rfl hl (by decide) rfl (fun ls hl => ?_)
        exact P159 am_fuel (0 : Int32) w_106 H locs ls hf hH (lv_sub hl [1, 0] rfl)
      · have hf := (if_neg hc_102).symm.trans hf
        refine lv_aload_n hx hb dX12_takeField_131 rfl (lv_at hl 0 rfl) ?_
        refine am_get hx hb hts hK hown hH (am_o12 (p := 271) (by decide +kernel)) rfl am_inX12 17 (by decide) am_q1336 (v := .ref (G.1 + 281)) rfl dX12_takeField_132 ?_
        refine lv_iload_n hx hb dX12_takeField_135 rfl (lv_at hl 1 rfl) ?_
        refine lv_iconst (v := 0) hx hb dX12_takeField_136 (by decide) ?_
        obtain ⟨hi_107, hf⟩ := am_chk_some hf
        obtain ⟨w_108, hw_108, hf⟩ := am_v_some hf
        refine am_iast hx hb hK hH (am_ai_of (N := 245) (by decide +kernel)) hi_107 dX12_takeField_137 (fun H locs hH => ?_)
        rw [← hw_108] at hH
        obtain ⟨x1_109, hx1_109, hf⟩ := am_v_some hf
        refine lv_iinc (v := x1_109) (lv' := [(1, .int x1_109), (0, .ref (G.1 + 271))]) hx hb dX12_takeField_138 hl (k := 1) rfl (by rw [hx1_109]; rfl) (by decide) rfl (fun ls hl => ?_)
        refine lv_goto (tgt := 124) hx hb dX12_takeField_141 (by decide) ?_
        obtain rfl := Option.some.inj hf
        exact ih1 x1_109 w_108 H locs ls hk1 hH (lv_sub hl [1, 0] rfl)
  have P82 : ∀ (n1 : Nat) (x1 : Int32) (w : am_S) (H : Heap) (locs : List Loc) (ls : Array Slot), am_loop (fun (st : (Int32 × am_S)) => f_X12_takeField_82b st.1 st.2) n1 (x1, w) = some (rr, ww) → am_H G w s H locs → lv_has ls 5 [(0, .ref (G.1 + 271)), (1, .int x1)] → W p l e { frames := 1, cells := 0, slots := 0, locals := 64 } s m [.ref (G.1 + 271)].toArray below meth c H locs 0 0 (MQ below (va_Qi (fun (x : Int32) (u : am_S) => x = rr ∧ u = ww) (am_U G) (am_A G)) [.ref (G.1 + 271)].toArray s 0 0 (am_A G)) (F0 m 82 ls []) := by
    intro n1
    induction n1 with
    | zero =>
      intro x1 w H locs ls hf hH hl
      exact (am_loop_zero hf).elim
    | succ n1 ih1 =>
      intro x1 w H locs ls hf hH hl
      obtain ⟨z1, hf, hk1⟩ := am_loop_succ hf
      have hf : f_X12_takeField_82b x1 w = some z1 := hf
      unfold f_X12_takeField_82b at hf
      refine lv_iload_n hx hb dX12_takeField_82 rfl (lv_at hl 1 rfl) ?_
      refine lv_aload_n hx hb dX12_takeField_83 rfl (lv_at hl 0 rfl) ?_
      refine am_get hx hb hts hK hown hH (am_o12 (p := 271) (by decide +kernel)) rfl am_inX12 9 (by decide) am_q1328 (v := .int (w.1 271 9)) rfl dX12_takeField_84 ?_
      refine lv_icmp_ge (tgt := 122) hx hb dX12_takeField_87 (by decide) (fun hc_110 => ?_) (fun hc_110 => ?_)
      · have hf := (if_pos hc_110).symm.trans hf
        obtain ⟨y_111, hf, hzy_111⟩ := am_x_some hf
        rw [hzy_111] at hk1
        have hf := hf.trans (congrArg some (show y_111 = (rr, ww) from hk1))
        refine lv_iconst (v := 0) hx hb dX12_takeField_122 (by decide) ?_
        refine lv_istore_n (lv' := [(1, .int (0 : Int32)), (0, .ref (G.1 + 271))]) hx hb dX12_takeField_123 rfl hl (by decide) rfl (fun ls hl => ?_)
        exact P124 am_fuel (0 : Int32) w H locs ls hf hH (lv_sub hl [1, 0] rfl)
      · have hf := (if_neg hc_110).symm.trans hf
        refine lv_aload_n hx hb dX12_takeField_90 rfl (lv_at hl 0 rfl) ?_
        refine am_get hx hb hts hK hown hH (am_o12 (p := 271) (by decide +kernel)) rfl am_inX12 12 (by decide) am_q1331 (v := .ref (G.1 + 278)) rfl dX12_takeField_91 ?_
        refine lv_aload_n hx hb dX12_takeField_94 rfl (lv_at hl 0 rfl) ?_
        refine am_get hx hb hts hK hown hH (am_o12 (p := 271) (by decide +kernel)) rfl am_inX12 7 (by decide) am_q1326 (v := .ref (G.1 + 275)) rfl dX12_takeField_95 ?_
        refine lv_iconst (v := 2) hx hb dX12_takeField_98 (by decide) ?_
        refine lv_iload_n hx hb dX12_takeField_99 rfl (lv_at hl 1 rfl) ?_
        refine lv_imul hx hb dX12_takeField_100 ?_
        obtain ⟨hi_112, hf⟩ := am_chk_some hf
        refine am_iald hx hb hK hH (am_ai_of (N := 12) (by decide +kernel)) hi_112 dX12_takeField_101 ?_
        refine lv_dup2_11 hx hb dX12_takeField_102 rfl rfl ?_
        obtain ⟨hi_113, hf⟩ := am_chk_some hf
        refine am_iald hx hb hK hH (am_ai_of (N := 7) (by decide +kernel)) hi_113 dX12_takeField_103 ?_
        refine lv_aload_n hx hb dX12_takeField_104 rfl (lv_at hl 0 rfl) ?_
        refine am_get hx hb hts hK hown hH (am_o12 (p := 271) (by decide +kernel)) rfl am_inX12 7 (by decide) am_q1326 (v := .ref (G.1 + 275)) rfl dX12_takeField_105 ?_
        refine lv_iconst (v := 2) hx hb dX12_takeField_108 (by decide) ?_
        refine lv_iload_n hx hb dX12_takeField_109 rfl (lv_at hl 1 rfl) ?_
        refine lv_imul hx hb dX12_takeField_110 ?_
        refine lv_iconst (v := 1) hx hb dX12_takeField_111 (by decide) ?_
        refine lv_iadd hx hb dX12_takeField_112 ?_
        obtain ⟨hi_114, hf⟩ := am_chk_some hf
        refine am_iald hx hb hK hH (am_ai_of (N := 12) (by decide +kernel)) hi_114 dX12_takeField_113 ?_
        refine lv_iadd hx hb dX12_takeField_114 ?_
        obtain ⟨hi_115, hf⟩ := am_chk_some hf
        obtain ⟨w_116, hw_116, hf⟩ := am_v_some hf
        refine am_iast hx hb hK hH (am_ai_of (N := 7) (by decide +kernel)) hi_115 dX12_takeField_115 (fun H locs hH => ?_)
        rw [← hw_116] at hH
        obtain ⟨x1_117, hx1_117, hf⟩ := am_v_some hf
        refine lv_iinc (v := x1_117) (lv' := [(1, .int x1_117), (0, .ref (G.1 + 271))]) hx hb dX12_takeField_116 hl (k := 1) rfl (by rw [hx1_117]; rfl) (by decide) rfl (fun ls hl => ?_)
        refine lv_goto (tgt := 82) hx hb dX12_takeField_119 (by decide) ?_
        obtain rfl := Option.some.inj hf
        exact ih1 x1_117 w_116 H locs ls hk1 hH (lv_sub hl [1, 0] rfl)
  have P61 : ∀ (n1 : Nat) (x1 : Int32) (w : am_S) (H : Heap) (locs : List Loc) (ls : Array Slot), am_loop (fun (st : (Int32 × am_S)) => f_X12_takeField_61b st.1 st.2) n1 (x1, w) = some (rr, ww) → am_H G w s H locs → lv_has ls 5 [(0, .ref (G.1 + 271)), (1, .int x1)] → W p l e { frames := 1, cells := 0, slots := 0, locals := 64 } s m [.ref (G.1 + 271)].toArray below meth c H locs 0 0 (MQ below (va_Qi (fun (x : Int32) (u : am_S) => x = rr ∧ u = ww) (am_U G) (am_A G)) [.ref (G.1 + 271)].toArray s 0 0 (am_A G)) (F0 m 61 ls []) := by
    intro n1
    induction n1 with
    | zero =>
      intro x1 w H locs ls hf hH hl
      exact (am_loop_zero hf).elim
    | succ n1 ih1 =>
      intro x1 w H locs ls hf hH hl
      obtain ⟨z1, hf, hk1⟩ := am_loop_succ hf
      have hf : f_X12_takeField_61b x1 w = some z1 := hf
      unfold f_X12_takeField_61b at hf
      refine lv_iload_n hx hb dX12_takeField_61 rfl (lv_at hl 1 rfl) ?_
      refine lv_bipush (v := 6) hx hb dX12_takeField_62 (by decide) ?_
      refine lv_icmp_gt (tgt := 80) hx hb dX12_takeField_64 (by decide) (fun hc_118 => ?_) (fun hc_118 => ?_)
      · have hf := (if_pos hc_118).symm.trans hf
        obtain ⟨y_119, hf, hzy_119⟩ := am_x_some hf
        rw [hzy_119] at hk1
        have hf := hf.trans (congrArg some (show y_119 = (rr, ww) from hk1))
        refine lv_iconst (v := 0) hx hb dX12_takeField_80 (by decide) ?_
        refine lv_istore_n (lv' := [(1, .int (0 : Int32)), (0, .ref (G.1 + 271))]) hx hb dX12_takeField_81 rfl hl (by decide) rfl (fun ls hl => ?_)
        exact P82 am_fuel (0 : Int32) w H locs ls hf hH (lv_sub hl [1, 0] rfl)
      · have hf := (if_neg hc_118).symm.trans hf
        refine lv_aload_n hx hb dX12_takeField_67 rfl (lv_at hl 0 rfl) ?_
        refine am_get hx hb hts hK hown hH (am_o12 (p := 271) (by decide +kernel)) rfl am_inX12 12 (by decide) am_q1331 (v := .ref (G.1 + 278)) rfl dX12_takeField_68 ?_
        refine lv_iload_n hx hb dX12_takeField_71 rfl (lv_at hl 1 rfl) ?_
        refine lv_iconst (v := 0) hx hb dX12_takeField_72 (by decide) ?_
        obtain ⟨hi_120, hf⟩ := am_chk_some hf
        obtain ⟨w_121, hw_121, hf⟩ := am_v_some hf
        refine am_iast hx hb hK hH (am_ai_of (N := 7) (by decide +kernel)) hi_120 dX12_takeField_73 (fun H locs hH => ?_)
        rw [← hw_121] at hH
        obtain ⟨x1_122, hx1_122, hf⟩ := am_v_some hf
        refine lv_iinc (v := x1_122) (lv' := [(1, .int x1_122), (0, .ref (G.1 + 271))]) hx hb dX12_takeField_74 hl (k := 1) rfl (by rw [hx1_122]; rfl) (by decide) rfl (fun ls hl => ?_)
        refine lv_goto (tgt := 61) hx hb dX12_takeField_77 (by decide) ?_
        obtain rfl := Option.some.inj hf
        exact ih1 x1_122 w_121 H locs ls hk1 hH (lv_sub hl [1, 0] rfl)
  have P35 : ∀ (n1 : Nat) (x1 : Int32) (w : am_S) (H : Heap) (locs : List Loc) (ls : Array Slot), am_loop (fun (st : (Int32 × am_S)) => f_X12_takeField_35b st.1 st.2) n1 (x1, w) = some (rr, ww) → am_H G w s H locs → lv_has ls 5 [(0, .ref (G.1 + 271)), (1, .int x1)] → W p l e { frames := 1, cells := 0, slots := 0, locals := 64 } s m [.ref (G.1 + 271)].toArray below meth c H locs 0 0 (MQ below (va_Qi (fun (x : Int32) (u : am_S) => x = rr ∧ u = ww) (am_U G) (am_A G)) [.ref (G.1 + 271)].toArray s 0 0 (am_A G)) (F0 m 35 ls []) := by
    intro n1
    induction n1 with
    | zero =>
      intro x1 w H locs ls hf hH hl
      exact (am_loop_zero hf).elim
    | succ n1 ih1 =>
      intro x1 w H locs ls hf hH hl
      obtain ⟨z1, hf, hk1⟩ := am_loop_succ hf
      have hf : f_X12_takeField_35b x1 w = some z1 := hf
      unfold f_X12_takeField_35b at hf
      refine lv_iload_n hx hb dX12_takeField_35 rfl (lv_at hl 1 rfl) ?_
      refine lv_bipush (v := 50) hx hb dX12_takeField_36 (by decide) ?_
      refine lv_icmp_ge (tgt := 59) hx hb dX12_takeField_38 (by decide) (fun hc_123 => ?_) (fun hc_123 => ?_)
      · have hf := (if_pos hc_123).symm.trans hf
        obtain ⟨y_124, hf, hzy_124⟩ := am_x_some hf
        rw [hzy_124] at hk1
        have hf := hf.trans (congrArg some (show y_124 = (rr, ww) from hk1))
        refine lv_iconst (v := 0) hx hb dX12_takeField_59 (by decide) ?_
        refine lv_istore_n (lv' := [(1, .int (0 : Int32)), (0, .ref (G.1 + 271))]) hx hb dX12_takeField_60 rfl hl (by decide) rfl (fun ls hl => ?_)
        exact P61 am_fuel (0 : Int32) w H locs ls hf hH (lv_sub hl [1, 0] rfl)
      · have hf := (if_neg hc_123).symm.trans hf
        refine lv_aload_n hx hb dX12_takeField_41 rfl (lv_at hl 0 rfl) ?_
        refine am_get hx hb hts hK hown hH (am_o12 (p := 271) (by decide +kernel)) rfl am_inX12 11 (by decide) am_q1330 (v := .ref (G.1 + 277)) rfl dX12_takeField_42 ?_
        refine lv_iload_n hx hb dX12_takeField_45 rfl (lv_at hl 1 rfl) ?_
        refine lv_aload_n hx hb dX12_takeField_46 rfl (lv_at hl 0 rfl) ?_
        refine am_get hx hb hts hK hown hH (am_o12 (p := 271) (by decide +kernel)) rfl am_inX12 6 (by decide) am_q1325 (v := .ref (G.1 + 274)) rfl dX12_takeField_47 ?_
        refine lv_iload_n hx hb dX12_takeField_50 rfl (lv_at hl 1 rfl) ?_
        obtain ⟨hi_125, hf⟩ := am_chk_some hf
        refine am_iald hx hb hK hH (am_ai_of (N := 50) (by decide +kernel)) hi_125 dX12_takeField_51 ?_
        obtain ⟨hi_126, hf⟩ := am_chk_some hf
        obtain ⟨w_127, hw_127, hf⟩ := am_v_some hf
        refine am_iast hx hb hK hH (am_ai_of (N := 50) (by decide +kernel)) hi_126 dX12_takeField_52 (fun H locs hH => ?_)
        rw [← hw_127] at hH
        obtain ⟨x1_128, hx1_128, hf⟩ := am_v_some hf
        refine lv_iinc (v := x1_128) (lv' := [(1, .int x1_128), (0, .ref (G.1 + 271))]) hx hb dX12_takeField_53 hl (k := 1) rfl (by rw [hx1_128]; rfl) (by decide) rfl (fun ls hl => ?_)
        refine lv_goto (tgt := 35) hx hb dX12_takeField_56 (by decide) ?_
        obtain rfl := Option.some.inj hf
        exact ih1 x1_128 w_127 H locs ls hk1 hH (lv_sub hl [1, 0] rfl)
  have P10 : ∀ (n1 : Nat) (x1 : Int32) (w : am_S) (H : Heap) (locs : List Loc) (ls : Array Slot), am_loop (fun (st : (Int32 × am_S)) => f_X12_takeField_10b st.1 st.2) n1 (x1, w) = some (rr, ww) → am_H G w s H locs → lv_has ls 5 [(0, .ref (G.1 + 271)), (1, .int x1)] → W p l e { frames := 1, cells := 0, slots := 0, locals := 64 } s m [.ref (G.1 + 271)].toArray below meth c H locs 0 0 (MQ below (va_Qi (fun (x : Int32) (u : am_S) => x = rr ∧ u = ww) (am_U G) (am_A G)) [.ref (G.1 + 271)].toArray s 0 0 (am_A G)) (F0 m 10 ls []) := by
    intro n1
    induction n1 with
    | zero =>
      intro x1 w H locs ls hf hH hl
      exact (am_loop_zero hf).elim
    | succ n1 ih1 =>
      intro x1 w H locs ls hf hH hl
      obtain ⟨z1, hf, hk1⟩ := am_loop_succ hf
      have hf : f_X12_takeField_10b x1 w = some z1 := hf
      unfold f_X12_takeField_10b at hf
      refine lv_iload_n hx hb dX12_takeField_10 rfl (lv_at hl 1 rfl) ?_
      refine lv_iconst (v := 4) hx hb dX12_takeField_11 (by decide) ?_
      refine lv_icmp_ge (tgt := 33) hx hb dX12_takeField_12 (by decide) (fun hc_129 => ?_) (fun hc_129 => ?_)
      · have hf := (if_pos hc_129).symm.trans hf
        obtain ⟨y_130, hf, hzy_130⟩ := am_x_some hf
        rw [hzy_130] at hk1
        have hf := hf.trans (congrArg some (show y_130 = (rr, ww) from hk1))
        refine lv_iconst (v := 0) hx hb dX12_takeField_33 (by decide) ?_
        refine lv_istore_n (lv' := [(1, .int (0 : Int32)), (0, .ref (G.1 + 271))]) hx hb dX12_takeField_34 rfl hl (by decide) rfl (fun ls hl => ?_)
        exact P35 am_fuel (0 : Int32) w H locs ls hf hH (lv_sub hl [1, 0] rfl)
      · have hf := (if_neg hc_129).symm.trans hf
        refine lv_aload_n hx hb dX12_takeField_15 rfl (lv_at hl 0 rfl) ?_
        refine am_get hx hb hts hK hown hH (am_o12 (p := 271) (by decide +kernel)) rfl am_inX12 10 (by decide) am_q1329 (v := .ref (G.1 + 276)) rfl dX12_takeField_16 ?_
        refine lv_iload_n hx hb dX12_takeField_19 rfl (lv_at hl 1 rfl) ?_
        refine lv_aload_n hx hb dX12_takeField_20 rfl (lv_at hl 0 rfl) ?_
        refine am_get hx hb hts hK hown hH (am_o12 (p := 271) (by decide +kernel)) rfl am_inX12 5 (by decide) am_q1324 (v := .ref (G.1 + 273)) rfl dX12_takeField_21 ?_
        refine lv_iload_n hx hb dX12_takeField_24 rfl (lv_at hl 1 rfl) ?_
        obtain ⟨hi_131, hf⟩ := am_chk_some hf
        refine am_iald hx hb hK hH (am_ai_of (N := 4) (by decide +kernel)) hi_131 dX12_takeField_25 ?_
        obtain ⟨hi_132, hf⟩ := am_chk_some hf
        obtain ⟨w_133, hw_133, hf⟩ := am_v_some hf
        refine am_iast hx hb hK hH (am_ai_of (N := 4) (by decide +kernel)) hi_132 dX12_takeField_26 (fun H locs hH => ?_)
        rw [← hw_133] at hH
        obtain ⟨x1_134, hx1_134, hf⟩ := am_v_some hf
        refine lv_iinc (v := x1_134) (lv' := [(1, .int x1_134), (0, .ref (G.1 + 271))]) hx hb dX12_takeField_27 hl (k := 1) rfl (by rw [hx1_134]; rfl) (by decide) rfl (fun ls hl => ?_)
        refine lv_goto (tgt := 10) hx hb dX12_takeField_30 (by decide) ?_
        obtain rfl := Option.some.inj hf
        exact ih1 x1_134 w_133 H locs ls hk1 hH (lv_sub hl [1, 0] rfl)
  refine am_enter (lv := [(0, .ref (G.1 + 271))]) (Nat.le_of_ble_eq_true rfl) rfl (fun ls hl => ?_)
  unfold f_X12_takeField at hf
  refine am_start hH (fun H locs hH => ?_)
  refine lv_aload_n hx hb dX12_takeField_0 rfl (lv_at hl 0 rfl) ?_
  refine lv_aload_n hx hb dX12_takeField_1 rfl (lv_at hl 0 rfl) ?_
  refine am_get hx hb hts hK hown hH (am_o12 (p := 271) (by decide +kernel)) rfl am_inX12 8 (by decide) am_q1327 (v := .int (w.1 271 8)) rfl dX12_takeField_2 ?_
  obtain ⟨w_135, hw_135, hf⟩ := am_v_some hf
  refine am_puti hx hb hts hK hown hH (am_o12 (p := 271) (by decide +kernel)) rfl am_inX12 tyX12 tyX12_ok nmX12 13 (by decide) am_q1332 rfl rfl rfl (fun _ _ => Nat.le_of_ble_eq_true rfl) (fun _ _ _ => rfl) dX12_takeField_5 (fun H locs hH => ?_)
  rw [← hw_135] at hH
  refine lv_iconst (v := 0) hx hb dX12_takeField_8 (by decide) ?_
  refine lv_istore_n (lv' := [(1, .int (0 : Int32)), (0, .ref (G.1 + 271))]) hx hb dX12_takeField_9 rfl hl (by decide) rfl (fun ls hl => ?_)
  exact P10 am_fuel (0 : Int32) w_135 H locs ls hf hH (lv_sub hl [1, 0] rfl)
