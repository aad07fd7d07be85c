/-! functions and contracts of methods, by program (wip/whole/gen.py) -/
def f_X4_note (o0 : Nat) (a1 : Int32) (a2 : Int32) (a3 : Int32) (w : am_S) : Option am_S :=
  am_v ((w.1 o0 3) - (w.1 o0 3) / (100 : Int32) * (100 : Int32)) fun (x4_9 : Int32) => am_chk x4_9 100 (am_v (am_pi w (o0 + 1) x4_9.toNatClampNeg a1) fun (w_11 : am_S) => am_chk x4_9 100 (am_v (am_pi w_11 (o0 + 2) x4_9.toNatClampNeg a2) fun (w_13 : am_S) => am_chk x4_9 100 (am_v (am_pi w_13 (o0 + 3) x4_9.toNatClampNeg a3) fun (w_15 : am_S) => am_v (am_pi w_15 o0 3 ((w_15.1 o0 3) + (1 : Int32))) fun (w_16 : am_S) => some w_16)))
set_option maxRecDepth 100000 in
set_option maxHeartbeats 4000000 in
theorem k_X4_note {G : am_G} {l : Launch} {o0 : Nat} {a1 : Int32} {a2 : Int32} {a3 : Int32} (ho0 : am_f4 o0) {w : am_S} {ww : am_S} (hf : f_X4_note o0 a1 a2 a3 w = some ww) : am_Mv G l yX4_note (Cond.code yX4_note cX4_note 5 none :: am_T) { frames := 0, cells := 0, slots := 0, locals := 0 } [.ref (G.1 + o0), .int a1, .int a2, .int a3] w ww := by
  refine Met.ofW (cc := cX4_note) (maxL := 5) (ret := none) (by decide) rfl ?_
  intro p e s m args below meth c s₁ B hml hv
  obtain ⟨rfl, hx, hb, hr, hts, hown, hlocks, hK, hE, hH⟩ := am_begin B hv
  have hown : s.vm.findClass RX4 = some m.cls := hown
  show W p l e { frames := 0, cells := 0, slots := 0, locals := 0 } s m _ below meth c s.heap [] 0 0 _ _
  refine am_enter (lv := [(0, .ref (G.1 + o0)), (1, .int a1), (2, .int a2), (3, .int a3)]) (Nat.le_of_ble_eq_true rfl) rfl (fun ls hl => ?_)
  unfold f_X4_note at hf
  refine am_start hH (fun H locs hH => ?_)
  refine lv_aload_n hx hb dX4_note_0 rfl (lv_at hl 0 rfl) ?_
  refine am_get hx hb hts hK hown hH (am_o4 ho0.1) rfl am_inX4 3 (by decide) am_q212 (v := .int (w.1 o0 3)) rfl dX4_note_1 ?_
  refine lv_bipush (v := 100) hx hb dX4_note_4 (by decide) ?_
  refine lv_irem hx hb dX4_note_6 (by decide) ?_
  obtain ⟨x4_9, hx4_9, hf⟩ := am_v_some hf
  refine am_topi hx4_9 ?_
  refine lv_istore (lv' := [(4, .int x4_9), (0, .ref (G.1 + o0)), (1, .int a1), (2, .int a2), (3, .int a3)]) hx hb dX4_note_7 hl (by decide) rfl (fun ls hl => ?_)
  refine lv_aload_n hx hb dX4_note_9 rfl (lv_at hl 1 rfl) ?_
  refine am_get hx hb hts hK hown hH (am_o4 ho0.1) rfl am_inX4 0 (by decide) am_q209 (v := .ref (G.1 + (o0 + 1))) rfl dX4_note_10 ?_
  refine lv_iload hx hb dX4_note_13 (lv_at hl 0 rfl) ?_
  refine lv_iload_n hx hb dX4_note_15 rfl (lv_at hl 2 rfl) ?_
  obtain ⟨hi_10, hf⟩ := am_chk_some hf
  obtain ⟨w_11, hw_11, hf⟩ := am_v_some hf
  refine am_iast hx hb hK hH (am_ai_of (N := 100) ho0.2.1) hi_10 dX4_note_16 (fun H locs hH => ?_)
  rw [← hw_11] at hH
  refine lv_aload_n hx hb dX4_note_17 rfl (lv_at hl 1 rfl) ?_
  refine am_get hx hb hts hK hown hH (am_o4 ho0.1) rfl am_inX4 1 (by decide) am_q210 (v := .ref (G.1 + (o0 + 2))) rfl dX4_note_18 ?_
  refine lv_iload hx hb dX4_note_21 (lv_at hl 0 rfl) ?_
  refine lv_iload_n hx hb dX4_note_23 rfl (lv_at hl 3 rfl) ?_
  obtain ⟨hi_12, hf⟩ := am_chk_some hf
  obtain ⟨w_13, hw_13, hf⟩ := am_v_some hf
  refine am_iast hx hb hK hH (am_ai_of (N := 100) ho0.2.2.1) hi_12 dX4_note_24 (fun H locs hH => ?_)
  rw [← hw_13] at hH
  refine lv_aload_n hx hb dX4_note_25 rfl (lv_at hl 1 rfl) ?_
  refine am_get hx hb hts hK hown hH (am_o4 ho0.1) rfl am_inX4 2 (by decide) am_q211 (v := .ref (G.1 + (o0 + 3))) rfl dX4_note_26 ?_
  refine lv_iload hx hb dX4_note_29 (lv_at hl 0 rfl) ?_
  refine lv_iload_n hx hb dX4_note_31 rfl (lv_at hl 4 rfl) ?_
  obtain ⟨hi_14, hf⟩ := am_chk_some hf
  obtain ⟨w_15, hw_15, hf⟩ := am_v_some hf
  refine am_iast hx hb hK hH (am_ai_of (N := 100) ho0.2.2.2) hi_14 dX4_note_32 (fun H locs hH => ?_)
  rw [← hw_15] at hH
  refine lv_aload_n hx hb dX4_note_33 rfl (lv_at hl 1 rfl) ?_
  refine lv_dup hx hb dX4_note_34 rfl ?_
  refine am_get hx hb hts hK hown hH (am_o4 ho0.1) rfl am_inX4 3 (by decide) am_q212 (v := .int (w_15.1 o0 3)) rfl dX4_note_35 ?_
  refine lv_iconst (v := 1) hx hb dX4_note_38 (by decide) ?_
  refine lv_iadd hx hb dX4_note_39 ?_
  obtain ⟨w_16, hw_16, hf⟩ := am_v_some hf
  refine am_puti hx hb hts hK hown hH (am_o4 ho0.1) rfl am_inX4 tyX4 tyX4_ok nmX4 3 (by decide) am_q212 rfl rfl rfl (fun _ _ => Nat.le_of_ble_eq_true rfl) (fun _ _ _ => rfl) dX4_note_40 (fun H locs hH => ?_)
  rw [← hw_16] at hH
  exact am_retv hx hb hr hlocks hH hf dX4_note_43

def f_X11_attempt (a1 : Int32) (a2 : Int32) (a3 : Int32) (a4 : Int64) (w : am_S) : Option (Int32 × am_S) :=
  am_b2 (f_X2_refusalOf 23 a1 a2 a3 w) fun r_20 w_18 => if r_20 = (-1 : Int32) then (am_b1 (f_X3_keep 23 w_18) fun w_22 => am_b2 (f_X2_carryOut 23 a1 a2 a3 a4 w_22) fun r_26 w_24 => am_b2 (f_X2_loggedUser a1 a2 a3 r_26 w_24) fun r_29 w_27 => am_b2 (f_X9_knownCount 23 w_27) fun r_32 w_30 => am_b1 (f_X4_note 38 a1 r_29 r_32 w_30) fun w_33 => some (r_26, w_33)) else (some ((-1 : Int32) - r_20, w_18))
set_option maxRecDepth 100000 in
set_option maxHeartbeats 4000000 in
theorem k_X11_attempt {G : am_G} {l : Launch} {a1 : Int32} {a2 : Int32} {a3 : Int32} {a4 : Int64}  {w : am_S} {rr : Int32} {ww : am_S} (hf : f_X11_attempt a1 a2 a3 a4 w = some (rr, ww)) : am_Mi G l yX11_attempt (Cond.code yX11_attempt cX11_attempt 8 (some .int) :: am_T) { frames := 5, cells := 0, slots := 0, locals := 320 } [.ref (G.1 + 0), .int a1, .int a2, .int a3, .long a4] w rr ww := by
  refine Met.ofW (cc := cX11_attempt) (maxL := 8) (ret := (some .int)) (by decide) rfl ?_
  intro p e s m args below meth c s₁ B hml hv
  obtain ⟨rfl, hx, hb, hr, hts, hown, hlocks, hK, hE, hH⟩ := am_begin B hv
  have hown : s.vm.findClass RX11 = some m.cls := hown
  show W p l e { frames := 5, cells := 0, slots := 0, locals := 320 } s m _ below meth c s.heap [] 0 0 _ _
  refine am_enter (lv := [(0, .ref (G.1 + 0)), (1, .int a1), (2, .int a2), (3, .int a3), (4, .long a4)]) (Nat.le_of_ble_eq_true rfl) rfl (fun ls hl => ?_)
  unfold f_X11_attempt at hf
  refine am_start hH (fun H locs hH => ?_)
  refine lv_aload_n hx hb dX11_attempt_0 rfl (lv_at hl 0 rfl) ?_
  refine am_get hx hb hts hK hown hH (am_o11 (p := 0) (by decide +kernel)) rfl am_inX11 14 (by decide) am_q345 (v := .ref (G.1 + 255)) rfl dX11_attempt_1 ?_
  refine lv_aload_n hx hb dX11_attempt_4 rfl (lv_at hl 0 rfl) ?_
  refine am_get hx hb hts hK hown hH (am_o11 (p := 0) (by decide +kernel)) rfl am_inX11 5 (by decide) am_q336 (v := .ref (G.1 + 23)) rfl dX11_attempt_5 ?_
  refine lv_iload_n hx hb dX11_attempt_8 rfl (lv_at hl 1 rfl) ?_
  refine lv_iload_n hx hb dX11_attempt_9 rfl (lv_at hl 2 rfl) ?_
  refine lv_iload_n hx hb dX11_attempt_10 rfl (lv_at hl 3 rfl) ?_
  obtain ⟨r_20, w_18, hq_19, hf⟩ := am_b2_some hf
  refine am_calli (r := r_20) (w' := w_18) (am_runV (n := 4) (As := [.ref (G.1 + 23), .int a1, .int a2, .int a3]) (rest := []) ⟨hx, hb, hml, hown, hts⟩ hK hE hH (k_X2_refusalOf (by decide +kernel) hq_19) (am_gV am_q733 am_q734 am_q735 am_q10 am_q736) (am_o2 (p := 255) (by decide +kernel)) rfl ⟨rfl, rfl⟩ (by decide +kernel) ⟨Nat.le_of_ble_eq_true rfl, Nat.le_of_ble_eq_true rfl⟩ rfl hl.1 rfl (Nat.le_of_ble_eq_true rfl) ⟨Nat.zero_le _, Nat.zero_le _⟩ dX11_attempt_11) hH (fun H locs hH => ?_)
  refine lv_istore (lv' := [(6, .int r_20), (0, .ref (G.1 + 0)), (1, .int a1), (2, .int a2), (3, .int a3), (4, .long a4)]) hx hb dX11_attempt_14 hl (by decide) rfl (fun ls hl => ?_)
  refine lv_iload hx hb dX11_attempt_16 (lv_at hl 0 rfl) ?_
  refine lv_iconst (v := -1) hx hb dX11_attempt_18 (by decide) ?_
  refine lv_icmp_eq (tgt := 27) hx hb dX11_attempt_19 (by decide) (fun hc_21 => ?_) (fun hc_21 => ?_)
  · have hf := (if_pos hc_21).symm.trans hf
    refine lv_aload_n hx hb dX11_attempt_27 rfl (lv_at hl 1 rfl) ?_
    refine am_get hx hb hts hK hown hH (am_o11 (p := 0) (by decide +kernel)) rfl am_inX11 10 (by decide) am_q341 (v := .ref (G.1 + 46)) rfl dX11_attempt_28 ?_
    refine lv_aload_n hx hb dX11_attempt_31 rfl (lv_at hl 1 rfl) ?_
    refine am_get hx hb hts hK hown hH (am_o11 (p := 0) (by decide +kernel)) rfl am_inX11 5 (by decide) am_q336 (v := .ref (G.1 + 23)) rfl dX11_attempt_32 ?_
    obtain ⟨w_22, hq_23, hf⟩ := am_b1_some hf
    refine am_callv (w' := w_22) (am_runV (n := 1) (As := [.ref (G.1 + 23)]) (rest := []) ⟨hx, hb, hml, hown, hts⟩ hK hE hH (k_X3_keep (by decide +kernel) hq_23) (am_gV am_q771 am_q772 am_q773 am_q7 am_q774) (am_o3 (p := 46) (by decide +kernel)) rfl ⟨rfl, rfl⟩ (by decide +kernel) ⟨Nat.le_of_ble_eq_true rfl, Nat.le_of_ble_eq_true rfl⟩ rfl hl.1 rfl (Nat.le_of_ble_eq_true rfl) ⟨Nat.zero_le _, Nat.zero_le _⟩ dX11_attempt_35) hH (fun H locs hH => ?_)
    refine lv_aload_n hx hb dX11_attempt_38 rfl (lv_at hl 1 rfl) ?_
    refine am_get hx hb hts hK hown hH (am_o11 (p := 0) (by decide +kernel)) rfl am_inX11 14 (by decide) am_q345 (v := .ref (G.1 + 255)) rfl dX11_attempt_39 ?_
    refine lv_aload_n hx hb dX11_attempt_42 rfl (lv_at hl 1 rfl) ?_
    refine am_get hx hb hts hK hown hH (am_o11 (p := 0) (by decide +kernel)) rfl am_inX11 5 (by decide) am_q336 (v := .ref (G.1 + 23)) rfl dX11_attempt_43 ?_
    refine lv_iload_n hx hb dX11_attempt_46 rfl (lv_at hl 2 rfl) ?_
    refine lv_iload_n hx hb dX11_attempt_47 rfl (lv_at hl 3 rfl) ?_
    refine lv_iload_n hx hb dX11_attempt_48 rfl (lv_at hl 4 rfl) ?_
    refine lv_lload hx hb dX11_attempt_49 (lv_at hl 5 rfl) ?_
    obtain ⟨r_26, w_24, hq_25, hf⟩ := am_b2_some hf
    refine am_calli (r := r_26) (w' := w_24) (am_runV (n := 5) (As := [.ref (G.1 + 23), .int a1, .int a2, .int a3, .long a4]) (rest := []) ⟨hx, hb, hml, hown, hts⟩ hK hE hH (k_X2_carryOut (by decide +kernel) hq_25) (am_gV am_q781 am_q782 am_q783 am_q10 am_q784) (am_o2 (p := 255) (by decide +kernel)) rfl ⟨rfl, rfl⟩ (by decide +kernel) ⟨Nat.le_of_ble_eq_true rfl, Nat.le_of_ble_eq_true rfl⟩ rfl hl.1 rfl (Nat.le_of_ble_eq_true rfl) ⟨Nat.zero_le _, Nat.zero_le _⟩ dX11_attempt_51) hH (fun H locs hH => ?_)
    refine lv_istore (lv' := [(7, .int r_26), (6, .int r_20), (0, .ref (G.1 + 0)), (1, .int a1), (2, .int a2), (3, .int a3), (4, .long a4)]) hx hb dX11_attempt_54 hl (by decide) rfl (fun ls hl => ?_)
    refine lv_aload_n hx hb dX11_attempt_56 rfl (lv_at hl 2 rfl) ?_
    refine am_get hx hb hts hK hown hH (am_o11 (p := 0) (by decide +kernel)) rfl am_inX11 8 (by decide) am_q339 (v := .ref (G.1 + 38)) rfl dX11_attempt_57 ?_
    refine lv_iload_n hx hb dX11_attempt_60 rfl (lv_at hl 3 rfl) ?_
    refine lv_iload_n hx hb dX11_attempt_61 rfl (lv_at hl 3 rfl) ?_
    refine lv_iload_n hx hb dX11_attempt_62 rfl (lv_at hl 4 rfl) ?_
    refine lv_iload_n hx hb dX11_attempt_63 rfl (lv_at hl 5 rfl) ?_
    refine lv_iload hx hb dX11_attempt_64 (lv_at hl 0 rfl) ?_
    obtain ⟨r_29, w_27, hq_28, hf⟩ := am_b2_some hf
    refine am_calli (r := r_29) (w' := w_27) (am_runS (n := 4) (As := [.int a1, .int a2, .int a3, .int r_26]) (rest := [.int a1, .ref (G.1 + 38)]) ⟨hx, hb, hml, hown, hts⟩ hK hE hH (k_X2_loggedUser hq_28) (am_gS am_q855 am_q856 am_q10 am_q857) ⟨rfl, rfl⟩ (by decide +kernel) ⟨Nat.le_of_ble_eq_true rfl, Nat.le_of_ble_eq_true rfl⟩ rfl hl.1 rfl (Nat.le_of_ble_eq_true rfl) ⟨Nat.zero_le _, Nat.zero_le _⟩ dX11_attempt_66) hH (fun H locs hH => ?_)
    refine lv_aload_n hx hb dX11_attempt_69 rfl (lv_at hl 2 rfl) ?_
    refine am_get hx hb hts hK hown hH (am_o11 (p := 0) (by decide +kernel)) rfl am_inX11 5 (by decide) am_q336 (v := .ref (G.1 + 23)) rfl dX11_attempt_70 ?_
    obtain ⟨r_32, w_30, hq_31, hf⟩ := am_b2_some hf
    refine am_calli (r := r_32) (w' := w_30) (am_runV (n := 0) (As := []) (rest := [.int r_29, .int a1, .ref (G.1 + 38)]) ⟨hx, hb, hml, hown, hts⟩ hK hE hH (k_X9_knownCount (by decide +kernel) hq_31) (am_gV am_q858 am_q807 am_q808 am_q5 am_q809) (am_o9 (p := 23) (by decide +kernel)) rfl ⟨rfl, rfl⟩ (by decide +kernel) ⟨Nat.le_of_ble_eq_true rfl, Nat.le_of_ble_eq_true rfl⟩ rfl hl.1 rfl (Nat.le_of_ble_eq_true rfl) ⟨Nat.zero_le _, Nat.zero_le _⟩ dX11_attempt_73) hH (fun H locs hH => ?_)
    obtain ⟨w_33, hq_34, hf⟩ := am_b1_some hf
    refine am_callv (w' := w_33) (am_runV (n := 3) (As := [.int a1, .int r_29, .int r_32]) (rest := []) ⟨hx, hb, hml, hown, hts⟩ hK hE hH (k_X4_note (by decide +kernel) hq_34) (am_gV am_q859 am_q860 am_q861 am_q6 am_q862) (am_o4 (p := 38) (by decide +kernel)) rfl ⟨rfl, rfl⟩ (by decide +kernel) ⟨Nat.le_of_ble_eq_true rfl, Nat.le_of_ble_eq_true rfl⟩ rfl hl.1 rfl (Nat.le_of_ble_eq_true rfl) ⟨Nat.zero_le _, Nat.zero_le _⟩ dX11_attempt_76) hH (fun H locs hH => ?_)
    refine lv_iload hx hb dX11_attempt_79 (lv_at hl 0 rfl) ?_
    exact am_reti hx hb hr hlocks hH hf dX11_attempt_81
  · have hf := (if_neg hc_21).symm.trans hf
    refine lv_iconst (v := -1) hx hb dX11_attempt_22 (by decide) ?_
    refine lv_iload hx hb dX11_attempt_23 (lv_at hl 0 rfl) ?_
    refine lv_isub hx hb dX11_attempt_25 ?_
    exact am_reti hx hb hr hlocks hH hf dX11_attempt_26

def f_X11_act_42 (a1 : Int32) (a2 : Int32) (a3 : Int32) (a4 : Int64) (w : am_S) : Option (Int32 × am_S) :=
  some ((-1 : Int32), w)
def f_X11_act (a1 : Int32) (a2 : Int32) (a3 : Int32) (a4 : Int64) (w : am_S) : Option (Int32 × am_S) :=
  am_b2 (f_X11_attempt a1 a2 a3 a4 w) fun r_12 w_10 => if r_12 < 0 then (am_v ((-1 : Int32) - r_12) fun (x7_14 : Int32) => if (4 : Int32) ≤ x7_14 then (f_X11_act_42 a1 a2 a3 a4 w_10) else (am_chk x7_14 4 (am_chk x7_14 4 (am_v (am_pi w_10 248 x7_14.toNatClampNeg ((w_10.1 248 x7_14.toNatClampNeg) + (1 : Int32))) fun (w_18 : am_S) => f_X11_act_42 a1 a2 a3 a4 w_18)))) else (some (r_12, w_10))
set_option maxRecDepth 100000 in
set_option maxHeartbeats 4000000 in
theorem k_X11_act {G : am_G} {l : Launch} {a1 : Int32} {a2 : Int32} {a3 : Int32} {a4 : Int64}  {w : am_S} {rr : Int32} {ww : am_S} (hf : f_X11_act a1 a2 a3 a4 w = some (rr, ww)) : am_Mi G l yX11_act (Cond.code yX11_act cX11_act 8 (some .int) :: am_T) { frames := 6, cells := 0, slots := 0, locals := 384 } [.ref (G.1 + 0), .int a1, .int a2, .int a3, .long a4] w rr ww := by
  refine Met.ofW (cc := cX11_act) (maxL := 8) (ret := (some .int)) (by decide) rfl ?_
  intro p e s m args below meth c s₁ B hml hv
  obtain ⟨rfl, hx, hb, hr, hts, hown, hlocks, hK, hE, hH⟩ := am_begin B hv
  have hown : s.vm.findClass RX11 = some m.cls := hown
  show W p l e { frames := 6, cells := 0, slots := 0, locals := 384 } s m _ below meth c s.heap [] 0 0 _ _
  have P42 : ∀ (w : am_S) (H : Heap) (locs : List Loc) (ls : Array Slot), f_X11_act_42 a1 a2 a3 a4 w = some (rr, ww) → am_H G w s H locs → lv_has ls 8 [] → W p l e { frames := 6, cells := 0, slots := 0, locals := 384 } s m [.ref (G.1 + 0), .int a1, .int a2, .int a3, .long a4].toArray below meth c H locs 0 0 (MQ below (va_Qi (fun (x : Int32) (u : am_S) => x = rr ∧ u = ww) (am_U G) (am_A G)) [.ref (G.1 + 0), .int a1, .int a2, .int a3, .long a4].toArray s 0 0 (am_A G)) (F0 m 42 ls []) := by
    intro w H locs ls hf hH hl
    unfold f_X11_act_42 at hf
    refine lv_iconst (v := -1) hx hb dX11_act_42 (by decide) ?_
    exact am_reti hx hb hr hlocks hH hf dX11_act_43
  refine am_enter (lv := [(0, .ref (G.1 + 0)), (1, .int a1), (2, .int a2), (3, .int a3), (4, .long a4)]) (Nat.le_of_ble_eq_true rfl) rfl (fun ls hl => ?_)
  unfold f_X11_act at hf
  refine am_start hH (fun H locs hH => ?_)
  refine lv_aload_n hx hb dX11_act_0 rfl (lv_at hl 0 rfl) ?_
  refine lv_iload_n hx hb dX11_act_1 rfl (lv_at hl 1 rfl) ?_
  refine lv_iload_n hx hb dX11_act_2 rfl (lv_at hl 2 rfl) ?_
  refine lv_iload_n hx hb dX11_act_3 rfl (lv_at hl 3 rfl) ?_
  refine lv_lload hx hb dX11_act_4 (lv_at hl 4 rfl) ?_
  obtain ⟨r_12, w_10, hq_11, hf⟩ := am_b2_some hf
  refine am_calli (r := r_12) (w' := w_10) (am_runV (n := 4) (As := [.int a1, .int a2, .int a3, .long a4]) (rest := []) ⟨hx, hb, hml, hown, hts⟩ hK hE hH (k_X11_attempt hq_11) (am_gV am_q729 am_q731 am_qs17 am_q1 am_q732) (am_o11 (p := 0) (by decide +kernel)) rfl ⟨rfl, rfl⟩ (by decide +kernel) ⟨Nat.le_of_ble_eq_true rfl, Nat.le_of_ble_eq_true rfl⟩ rfl hl.1 rfl (Nat.le_of_ble_eq_true rfl) ⟨Nat.zero_le _, Nat.zero_le _⟩ dX11_act_6) hH (fun H locs hH => ?_)
  refine lv_istore (lv' := [(6, .int r_12), (0, .ref (G.1 + 0)), (1, .int a1), (2, .int a2), (3, .int a3), (4, .long a4)]) hx hb dX11_act_9 hl (by decide) rfl (fun ls hl => ?_)
  refine lv_iload hx hb dX11_act_11 (lv_at hl 0 rfl) ?_
  refine lv_if_lt (tgt := 19) hx hb dX11_act_13 (by decide) (fun hc_13 => ?_) (fun hc_13 => ?_)
  · have hf := (if_pos hc_13).symm.trans hf
    refine lv_iconst (v := -1) hx hb dX11_act_19 (by decide) ?_
    refine lv_iload hx hb dX11_act_20 (lv_at hl 0 rfl) ?_
    refine lv_isub hx hb dX11_act_22 ?_
    obtain ⟨x7_14, hx7_14, hf⟩ := am_v_some hf
    refine am_topi hx7_14 ?_
    refine lv_istore (lv' := [(7, .int x7_14), (6, .int r_12), (0, .ref (G.1 + 0)), (1, .int a1), (2, .int a2), (3, .int a3), (4, .long a4)]) hx hb dX11_act_23 hl (by decide) rfl (fun ls hl => ?_)
    refine lv_iload hx hb dX11_act_25 (lv_at hl 0 rfl) ?_
    refine lv_iconst (v := 4) hx hb dX11_act_27 (by decide) ?_
    refine lv_icmp_ge (tgt := 42) hx hb dX11_act_28 (by decide) (fun hc_15 => ?_) (fun hc_15 => ?_)
    · have hf := (if_pos hc_15).symm.trans hf
      exact P42 w_10 H locs ls hf hH (lv_sub hl [] rfl)
    · have hf := (if_neg hc_15).symm.trans hf
      refine lv_aload_n hx hb dX11_act_31 rfl (lv_at hl 2 rfl) ?_
      refine am_get hx hb hts hK hown hH (am_o11 (p := 0) (by decide +kernel)) rfl am_inX11 11 (by decide) am_q342 (v := .ref (G.1 + 248)) rfl dX11_act_32 ?_
      refine lv_iload hx hb dX11_act_35 (lv_at hl 0 rfl) ?_
      refine lv_dup2_11 hx hb dX11_act_37 rfl rfl ?_
      obtain ⟨hi_16, hf⟩ := am_chk_some hf
      refine am_iald hx hb hK hH (am_ai_of (N := 4) (by decide +kernel)) hi_16 dX11_act_38 ?_
      refine lv_iconst (v := 1) hx hb dX11_act_39 (by decide) ?_
      refine lv_iadd hx hb dX11_act_40 ?_
      obtain ⟨hi_17, hf⟩ := am_chk_some hf
      obtain ⟨w_18, hw_18, hf⟩ := am_v_some hf
      refine am_iast hx hb hK hH (am_ai_of (N := 4) (by decide +kernel)) hi_17 dX11_act_41 (fun H locs hH => ?_)
      rw [← hw_18] at hH
      exact P42 w_18 H locs ls hf hH (lv_sub hl [] rfl)
  · have hf := (if_neg hc_13).symm.trans hf
    refine lv_iload hx hb dX11_act_16 (lv_at hl 0 rfl) ?_
    exact am_reti hx hb hr hlocks hH hf dX11_act_18

def f_X11_capture (a1 : Int32) (w : am_S) : Option (Int32 × am_S) :=
  am_b2 (f_X11_act (5 : Int32) a1 (-1 : Int32) (0 : Int64) w) fun r_6 w_4 => some (r_6, w_4)
set_option maxRecDepth 100000 in
set_option maxHeartbeats 4000000 in
theorem k_X11_capture {G : am_G} {l : Launch} {a1 : Int32}  {w : am_S} {rr : Int32} {ww : am_S} (hf : f_X11_capture a1 w = some (rr, ww)) : am_Mi G l yX11_capture (Cond.code yX11_capture cX11_capture 2 (some .int) :: am_T) { frames := 7, cells := 0, slots := 0, locals := 448 } [.ref (G.1 + 0), .int a1] w rr ww := by
  refine Met.ofW (cc := cX11_capture) (maxL := 2) (ret := (some .int)) (by decide) rfl ?_
  intro p e s m args below meth c s₁ B hml hv
  obtain ⟨rfl, hx, hb, hr, hts, hown, hlocks, hK, hE, hH⟩ := am_begin B hv
  have hown : s.vm.findClass RX11 = some m.cls := hown
  show W p l e { frames := 7, cells := 0, slots := 0, locals := 448 } s m _ below meth c s.heap [] 0 0 _ _
  refine am_enter (lv := [(0, .ref (G.1 + 0)), (1, .int a1)]) (Nat.le_of_ble_eq_true rfl) rfl (fun ls hl => ?_)
  unfold f_X11_capture at hf
  refine am_start hH (fun H locs hH => ?_)
  refine lv_aload_n hx hb dX11_capture_0 rfl (lv_at hl 0 rfl) ?_
  refine lv_iconst (v := 5) hx hb dX11_capture_1 (by decide) ?_
  refine lv_iload_n hx hb dX11_capture_2 rfl (lv_at hl 1 rfl) ?_
  refine lv_iconst (v := -1) hx hb dX11_capture_3 (by decide) ?_
  refine lv_lconst (v := 0) hx hb dX11_capture_4 (by decide) ?_
  obtain ⟨r_6, w_4, hq_5, hf⟩ := am_b2_some hf
  refine am_calli (r := r_6) (w' := w_4) (am_runV (n := 4) (As := [.int (5 : Int32), .int a1, .int (-1 : Int32), .long (0 : Int64)]) (rest := []) ⟨hx, hb, hml, hown, hts⟩ hK hE hH (k_X11_act hq_5) (am_gV am_q725 am_q727 am_qs16 am_q1 am_q728) (am_o11 (p := 0) (by decide +kernel)) rfl ⟨rfl, rfl⟩ (by decide +kernel) ⟨Nat.le_of_ble_eq_true rfl, Nat.le_of_ble_eq_true rfl⟩ rfl hl.1 rfl (Nat.le_of_ble_eq_true rfl) ⟨Nat.zero_le _, Nat.zero_le _⟩ dX11_capture_5) hH (fun H locs hH => ?_)
  exact am_reti hx hb hr hlocks hH hf dX11_capture_8

def f_X11_noSlot_20 (a1 : Int32) (s0 : Int32) (w : am_S) : Option (Int32 × am_S) :=
  am_nar .boolean s0 (some (s0, w))
def f_X11_noSlot_15 (a1 : Int32) (w : am_S) : Option (Int32 × am_S) :=
  f_X11_noSlot_20 a1 (1 : Int32) w
def f_X11_noSlot (a1 : Int32) (w : am_S) : Option (Int32 × am_S) :=
  if a1 < 0 then (f_X11_noSlot_15 a1 w) else (am_b2 (f_X1_allSlots 11 w) fun r_10 w_8 => if a1 < r_10 then (f_X11_noSlot_20 a1 (0 : Int32) w_8) else (f_X11_noSlot_15 a1 w_8))
set_option maxRecDepth 100000 in
set_option maxHeartbeats 4000000 in
theorem k_X11_noSlot {G : am_G} {l : Launch} {a1 : Int32}  {w : am_S} {rr : Int32} {ww : am_S} (hf : f_X11_noSlot a1 w = some (rr, ww)) : am_Mi G l yX11_noSlot (Cond.code yX11_noSlot cX11_noSlot 2 (some .boolean) :: am_T) { frames := 1, cells := 0, slots := 0, locals := 64 } [.ref (G.1 + 0), .int a1] w rr ww := by
  refine Met.ofW (cc := cX11_noSlot) (maxL := 2) (ret := (some .boolean)) (by decide) rfl ?_
  intro p e s m args below meth c s₁ B hml hv
  obtain ⟨rfl, hx, hb, hr, hts, hown, hlocks, hK, hE, hH⟩ := am_begin B hv
  have hown : s.vm.findClass RX11 = some m.cls := hown
  show W p l e { frames := 1, cells := 0, slots := 0, locals := 64 } s m _ below meth c s.heap [] 0 0 _ _
  have P20 : ∀ (s0 : Int32) (w : am_S) (H : Heap) (locs : List Loc) (ls : Array Slot), f_X11_noSlot_20 a1 s0 w = some (rr, ww) → am_H G w s H locs → lv_has ls 2 [] → W p l e { frames := 1, cells := 0, slots := 0, locals := 64 } s m [.ref (G.1 + 0), .int a1].toArray below meth c H locs 0 0 (MQ below (va_Qi (fun (x : Int32) (u : am_S) => x = rr ∧ u = ww) (am_U G) (am_A G)) [.ref (G.1 + 0), .int a1].toArray s 0 0 (am_A G)) (F0 m 20 ls [.int s0]) := by
    intro s0 w H locs ls hf hH hl
    unfold f_X11_noSlot_20 at hf
    obtain ⟨hr_6, hf⟩ := am_nar_some hf
    exact am_retz hx hb hr hr_6.1 hlocks hH hf dX11_noSlot_20
  have P15 : ∀ (w : am_S) (H : Heap) (locs : List Loc) (ls : Array Slot), f_X11_noSlot_15 a1 w = some (rr, ww) → am_H G w s H locs → lv_has ls 2 [] → W p l e { frames := 1, cells := 0, slots := 0, locals := 64 } s m [.ref (G.1 + 0), .int a1].toArray below meth c H locs 0 0 (MQ below (va_Qi (fun (x : Int32) (u : am_S) => x = rr ∧ u = ww) (am_U G) (am_A G)) [.ref (G.1 + 0), .int a1].toArray s 0 0 (am_A G)) (F0 m 15 ls []) := by
    intro w H locs ls hf hH hl
    unfold f_X11_noSlot_15 at hf
    refine lv_iconst (v := 1) hx hb dX11_noSlot_15 (by decide) ?_
    refine lv_goto (tgt := 20) hx hb dX11_noSlot_16 (by decide) ?_
    exact P20 (1 : Int32) w H locs ls hf hH (lv_sub hl [] rfl)
  refine am_enter (lv := [(0, .ref (G.1 + 0)), (1, .int a1)]) (Nat.le_of_ble_eq_true rfl) rfl (fun ls hl => ?_)
  unfold f_X11_noSlot at hf
  refine am_start hH (fun H locs hH => ?_)
  refine lv_iload_n hx hb dX11_noSlot_0 rfl (lv_at hl 1 rfl) ?_
  refine lv_if_lt (tgt := 15) hx hb dX11_noSlot_1 (by decide) (fun hc_7 => ?_) (fun hc_7 => ?_)
  · have hf := (if_pos hc_7).symm.trans hf
    exact P15 w H locs ls hf hH (lv_sub hl [] rfl)
  · have hf := (if_neg hc_7).symm.trans hf
    refine lv_iload_n hx hb dX11_noSlot_4 rfl (lv_at hl 1 rfl) ?_
    refine lv_aload_n hx hb dX11_noSlot_5 rfl (lv_at hl 0 rfl) ?_
    refine am_get hx hb hts hK hown hH (am_o11 (p := 0) (by decide +kernel)) rfl am_inX11 2 (by decide) am_q333 (v := .ref (G.1 + 11)) rfl dX11_noSlot_6 ?_
    obtain ⟨r_10, w_8, hq_9, hf⟩ := am_b2_some hf
    refine am_calli (r := r_10) (w' := w_8) (am_runV (n := 0) (As := []) (rest := [.int a1]) ⟨hx, hb, hml, hown, hts⟩ hK hE hH (k_X1_allSlots (by decide +kernel) hq_9) (am_gV am_q629 am_q630 am_q631 am_q3 am_q632) (am_o1 (p := 11) (by decide +kernel)) rfl ⟨rfl, rfl⟩ (by decide +kernel) ⟨Nat.le_of_ble_eq_true rfl, Nat.le_of_ble_eq_true rfl⟩ rfl hl.1 rfl (Nat.le_of_ble_eq_true rfl) ⟨Nat.zero_le _, Nat.zero_le _⟩ dX11_noSlot_9) hH (fun H locs hH => ?_)
    refine lv_icmp_lt (tgt := 19) hx hb dX11_noSlot_12 (by decide) (fun hc_11 => ?_) (fun hc_11 => ?_)
    · have hf := (if_pos hc_11).symm.trans hf
      refine lv_iconst (v := 0) hx hb dX11_noSlot_19 (by decide) ?_
      exact P20 (0 : Int32) w_8 H locs ls hf hH (lv_sub hl [] rfl)
    · have hf := (if_neg hc_11).symm.trans hf
      exact P15 w_8 H locs ls hf hH (lv_sub hl [] rfl)

def f_X11_isOpenCopy_45 (a1 : Int32) (a2 : Int32) (s0 : Int32) (w : am_S) : Option (Int32 × am_S) :=
  am_nar .boolean s0 (some (s0, w))
def f_X11_isOpenCopy_44 (a1 : Int32) (a2 : Int32) (w : am_S) : Option (Int32 × am_S) :=
  f_X11_isOpenCopy_45 a1 a2 (0 : Int32) w
def f_X11_isOpenCopy (a1 : Int32) (a2 : Int32) (w : am_S) : Option (Int32 × am_S) :=
  am_b2 (f_X11_noUser a1 w) fun r_18 w_16 => if r_18 = 0 then (am_b2 (f_X11_noSlot a2 w_16) fun r_22 w_20 => if r_22 = 0 then (am_b2 (f_X9_hasCopy 23 a1 a2 w_20) fun r_26 w_24 => if r_26 = 0 then (f_X11_isOpenCopy_44 a1 a2 w_24) else (am_chk a1 10 (if (w_24.1 24 a1.toNatClampNeg) = 0 then (f_X11_isOpenCopy_45 a1 a2 (1 : Int32) w_24) else (f_X11_isOpenCopy_44 a1 a2 w_24)))) else (f_X11_isOpenCopy_44 a1 a2 w_20)) else (f_X11_isOpenCopy_44 a1 a2 w_16)
set_option maxRecDepth 100000 in
set_option maxHeartbeats 4000000 in
theorem k_X11_isOpenCopy {G : am_G} {l : Launch} {a1 : Int32} {a2 : Int32}  {w : am_S} {rr : Int32} {ww : am_S} (hf : f_X11_isOpenCopy a1 a2 w = some (rr, ww)) : am_Mi G l yX11_isOpenCopy (Cond.code yX11_isOpenCopy cX11_isOpenCopy 3 (some .boolean) :: am_T) { frames := 2, cells := 0, slots := 0, locals := 128 } [.ref (G.1 + 0), .int a1, .int a2] w rr ww := by
  refine Met.ofW (cc := cX11_isOpenCopy) (maxL := 3) (ret := (some .boolean)) (by decide) rfl ?_
  intro p e s m args below meth c s₁ B hml hv
  obtain ⟨rfl, hx, hb, hr, hts, hown, hlocks, hK, hE, hH⟩ := am_begin B hv
  have hown : s.vm.findClass RX11 = some m.cls := hown
  show W p l e { frames := 2, cells := 0, slots := 0, locals := 128 } s m _ below meth c s.heap [] 0 0 _ _
  have P45 : ∀ (s0 : Int32) (w : am_S) (H : Heap) (locs : List Loc) (ls : Array Slot), f_X11_isOpenCopy_45 a1 a2 s0 w = some (rr, ww) → am_H G w s H locs → lv_has ls 3 [] → W p l e { frames := 2, cells := 0, slots := 0, locals := 128 } s m [.ref (G.1 + 0), .int a1, .int a2].toArray below meth c H locs 0 0 (MQ below (va_Qi (fun (x : Int32) (u : am_S) => x = rr ∧ u = ww) (am_U G) (am_A G)) [.ref (G.1 + 0), .int a1, .int a2].toArray s 0 0 (am_A G)) (F0 m 45 ls [.int s0]) := by
    intro s0 w H locs ls hf hH hl
    unfold f_X11_isOpenCopy_45 at hf
    obtain ⟨hr_15, hf⟩ := am_nar_some hf
    exact am_retz hx hb hr hr_15.1 hlocks hH hf dX11_isOpenCopy_45
  have P44 : ∀ (w : am_S) (H : Heap) (locs : List Loc) (ls : Array Slot), f_X11_isOpenCopy_44 a1 a2 w = some (rr, ww) → am_H G w s H locs → lv_has ls 3 [] → W p l e { frames := 2, cells := 0, slots := 0, locals := 128 } s m [.ref (G.1 + 0), .int a1, .int a2].toArray below meth c H locs 0 0 (MQ below (va_Qi (fun (x : Int32) (u : am_S) => x = rr ∧ u = ww) (am_U G) (am_A G)) [.ref (G.1 + 0), .int a1, .int a2].toArray s 0 0 (am_A G)) (F0 m 44 ls []) := by
    intro w H locs ls hf hH hl
    unfold f_X11_isOpenCopy_44 at hf
    refine lv_iconst (v := 0) hx hb dX11_isOpenCopy_44 (by decide) ?_
    exact P45 (0 : Int32) w H locs ls hf hH (lv_sub hl [] rfl)
  refine am_enter (lv := [(0, .ref (G.1 + 0)), (1, .int a1), (2, .int a2)]) (Nat.le_of_ble_eq_true rfl) rfl (fun ls hl => ?_)
  unfold f_X11_isOpenCopy at hf
  refine am_start hH (fun H locs hH => ?_)
  refine lv_aload_n hx hb dX11_isOpenCopy_0 rfl (lv_at hl 0 rfl) ?_
  refine lv_iload_n hx hb dX11_isOpenCopy_1 rfl (lv_at hl 1 rfl) ?_
  obtain ⟨r_18, w_16, hq_17, hf⟩ := am_b2_some hf
  refine am_calli (r := r_18) (w' := w_16) (am_runV (n := 1) (As := [.int a1]) (rest := []) ⟨hx, hb, hml, hown, hts⟩ hK hE hH (k_X11_noUser hq_17) (am_gV am_q641 am_q643 am_qs12 am_q1 am_q644) (am_o11 (p := 0) (by decide +kernel)) rfl ⟨rfl, rfl⟩ (by decide +kernel) ⟨Nat.le_of_ble_eq_true rfl, Nat.le_of_ble_eq_true rfl⟩ rfl hl.1 rfl (Nat.le_of_ble_eq_true rfl) ⟨Nat.zero_le _, Nat.zero_le _⟩ dX11_isOpenCopy_2) hH (fun H locs hH => ?_)
  refine lv_if_ne (tgt := 44) hx hb dX11_isOpenCopy_5 (by decide) (fun hc_19 => ?_) (fun hc_19 => ?_)
  · have hf := (if_neg hc_19).symm.trans hf
    exact P44 w_16 H locs ls hf hH (lv_sub hl [] rfl)
  · have hf := (if_pos hc_19).symm.trans hf
    refine lv_aload_n hx hb dX11_isOpenCopy_8 rfl (lv_at hl 0 rfl) ?_
    refine lv_iload_n hx hb dX11_isOpenCopy_9 rfl (lv_at hl 2 rfl) ?_
    obtain ⟨r_22, w_20, hq_21, hf⟩ := am_b2_some hf
    refine am_calli (r := r_22) (w' := w_20) (am_runV (n := 1) (As := [.int a2]) (rest := []) ⟨hx, hb, hml, hown, hts⟩ hK hE hH (k_X11_noSlot hq_21) (am_gV am_q662 am_q664 am_qs14 am_q1 am_q665) (am_o11 (p := 0) (by decide +kernel)) rfl ⟨rfl, rfl⟩ (by decide +kernel) ⟨Nat.le_of_ble_eq_true rfl, Nat.le_of_ble_eq_true rfl⟩ rfl hl.1 rfl (Nat.le_of_ble_eq_true rfl) ⟨Nat.zero_le _, Nat.zero_le _⟩ dX11_isOpenCopy_10) hH (fun H locs hH => ?_)
    refine lv_if_ne (tgt := 44) hx hb dX11_isOpenCopy_13 (by decide) (fun hc_23 => ?_) (fun hc_23 => ?_)
    · have hf := (if_neg hc_23).symm.trans hf
      exact P44 w_20 H locs ls hf hH (lv_sub hl [] rfl)
    · have hf := (if_pos hc_23).symm.trans hf
      refine lv_aload_n hx hb dX11_isOpenCopy_16 rfl (lv_at hl 0 rfl) ?_
      refine am_get hx hb hts hK hown hH (am_o11 (p := 0) (by decide +kernel)) rfl am_inX11 5 (by decide) am_q336 (v := .ref (G.1 + 23)) rfl dX11_isOpenCopy_17 ?_
      refine lv_iload_n hx hb dX11_isOpenCopy_20 rfl (lv_at hl 1 rfl) ?_
      refine lv_iload_n hx hb dX11_isOpenCopy_21 rfl (lv_at hl 2 rfl) ?_
      obtain ⟨r_26, w_24, hq_25, hf⟩ := am_b2_some hf
      refine am_calli (r := r_26) (w' := w_24) (am_runV (n := 2) (As := [.int a1, .int a2]) (rest := []) ⟨hx, hb, hml, hown, hts⟩ hK hE hH (k_X9_hasCopy (by decide +kernel) hq_25) (am_gV am_q666 am_q667 am_q668 am_q5 am_q669) (am_o9 (p := 23) (by decide +kernel)) rfl ⟨rfl, rfl⟩ (by decide +kernel) ⟨Nat.le_of_ble_eq_true rfl, Nat.le_of_ble_eq_true rfl⟩ rfl hl.1 rfl (Nat.le_of_ble_eq_true rfl) ⟨Nat.zero_le _, Nat.zero_le _⟩ dX11_isOpenCopy_22) hH (fun H locs hH => ?_)
      refine lv_if_eq (tgt := 44) hx hb dX11_isOpenCopy_25 (by decide) (fun hc_27 => ?_) (fun hc_27 => ?_)
      · have hf := (if_pos hc_27).symm.trans hf
        exact P44 w_24 H locs ls hf hH (lv_sub hl [] rfl)
      · have hf := (if_neg hc_27).symm.trans hf
        refine lv_aload_n hx hb dX11_isOpenCopy_28 rfl (lv_at hl 0 rfl) ?_
        refine am_get hx hb hts hK hown hH (am_o11 (p := 0) (by decide +kernel)) rfl am_inX11 5 (by decide) am_q336 (v := .ref (G.1 + 23)) rfl dX11_isOpenCopy_29 ?_
        refine am_get hx hb hts hK hown hH (am_o9 (p := 23) (by decide +kernel)) rfl am_inX9 0 (by decide) am_q176 (v := .ref (G.1 + 24)) rfl dX11_isOpenCopy_32 ?_
        refine lv_iload_n hx hb dX11_isOpenCopy_35 rfl (lv_at hl 1 rfl) ?_
        obtain ⟨hi_28, hf⟩ := am_chk_some hf
        refine am_iald hx hb hK hH (am_ai_of (N := 10) (by decide +kernel)) hi_28 dX11_isOpenCopy_36 ?_
        refine lv_if_ne (tgt := 44) hx hb dX11_isOpenCopy_37 (by decide) (fun hc_29 => ?_) (fun hc_29 => ?_)
        · have hf := (if_neg hc_29).symm.trans hf
          exact P44 w_24 H locs ls hf hH (lv_sub hl [] rfl)
        · have hf := (if_pos hc_29).symm.trans hf
          refine lv_iconst (v := 1) hx hb dX11_isOpenCopy_40 (by decide) ?_
          refine lv_goto (tgt := 45) hx hb dX11_isOpenCopy_41 (by decide) ?_
          exact P45 (1 : Int32) w_24 H locs ls hf hH (lv_sub hl [] rfl)

def f_X11_clear (a1 : Int32) (a2 : Int32) (w : am_S) : Option (Int32 × am_S) :=
  am_b2 (f_X11_isOpenCopy a1 a2 w) fun r_12 w_10 => if r_12 = 0 then (some ((-1 : Int32), w_10)) else (am_b1 (f_X7_lookAt 23 w_10) fun w_14 => am_b2 (f_X7_clearIn a2 (w_14.1 250 6) w_14) fun r_18 w_16 => some ((r_18 >>> (a1 &&& 31)) &&& (1 : Int32), w_16))
set_option maxRecDepth 100000 in
set_option maxHeartbeats 4000000 in
theorem k_X11_clear {G : am_G} {l : Launch} {a1 : Int32} {a2 : Int32}  {w : am_S} {rr : Int32} {ww : am_S} (hf : f_X11_clear a1 a2 w = some (rr, ww)) : am_Mi G l yX11_clear (Cond.code yX11_clear cX11_clear 3 (some .int) :: am_T) { frames := 3, cells := 0, slots := 0, locals := 192 } [.ref (G.1 + 0), .int a1, .int a2] w rr ww := by
  refine Met.ofW (cc := cX11_clear) (maxL := 3) (ret := (some .int)) (by decide) rfl ?_
  intro p e s m args below meth c s₁ B hml hv
  obtain ⟨rfl, hx, hb, hr, hts, hown, hlocks, hK, hE, hH⟩ := am_begin B hv
  have hown : s.vm.findClass RX11 = some m.cls := hown
  show W p l e { frames := 3, cells := 0, slots := 0, locals := 192 } s m _ below meth c s.heap [] 0 0 _ _
  refine am_enter (lv := [(0, .ref (G.1 + 0)), (1, .int a1), (2, .int a2)]) (Nat.le_of_ble_eq_true rfl) rfl (fun ls hl => ?_)
  unfold f_X11_clear at hf
  refine am_start hH (fun H locs hH => ?_)
  refine lv_aload_n hx hb dX11_clear_0 rfl (lv_at hl 0 rfl) ?_
  refine lv_iload_n hx hb dX11_clear_1 rfl (lv_at hl 1 rfl) ?_
  refine lv_iload_n hx hb dX11_clear_2 rfl (lv_at hl 2 rfl) ?_
  obtain ⟨r_12, w_10, hq_11, hf⟩ := am_b2_some hf
  refine am_calli (r := r_12) (w' := w_10) (am_runV (n := 2) (As := [.int a1, .int a2]) (rest := []) ⟨hx, hb, hml, hown, hts⟩ hK hE hH (k_X11_isOpenCopy hq_11) (am_gV am_q658 am_q660 am_qs13 am_q1 am_q661) (am_o11 (p := 0) (by decide +kernel)) rfl ⟨rfl, rfl⟩ (by decide +kernel) ⟨Nat.le_of_ble_eq_true rfl, Nat.le_of_ble_eq_true rfl⟩ rfl hl.1 rfl (Nat.le_of_ble_eq_true rfl) ⟨Nat.zero_le _, Nat.zero_le _⟩ dX11_clear_3) hH (fun H locs hH => ?_)
  refine lv_if_ne (tgt := 11) hx hb dX11_clear_6 (by decide) (fun hc_13 => ?_) (fun hc_13 => ?_)
  · have hf := (if_neg hc_13).symm.trans hf
    refine lv_aload_n hx hb dX11_clear_11 rfl (lv_at hl 0 rfl) ?_
    refine am_get hx hb hts hK hown hH (am_o11 (p := 0) (by decide +kernel)) rfl am_inX11 13 (by decide) am_q344 (v := .ref (G.1 + 250)) rfl dX11_clear_12 ?_
    refine lv_aload_n hx hb dX11_clear_15 rfl (lv_at hl 0 rfl) ?_
    refine am_get hx hb hts hK hown hH (am_o11 (p := 0) (by decide +kernel)) rfl am_inX11 5 (by decide) am_q336 (v := .ref (G.1 + 23)) rfl dX11_clear_16 ?_
    obtain ⟨w_14, hq_15, hf⟩ := am_b1_some hf
    refine am_callv (w' := w_14) (am_runV (n := 1) (As := [.ref (G.1 + 23)]) (rest := []) ⟨hx, hb, hml, hown, hts⟩ hK hE hH (k_X7_lookAt (by decide +kernel) hq_15) (am_gV am_q670 am_q671 am_q672 am_q9 am_q673) (am_o7 (p := 250) (by decide +kernel)) rfl ⟨rfl, rfl⟩ (by decide +kernel) ⟨Nat.le_of_ble_eq_true rfl, Nat.le_of_ble_eq_true rfl⟩ rfl hl.1 rfl (Nat.le_of_ble_eq_true rfl) ⟨Nat.zero_le _, Nat.zero_le _⟩ dX11_clear_19) hH (fun H locs hH => ?_)
    refine lv_aload_n hx hb dX11_clear_22 rfl (lv_at hl 0 rfl) ?_
    refine am_get hx hb hts hK hown hH (am_o11 (p := 0) (by decide +kernel)) rfl am_inX11 13 (by decide) am_q344 (v := .ref (G.1 + 250)) rfl dX11_clear_23 ?_
    refine lv_iload_n hx hb dX11_clear_26 rfl (lv_at hl 2 rfl) ?_
    refine lv_aload_n hx hb dX11_clear_27 rfl (lv_at hl 0 rfl) ?_
    refine am_get hx hb hts hK hown hH (am_o11 (p := 0) (by decide +kernel)) rfl am_inX11 13 (by decide) am_q344 (v := .ref (G.1 + 250)) rfl dX11_clear_28 ?_
    refine am_get hx hb hts hK hown hH (am_o7 (p := 250) (by decide +kernel)) rfl am_inX7 6 (by decide) am_q273 (v := .int (w_14.1 250 6)) rfl dX11_clear_31 ?_
    obtain ⟨r_18, w_16, hq_17, hf⟩ := am_b2_some hf
    refine am_calli (r := r_18) (w' := w_16) (am_runV (n := 2) (As := [.int a2, .int (w_14.1 250 6)]) (rest := []) ⟨hx, hb, hml, hown, hts⟩ hK hE hH (k_X7_clearIn hq_17) (am_gV am_q702 am_q703 am_q704 am_q9 am_q705) (am_o7 (p := 250) (by decide +kernel)) rfl ⟨rfl, rfl⟩ (by decide +kernel) ⟨Nat.le_of_ble_eq_true rfl, Nat.le_of_ble_eq_true rfl⟩ rfl hl.1 rfl (Nat.le_of_ble_eq_true rfl) ⟨Nat.zero_le _, Nat.zero_le _⟩ dX11_clear_34) hH (fun H locs hH => ?_)
    refine lv_iload_n hx hb dX11_clear_37 rfl (lv_at hl 1 rfl) ?_
    refine lv_ishr hx hb dX11_clear_38 ?_
    refine lv_iconst (v := 1) hx hb dX11_clear_39 (by decide) ?_
    refine lv_iand hx hb dX11_clear_40 ?_
    exact am_reti hx hb hr hlocks hH hf dX11_clear_41
  · have hf := (if_pos hc_13).symm.trans hf
    refine lv_iconst (v := -1) hx hb dX11_clear_9 (by decide) ?_
    exact am_reti hx hb hr hlocks hH hf dX11_clear_10

def f_X11_copies_21 (a1 : Int32) (s0 : Int64) (w : am_S) : Option (Int64 × am_S) :=
  some (s0, w)
def f_X11_copies (a1 : Int32) (w : am_S) : Option (Int64 × am_S) :=
  am_b2 (f_X11_noUser a1 w) fun r_8 w_6 => if r_8 = 0 then (am_chk a1 10 (f_X11_copies_21 a1 (w_6.2.1 25 a1.toNatClampNeg) w_6)) else (f_X11_copies_21 a1 (0 : Int64) w_6)
set_option maxRecDepth 100000 in
set_option maxHeartbeats 4000000 in
theorem k_X11_copies {G : am_G} {l : Launch} {a1 : Int32}  {w : am_S} {rr : Int64} {ww : am_S} (hf : f_X11_copies a1 w = some (rr, ww)) : am_Ml G l yX11_copies (Cond.code yX11_copies cX11_copies 2 (some .long) :: am_T) { frames := 1, cells := 0, slots := 0, locals := 64 } [.ref (G.1 + 0), .int a1] w rr ww := by
  refine Met.ofW (cc := cX11_copies) (maxL := 2) (ret := (some .long)) (by decide) rfl ?_
  intro p e s m args below meth c s₁ B hml hv
  obtain ⟨rfl, hx, hb, hr, hts, hown, hlocks, hK, hE, hH⟩ := am_begin B hv
  have hown : s.vm.findClass RX11 = some m.cls := hown
  show W p l e { frames := 1, cells := 0, slots := 0, locals := 64 } s m _ below meth c s.heap [] 0 0 _ _
  have P21 : ∀ (s0 : Int64) (w : am_S) (H : Heap) (locs : List Loc) (ls : Array Slot), f_X11_copies_21 a1 s0 w = some (rr, ww) → am_H G w s H locs → lv_has ls 2 [] → W p l e { frames := 1, cells := 0, slots := 0, locals := 64 } s m [.ref (G.1 + 0), .int a1].toArray below meth c H locs 0 0 (MQ below (va_Ql (fun (x : Int64) (u : am_S) => x = rr ∧ u = ww) (am_U G) (am_A G)) [.ref (G.1 + 0), .int a1].toArray s 0 0 (am_A G)) (F0 m 21 ls [.long s0]) := by
    intro s0 w H locs ls hf hH hl
    unfold f_X11_copies_21 at hf
    exact am_retl hx hb hr hlocks hH hf dX11_copies_21
  refine am_enter (lv := [(0, .ref (G.1 + 0)), (1, .int a1)]) (Nat.le_of_ble_eq_true rfl) rfl (fun ls hl => ?_)
  unfold f_X11_copies at hf
  refine am_start hH (fun H locs hH => ?_)
  refine lv_aload_n hx hb dX11_copies_0 rfl (lv_at hl 0 rfl) ?_
  refine lv_iload_n hx hb dX11_copies_1 rfl (lv_at hl 1 rfl) ?_
  obtain ⟨r_8, w_6, hq_7, hf⟩ := am_b2_some hf
  refine am_calli (r := r_8) (w' := w_6) (am_runV (n := 1) (As := [.int a1]) (rest := []) ⟨hx, hb, hml, hown, hts⟩ hK hE hH (k_X11_noUser hq_7) (am_gV am_q641 am_q643 am_qs12 am_q1 am_q644) (am_o11 (p := 0) (by decide +kernel)) rfl ⟨rfl, rfl⟩ (by decide +kernel) ⟨Nat.le_of_ble_eq_true rfl, Nat.le_of_ble_eq_true rfl⟩ rfl hl.1 rfl (Nat.le_of_ble_eq_true rfl) ⟨Nat.zero_le _, Nat.zero_le _⟩ dX11_copies_2) hH (fun H locs hH => ?_)
  refine lv_if_eq (tgt := 12) hx hb dX11_copies_5 (by decide) (fun hc_9 => ?_) (fun hc_9 => ?_)
  · have hf := (if_pos hc_9).symm.trans hf
    refine lv_aload_n hx hb dX11_copies_12 rfl (lv_at hl 0 rfl) ?_
    refine am_get hx hb hts hK hown hH (am_o11 (p := 0) (by decide +kernel)) rfl am_inX11 5 (by decide) am_q336 (v := .ref (G.1 + 23)) rfl dX11_copies_13 ?_
    refine am_get hx hb hts hK hown hH (am_o9 (p := 23) (by decide +kernel)) rfl am_inX9 1 (by decide) am_q179 (v := .ref (G.1 + 25)) rfl dX11_copies_16 ?_
    refine lv_iload_n hx hb dX11_copies_19 rfl (lv_at hl 1 rfl) ?_
    obtain ⟨hi_10, hf⟩ := am_chk_some hf
    refine am_lald hx hb hK hH (am_al_of (N := 10) (by decide +kernel)) hi_10 dX11_copies_20 ?_
    exact P21 (w_6.2.1 25 a1.toNatClampNeg) w_6 H locs ls hf hH (lv_sub hl [] rfl)
  · have hf := (if_neg hc_9).symm.trans hf
    refine lv_lconst (v := 0) hx hb dX11_copies_8 (by decide) ?_
    refine lv_goto (tgt := 21) hx hb dX11_copies_9 (by decide) ?_
    exact P21 (0 : Int64) w_6 H locs ls hf hH (lv_sub hl [] rfl)

def f_X4_seen (o0 : Nat) (w : am_S) : Option (Int32 × am_S) :=
  am_b2 (f_J9_min_7cf53 (w.1 o0 3) (60 : Int32) w) fun r_6 w_4 => some (r_6, w_4)
set_option maxRecDepth 100000 in
set_option maxHeartbeats 4000000 in
theorem k_X4_seen {G : am_G} {l : Launch} {o0 : Nat} (ho0 : am_f4 o0) {w : am_S} {rr : Int32} {ww : am_S} (hf : f_X4_seen o0 w = some (rr, ww)) : am_Mi G l yX4_seen (Cond.code yX4_seen cX4_seen 1 (some .int) :: am_T) { frames := 1, cells := 0, slots := 0, locals := 64 } [.ref (G.1 + o0)] w rr ww := by
  refine Met.ofW (cc := cX4_seen) (maxL := 1) (ret := (some .int)) (by decide) rfl ?_
  intro p e s m args below meth c s₁ B hml hv
  obtain ⟨rfl, hx, hb, hr, hts, hown, hlocks, hK, hE, hH⟩ := am_begin B hv
  have hown : s.vm.findClass RX4 = some m.cls := hown
  show W p l e { frames := 1, cells := 0, slots := 0, locals := 64 } s m _ below meth c s.heap [] 0 0 _ _
  refine am_enter (lv := [(0, .ref (G.1 + o0))]) (Nat.le_of_ble_eq_true rfl) rfl (fun ls hl => ?_)
  unfold f_X4_seen at hf
  refine am_start hH (fun H locs hH => ?_)
  refine lv_aload_n hx hb dX4_seen_0 rfl (lv_at hl 0 rfl) ?_
  refine am_get hx hb hts hK hown hH (am_o4 ho0.1) rfl am_inX4 3 (by decide) am_q212 (v := .int (w.1 o0 3)) rfl dX4_seen_1 ?_
  refine lv_bipush (v := 60) hx hb dX4_seen_4 (by decide) ?_
  obtain ⟨r_6, w_4, hq_5, hf⟩ := am_b2_some hf
  refine am_calli (r := r_6) (w' := w_4) (am_runS (n := 2) (As := [.int (w.1 o0 3), .int (60 : Int32)]) (rest := []) ⟨hx, hb, hml, hown, hts⟩ hK hE hH (k_J9_min_7cf53 hq_5) (am_gS am_q931 am_q478 am_q18 am_q479) ⟨rfl, rfl⟩ (by decide +kernel) ⟨Nat.le_of_ble_eq_true rfl, Nat.le_of_ble_eq_true rfl⟩ rfl hl.1 rfl (Nat.le_of_ble_eq_true rfl) ⟨Nat.zero_le _, Nat.zero_le _⟩ dX4_seen_6) hH (fun H locs hH => ?_)
  exact am_reti hx hb hr hlocks hH hf dX4_seen_9

def f_X11_count (a1 : Int32) (w : am_S) : Option (Int32 × am_S) :=
  (if a1 = (0 : Int32) then (some (w.1 11 11, w)) else (if a1 = (1 : Int32) then (some (w.1 0 17, w)) else (if a1 = (2 : Int32) then (some (w.1 1 1, w)) else (if a1 = (3 : Int32) then (am_b2 (f_X4_seen 38 w) fun r_16 w_14 => some (r_16, w_14)) else (if a1 = (4 : Int32) then (some (w.1 46 2, w)) else (some ((-1000000 : Int32), w)))))))
set_option maxRecDepth 100000 in
set_option maxHeartbeats 4000000 in
theorem k_X11_count {G : am_G} {l : Launch} {a1 : Int32}  {w : am_S} {rr : Int32} {ww : am_S} (hf : f_X11_count a1 w = some (rr, ww)) : am_Mi G l yX11_count (Cond.code yX11_count cX11_count 2 (some .int) :: am_T) { frames := 2, cells := 0, slots := 0, locals := 128 } [.ref (G.1 + 0), .int a1] w rr ww := by
  refine Met.ofW (cc := cX11_count) (maxL := 2) (ret := (some .int)) (by decide) rfl ?_
  intro p e s m args below meth c s₁ B hml hv
  obtain ⟨rfl, hx, hb, hr, hts, hown, hlocks, hK, hE, hH⟩ := am_begin B hv
  have hown : s.vm.findClass RX11 = some m.cls := hown
  show W p l e { frames := 2, cells := 0, slots := 0, locals := 128 } s m _ below meth c s.heap [] 0 0 _ _
  refine am_enter (lv := [(0, .ref (G.1 + 0)), (1, .int a1)]) (Nat.le_of_ble_eq_true rfl) rfl (fun ls hl => ?_)
  unfold f_X11_count at hf
  refine am_start hH (fun H locs hH => ?_)
  refine lv_iload_n hx hb dX11_count_0 rfl (lv_at hl 1 rfl) ?_
  by_cases he_9 : a1 = (0 : Int32)
  · have hf := (if_pos he_9).symm.trans hf
    refine lv_tableIn (off := 35) (tgt := 36) hx hb dX11_count_1 (by rw [he_9]; decide) (by rw [he_9]; decide) (by rw [he_9]; rfl) (by decide) ?_
    refine lv_aload_n hx hb dX11_count_36 rfl (lv_at hl 0 rfl) ?_
    refine am_get hx hb hts hK hown hH (am_o11 (p := 0) (by decide +kernel)) rfl am_inX11 2 (by decide) am_q333 (v := .ref (G.1 + 11)) rfl dX11_count_37 ?_
    refine am_get hx hb hts hK hown hH (am_o1 (p := 11) (by decide +kernel)) rfl am_inX1 11 (by decide) am_q106 (v := .int (w.1 11 11)) rfl dX11_count_40 ?_
    exact am_reti hx hb hr hlocks hH hf dX11_count_43
  have hf := (if_neg he_9).symm.trans hf
  by_cases he_10 : a1 = (1 : Int32)
  · have hf := (if_pos he_10).symm.trans hf
    refine lv_tableIn (off := 43) (tgt := 44) hx hb dX11_count_1 (by rw [he_10]; decide) (by rw [he_10]; decide) (by rw [he_10]; rfl) (by decide) ?_
    refine lv_aload_n hx hb dX11_count_44 rfl (lv_at hl 0 rfl) ?_
    refine am_get hx hb hts hK hown hH (am_o11 (p := 0) (by decide +kernel)) rfl am_inX11 17 (by decide) am_q348 (v := .int (w.1 0 17)) rfl dX11_count_45 ?_
    exact am_reti hx hb hr hlocks hH hf dX11_count_48
  have hf := (if_neg he_10).symm.trans hf
  by_cases he_11 : a1 = (2 : Int32)
  · have hf := (if_pos he_11).symm.trans hf
    refine lv_tableIn (off := 48) (tgt := 49) hx hb dX11_count_1 (by rw [he_11]; decide) (by rw [he_11]; decide) (by rw [he_11]; rfl) (by decide) ?_
    refine lv_aload_n hx hb dX11_count_49 rfl (lv_at hl 0 rfl) ?_
    refine am_get hx hb hts hK hown hH (am_o11 (p := 0) (by decide +kernel)) rfl am_inX11 0 (by decide) am_q331 (v := .ref (G.1 + 1)) rfl dX11_count_50 ?_
    refine am_get hx hb hts hK hown hH (am_o10 (p := 1) (by decide +kernel)) rfl am_inX10 1 (by decide) am_q46 (v := .int (w.1 1 1)) rfl dX11_count_53 ?_
    exact am_reti hx hb hr hlocks hH hf dX11_count_56
  have hf := (if_neg he_11).symm.trans hf
  by_cases he_12 : a1 = (3 : Int32)
  · have hf := (if_pos he_12).symm.trans hf
    refine lv_tableIn (off := 56) (tgt := 57) hx hb dX11_count_1 (by rw [he_12]; decide) (by rw [he_12]; decide) (by rw [he_12]; rfl) (by decide) ?_
    refine lv_aload_n hx hb dX11_count_57 rfl (lv_at hl 0 rfl) ?_
    refine am_get hx hb hts hK hown hH (am_o11 (p := 0) (by decide +kernel)) rfl am_inX11 8 (by decide) am_q339 (v := .ref (G.1 + 38)) rfl dX11_count_58 ?_
    obtain ⟨r_16, w_14, hq_15, hf⟩ := am_b2_some hf
    refine am_calli (r := r_16) (w' := w_14) (am_runV (n := 0) (As := []) (rest := []) ⟨hx, hb, hml, hown, hts⟩ hK hE hH (k_X4_seen (by decide +kernel) hq_15) (am_gV am_q927 am_q928 am_q929 am_q6 am_q930) (am_o4 (p := 38) (by decide +kernel)) rfl ⟨rfl, rfl⟩ (by decide +kernel) ⟨Nat.le_of_ble_eq_true rfl, Nat.le_of_ble_eq_true rfl⟩ rfl hl.1 rfl (Nat.le_of_ble_eq_true rfl) ⟨Nat.zero_le _, Nat.zero_le _⟩ dX11_count_61) hH (fun H locs hH => ?_)
    exact am_reti hx hb hr hlocks hH hf dX11_count_64
  have hf := (if_neg he_12).symm.trans hf
  by_cases he_13 : a1 = (4 : Int32)
  · have hf := (if_pos he_13).symm.trans hf
    refine lv_tableIn (off := 64) (tgt := 65) hx hb dX11_count_1 (by rw [he_13]; decide) (by rw [he_13]; decide) (by rw [he_13]; rfl) (by decide) ?_
    refine lv_aload_n hx hb dX11_count_65 rfl (lv_at hl 0 rfl) ?_
    refine am_get hx hb hts hK hown hH (am_o11 (p := 0) (by decide +kernel)) rfl am_inX11 10 (by decide) am_q341 (v := .ref (G.1 + 46)) rfl dX11_count_66 ?_
    refine am_get hx hb hts hK hown hH (am_o3 (p := 46) (by decide +kernel)) rfl am_inX3 2 (by decide) am_q235 (v := .int (w.1 46 2)) rfl dX11_count_69 ?_
    exact am_reti hx hb hr hlocks hH hf dX11_count_72
  have hf := (if_neg he_13).symm.trans hf
  have nhe_9 := am_tne (k := 0) (0 : Int32) (by decide) he_9
  have nhe_10 := am_tne (k := 1) (1 : Int32) (by decide) he_10
  have nhe_11 := am_tne (k := 2) (2 : Int32) (by decide) he_11
  have nhe_12 := am_tne (k := 3) (3 : Int32) (by decide) he_12
  have nhe_13 := am_tne (k := 4) (4 : Int32) (by decide) he_13
  refine lv_tableOut (tgt := 73) hx hb dX11_count_1 (by omega) (by decide) ?_
  refine lv_ldc (v := -1000000) hx hb hown (hts _ am_q714) dX11_count_73 ?_
  exact am_reti hx hb hr hlocks hH hf dX11_count_75

def f_X7_dinFor (a1 : Int32) (a2 : Int32) (w : am_S) : Option (UInt32 × am_S) :=
  am_chk a2 48 (am_chk (((w.1 254 a2.toNatClampNeg) &&& (w.1 250 6)) &&& (((1 : Int32) <<< (a1 &&& 31)) ^^^ (-1 : Int32))) 1024 (some (w.2.2 252 (((w.1 254 a2.toNatClampNeg) &&& (w.1 250 6)) &&& (((1 : Int32) <<< (a1 &&& 31)) ^^^ (-1 : Int32))).toNatClampNeg, w)))
set_option maxRecDepth 100000 in
set_option maxHeartbeats 4000000 in
theorem k_X7_dinFor {G : am_G} {l : Launch} {a1 : Int32} {a2 : Int32}  {w : am_S} {rr : UInt32} {ww : am_S} (hf : f_X7_dinFor a1 a2 w = some (rr, ww)) : am_Mf G l yX7_dinFor (Cond.code yX7_dinFor cX7_dinFor 3 (some .float) :: am_T) { frames := 0, cells := 0, slots := 0, locals := 0 } [.ref (G.1 + 250), .int a1, .int a2] w rr ww := by
  refine Met.ofW (cc := cX7_dinFor) (maxL := 3) (ret := (some .float)) (by decide) rfl ?_
  intro p e s m args below meth c s₁ B hml hv
  obtain ⟨rfl, hx, hb, hr, hts, hown, hlocks, hK, hE, hH⟩ := am_begin B hv
  have hown : s.vm.findClass RX7 = some m.cls := hown
  show W p l e { frames := 0, cells := 0, slots := 0, locals := 0 } s m _ below meth c s.heap [] 0 0 _ _
  refine am_enter (lv := [(0, .ref (G.1 + 250)), (1, .int a1), (2, .int a2)]) (Nat.le_of_ble_eq_true rfl) rfl (fun ls hl => ?_)
  unfold f_X7_dinFor at hf
  refine am_start hH (fun H locs hH => ?_)
  refine lv_aload_n hx hb dX7_dinFor_0 rfl (lv_at hl 0 rfl) ?_
  refine am_get hx hb hts hK hown hH (am_o7 (p := 250) (by decide +kernel)) rfl am_inX7 2 (by decide) am_q263 (v := .ref (G.1 + 252)) rfl dX7_dinFor_1 ?_
  refine lv_aload_n hx hb dX7_dinFor_4 rfl (lv_at hl 0 rfl) ?_
  refine am_get hx hb hts hK hown hH (am_o7 (p := 250) (by decide +kernel)) rfl am_inX7 4 (by decide) am_q265 (v := .ref (G.1 + 254)) rfl dX7_dinFor_5 ?_
  refine lv_iload_n hx hb dX7_dinFor_8 rfl (lv_at hl 2 rfl) ?_
  obtain ⟨hi_3, hf⟩ := am_chk_some hf
  refine am_iald hx hb hK hH (am_ai_of (N := 48) (by decide +kernel)) hi_3 dX7_dinFor_9 ?_
  refine lv_aload_n hx hb dX7_dinFor_10 rfl (lv_at hl 0 rfl) ?_
  refine am_get hx hb hts hK hown hH (am_o7 (p := 250) (by decide +kernel)) rfl am_inX7 6 (by decide) am_q271 (v := .int (w.1 250 6)) rfl dX7_dinFor_11 ?_
  refine lv_iand hx hb dX7_dinFor_14 ?_
  refine lv_iconst (v := 1) hx hb dX7_dinFor_15 (by decide) ?_
  refine lv_iload_n hx hb dX7_dinFor_16 rfl (lv_at hl 1 rfl) ?_
  refine lv_ishl hx hb dX7_dinFor_17 ?_
  refine lv_iconst (v := -1) hx hb dX7_dinFor_18 (by decide) ?_
  refine lv_ixor hx hb dX7_dinFor_19 ?_
  refine lv_iand hx hb dX7_dinFor_20 ?_
  obtain ⟨hi_4, hf⟩ := am_chk_some hf
  refine am_fald hx hb hK hH (am_af_of (N := 1024) (by decide +kernel)) hi_4 dX7_dinFor_21 ?_
  exact am_retf hx hb hr hlocks hH hf dX7_dinFor_22

def f_X11_singleBits_109 (a0 : UInt32) (s0 : Int32) (w : am_S) : Option (Int32 × am_S) :=
  some (s0, w)
def f_X11_singleBits_80 (a0 : UInt32) (x1 : UInt32) (x2 : Int32) (w : am_S) : Option (Int32 × am_S) :=
  am_n32 (FP.fsub x1 (FP.fconst1)) (am_n32 (FP.fmul (FP.fsub x1 (FP.fconst1)) (1258291200 : UInt32)) (am_v ((x2 <<< ((23 : Int32) &&& 31)) ||| (FP.f2i (FP.fmul (FP.fsub x1 (FP.fconst1)) (1258291200 : UInt32)))) fun (x3_21 : Int32) => if 0 ≤ (Op.cmpValue (FP.fcmp a0 (FP.fconst0)) .g) then (f_X11_singleBits_109 a0 x3_21 w) else (f_X11_singleBits_109 a0 (x3_21 ||| (-2147483648 : Int32)) w)))
def f_X11_singleBits_54b (a0 : UInt32) (x1 : UInt32) (x2 : Int32) (x3 : Int32) (w : am_S) : Option ((Int32 × am_S) ⊕ (UInt32 × Int32 × Int32 × am_S)) :=
  if (300 : Int32) ≤ x3 then (am_x (f_X11_singleBits_80 a0 x1 x2 w)) else (if 0 ≤ (Op.cmpValue (FP.fcmp x1 (FP.fconst1)) .g) then (am_x (f_X11_singleBits_80 a0 x1 x2 w)) else (am_n32 (FP.fmul x1 (FP.fconst2)) (am_v (FP.fmul x1 (FP.fconst2)) fun (x1_28 : UInt32) => am_v (x2 + (-1 : Int32)) fun (x2_29 : Int32) => am_v (x3 + (1 : Int32)) fun (x3_30 : Int32) => some (.inr (x1_28, x2_29, x3_30, w)))))
def f_X11_singleBits_54 (a0 : UInt32) (x1 : UInt32) (x2 : Int32) (x3 : Int32) (w : am_S) : Option (Int32 × am_S) :=
  am_loop (fun (st : (UInt32 × Int32 × Int32 × am_S)) => f_X11_singleBits_54b a0 st.1 st.2.1 st.2.2.1 st.2.2.2) am_fuel (x1, x2, x3, w)
def f_X11_singleBits_52 (a0 : UInt32) (x1 : UInt32) (x2 : Int32) (w : am_S) : Option (Int32 × am_S) :=
  f_X11_singleBits_54 a0 x1 x2 (0 : Int32) w
def f_X11_singleBits_26b (a0 : UInt32) (x1 : UInt32) (x2 : Int32) (x3 : Int32) (w : am_S) : Option ((Int32 × am_S) ⊕ (UInt32 × Int32 × Int32 × am_S)) :=
  if (300 : Int32) ≤ x3 then (am_x (f_X11_singleBits_52 a0 x1 x2 w)) else (if (Op.cmpValue (FP.fcmp x1 (FP.fconst2)) .l) < 0 then (am_x (f_X11_singleBits_52 a0 x1 x2 w)) else (am_n32 (FP.fdiv x1 (FP.fconst2)) (am_v (FP.fdiv x1 (FP.fconst2)) fun (x1_36 : UInt32) => am_v (x2 + (1 : Int32)) fun (x2_37 : Int32) => am_v (x3 + (1 : Int32)) fun (x3_38 : Int32) => some (.inr (x1_36, x2_37, x3_38, w)))))
def f_X11_singleBits_26 (a0 : UInt32) (x1 : UInt32) (x2 : Int32) (x3 : Int32) (w : am_S) : Option (Int32 × am_S) :=
  am_loop (fun (st : (UInt32 × Int32 × Int32 × am_S)) => f_X11_singleBits_26b a0 st.1 st.2.1 st.2.2.1 st.2.2.2) am_fuel (x1, x2, x3, w)
def f_X11_singleBits_20 (a0 : UInt32) (s0 : UInt32) (w : am_S) : Option (Int32 × am_S) :=
  f_X11_singleBits_26 a0 s0 (127 : Int32) (0 : Int32) w
def f_X11_singleBits (a0 : UInt32) (w : am_S) : Option (Int32 × am_S) :=
  if (Op.cmpValue (FP.fcmp a0 (FP.fconst0)) .l) = 0 then (some ((0 : Int32), w)) else (if 0 ≤ (Op.cmpValue (FP.fcmp a0 (FP.fconst0)) .g) then (f_X11_singleBits_20 a0 a0 w) else (f_X11_singleBits_20 a0 (FP.fneg a0) w))
set_option maxRecDepth 100000 in
set_option maxHeartbeats 4000000 in
theorem k_X11_singleBits {G : am_G} {l : Launch} {a0 : UInt32}  {w : am_S} {rr : Int32} {ww : am_S} (hf : f_X11_singleBits a0 w = some (rr, ww)) : am_Mi G l yX11_singleBits (Cond.code yX11_singleBits cX11_singleBits 4 (some .int) :: am_T) { frames := 0, cells := 0, slots := 0, locals := 0 } [.float a0] w rr ww := by
  refine Met.ofW (cc := cX11_singleBits) (maxL := 4) (ret := (some .int)) (by decide) rfl ?_
  intro p e s m args below meth c s₁ B hml hv
  obtain ⟨rfl, hx, hb, hr, hts, hown, hlocks, hK, hE, hH⟩ := am_begin B hv
  have hown : s.vm.findClass RX11 = some m.cls := hown
  show W p l e { frames := 0, cells := 0, slots := 0, locals := 0 } s m _ below meth c s.heap [] 0 0 _ _
  have P109 : ∀ (s0 : Int32) (w : am_S) (H : Heap) (locs : List Loc) (ls : Array Slot), f_X11_singleBits_109 a0 s0 w = some (rr, ww) → am_H G w s H locs → lv_has ls 4 [] → W p l e { frames := 0, cells := 0, slots := 0, locals := 0 } s m [.float a0].toArray below meth c H locs 0 0 (MQ below (va_Qi (fun (x : Int32) (u : am_S) => x = rr ∧ u = ww) (am_U G) (am_A G)) [.float a0].toArray s 0 0 (am_A G)) (F0 m 109 ls [.int s0]) := by
    intro s0 w H locs ls hf hH hl
    unfold f_X11_singleBits_109 at hf
    exact am_reti hx hb hr hlocks hH hf dX11_singleBits_109
  have P80 : ∀ (x1 : UInt32) (x2 : Int32) (w : am_S) (H : Heap) (locs : List Loc) (ls : Array Slot), f_X11_singleBits_80 a0 x1 x2 w = some (rr, ww) → am_H G w s H locs → lv_has ls 4 [(0, .float a0), (1, .float x1), (2, .int x2)] → W p l e { frames := 0, cells := 0, slots := 0, locals := 0 } s m [.float a0].toArray below meth c H locs 0 0 (MQ below (va_Qi (fun (x : Int32) (u : am_S) => x = rr ∧ u = ww) (am_U G) (am_A G)) [.float a0].toArray s 0 0 (am_A G)) (F0 m 80 ls []) := by
    intro x1 x2 w H locs ls hf hH hl
    unfold f_X11_singleBits_80 at hf
    refine lv_iload_n hx hb dX11_singleBits_80 rfl (lv_at hl 2 rfl) ?_
    refine lv_bipush (v := 23) hx hb dX11_singleBits_81 (by decide) ?_
    refine lv_ishl hx hb dX11_singleBits_83 ?_
    refine lv_fload_n hx hb dX11_singleBits_84 rfl (lv_at hl 1 rfl) ?_
    refine lv_fconst1 hx hb dX11_singleBits_85 ?_
    obtain ⟨hn_19, hf⟩ := am_n32_some hf
    refine lv_fsub hx hb dX11_singleBits_86 hn_19 ?_
    refine am_ldcwf (v := 1258291200) hx hb hown (hts _ am_q652) dX11_singleBits_87 ?_
    obtain ⟨hn_20, hf⟩ := am_n32_some hf
    refine lv_fmul hx hb dX11_singleBits_90 hn_20 ?_
    refine lv_f2i hx hb dX11_singleBits_91 ?_
    refine lv_ior hx hb dX11_singleBits_92 ?_
    obtain ⟨x3_21, hx3_21, hf⟩ := am_v_some hf
    refine am_topi hx3_21 ?_
    refine lv_istore_n (lv' := [(3, .int x3_21), (0, .float a0), (1, .float x1), (2, .int x2)]) hx hb dX11_singleBits_93 rfl hl (by decide) rfl (fun ls hl => ?_)
    refine lv_fload_n hx hb dX11_singleBits_94 rfl (lv_at hl 1 rfl) ?_
    refine lv_fconst0 hx hb dX11_singleBits_95 ?_
    refine lv_fcmp hx hb dX11_singleBits_96 ?_
    refine lv_if_ge (tgt := 108) hx hb dX11_singleBits_97 (by decide) (fun hc_22 => ?_) (fun hc_22 => ?_)
    · have hf := (if_pos hc_22).symm.trans hf
      refine lv_iload_n hx hb dX11_singleBits_108 rfl (lv_at hl 0 rfl) ?_
      exact P109 x3_21 w H locs ls hf hH (lv_sub hl [] rfl)
    · have hf := (if_neg hc_22).symm.trans hf
      refine lv_iload_n hx hb dX11_singleBits_100 rfl (lv_at hl 0 rfl) ?_
      refine lv_ldcw (v := -2147483648) hx hb hown (hts _ am_q653) dX11_singleBits_101 ?_
      refine lv_ior hx hb dX11_singleBits_104 ?_
      refine lv_goto (tgt := 109) hx hb dX11_singleBits_105 (by decide) ?_
      exact P109 (x3_21 ||| (-2147483648 : Int32)) w H locs ls hf hH (lv_sub hl [] rfl)
  have P54 : ∀ (n1 : Nat) (x1 : UInt32) (x2 : Int32) (x3 : Int32) (w : am_S) (H : Heap) (locs : List Loc) (ls : Array Slot), am_loop (fun (st : (UInt32 × Int32 × Int32 × am_S)) => f_X11_singleBits_54b a0 st.1 st.2.1 st.2.2.1 st.2.2.2) n1 (x1, x2, x3, w) = some (rr, ww) → am_H G w s H locs → lv_has ls 4 [(0, .float a0), (1, .float x1), (2, .int x2), (3, .int x3)] → W p l e { frames := 0, cells := 0, slots := 0, locals := 0 } s m [.float a0].toArray below meth c H locs 0 0 (MQ below (va_Qi (fun (x : Int32) (u : am_S) => x = rr ∧ u = ww) (am_U G) (am_A G)) [.float a0].toArray s 0 0 (am_A G)) (F0 m 54 ls []) := by
    intro n1
    induction n1 with
    | zero =>
      intro x1 x2 x3 w H locs ls hf hH hl
      exact (am_loop_zero hf).elim
    | succ n1 ih1 =>
      intro x1 x2 x3 w H locs ls hf hH hl
      obtain ⟨z1, hf, hk1⟩ := am_loop_succ hf
      have hf : f_X11_singleBits_54b a0 x1 x2 x3 w = some z1 := hf
      unfold f_X11_singleBits_54b at hf
      refine lv_iload_n hx hb dX11_singleBits_54 rfl (lv_at hl 3 rfl) ?_
      refine lv_sipush (v := 300) hx hb dX11_singleBits_55 (by decide) ?_
      refine lv_icmp_ge (tgt := 80) hx hb dX11_singleBits_58 (by decide) (fun hc_23 => ?_) (fun hc_23 => ?_)
      · have hf := (if_pos hc_23).symm.trans hf
        obtain ⟨y_24, hf, hzy_24⟩ := am_x_some hf
        rw [hzy_24] at hk1
        have hf := hf.trans (congrArg some (show y_24 = (rr, ww) from hk1))
        exact P80 x1 x2 w H locs ls hf hH (lv_sub hl [0, 1, 2] rfl)
      · have hf := (if_neg hc_23).symm.trans hf
        refine lv_fload_n hx hb dX11_singleBits_61 rfl (lv_at hl 1 rfl) ?_
        refine lv_fconst1 hx hb dX11_singleBits_62 ?_
        refine lv_fcmp hx hb dX11_singleBits_63 ?_
        refine lv_if_ge (tgt := 80) hx hb dX11_singleBits_64 (by decide) (fun hc_25 => ?_) (fun hc_25 => ?_)
        · have hf := (if_pos hc_25).symm.trans hf
          obtain ⟨y_26, hf, hzy_26⟩ := am_x_some hf
          rw [hzy_26] at hk1
          have hf := hf.trans (congrArg some (show y_26 = (rr, ww) from hk1))
          exact P80 x1 x2 w H locs ls hf hH (lv_sub hl [0, 1, 2] rfl)
        · have hf := (if_neg hc_25).symm.trans hf
          refine lv_fload_n hx hb dX11_singleBits_67 rfl (lv_at hl 1 rfl) ?_
          refine lv_fconst2 hx hb dX11_singleBits_68 ?_
          obtain ⟨hn_27, hf⟩ := am_n32_some hf
          refine lv_fmul hx hb dX11_singleBits_69 hn_27 ?_
          obtain ⟨x1_28, hx1_28, hf⟩ := am_v_some hf
          refine am_topf hx1_28 ?_
          refine lv_fstore_n (lv' := [(1, .float x1_28), (0, .float a0), (2, .int x2), (3, .int x3)]) hx hb dX11_singleBits_70 rfl hl (by decide) rfl (fun ls hl => ?_)
          obtain ⟨x2_29, hx2_29, hf⟩ := am_v_some hf
          refine lv_iinc (v := x2_29) (lv' := [(2, .int x2_29), (1, .float x1_28), (0, .float a0), (3, .int x3)]) hx hb dX11_singleBits_71 hl (k := 2) rfl (by rw [hx2_29]; rfl) (by decide) rfl (fun ls hl => ?_)
          obtain ⟨x3_30, hx3_30, hf⟩ := am_v_some hf
          refine lv_iinc (v := x3_30) (lv' := [(3, .int x3_30), (2, .int x2_29), (1, .float x1_28), (0, .float a0)]) hx hb dX11_singleBits_74 hl (k := 3) rfl (by rw [hx3_30]; rfl) (by decide) rfl (fun ls hl => ?_)
          refine lv_goto (tgt := 54) hx hb dX11_singleBits_77 (by decide) ?_
          obtain rfl := Option.some.inj hf
          exact ih1 x1_28 x2_29 x3_30 w H locs ls hk1 hH (lv_sub hl [3, 2, 1, 0] rfl)
  have P52 : ∀ (x1 : UInt32) (x2 : Int32) (w : am_S) (H : Heap) (locs : List Loc) (ls : Array Slot), f_X11_singleBits_52 a0 x1 x2 w = some (rr, ww) → am_H G w s H locs → lv_has ls 4 [(0, .float a0), (1, .float x1), (2, .int x2)] → W p l e { frames := 0, cells := 0, slots := 0, locals := 0 } s m [.float a0].toArray below meth c H locs 0 0 (MQ below (va_Qi (fun (x : Int32) (u : am_S) => x = rr ∧ u = ww) (am_U G) (am_A G)) [.float a0].toArray s 0 0 (am_A G)) (F0 m 52 ls []) := by
    intro x1 x2 w H locs ls hf hH hl
    unfold f_X11_singleBits_52 at hf
    refine lv_iconst (v := 0) hx hb dX11_singleBits_52 (by decide) ?_
    refine lv_istore_n (lv' := [(3, .int (0 : Int32)), (0, .float a0), (1, .float x1), (2, .int x2)]) hx hb dX11_singleBits_53 rfl hl (by decide) rfl (fun ls hl => ?_)
    exact P54 am_fuel x1 x2 (0 : Int32) w H locs ls hf hH (lv_sub hl [1, 2, 3, 0] rfl)
  have P26 : ∀ (n1 : Nat) (x1 : UInt32) (x2 : Int32) (x3 : Int32) (w : am_S) (H : Heap) (locs : List Loc) (ls : Array Slot), am_loop (fun (st : (UInt32 × Int32 × Int32 × am_S)) => f_X11_singleBits_26b a0 st.1 st.2.1 st.2.2.1 st.2.2.2) n1 (x1, x2, x3, w) = some (rr, ww) → am_H G w s H locs → lv_has ls 4 [(0, .float a0), (1, .float x1), (2, .int x2), (3, .int x3)] → W p l e { frames := 0, cells := 0, slots := 0, locals := 0 } s m [.float a0].toArray below meth c H locs 0 0 (MQ below (va_Qi (fun (x : Int32) (u : am_S) => x = rr ∧ u = ww) (am_U G) (am_A G)) [.float a0].toArray s 0 0 (am_A G)) (F0 m 26 ls []) := by
    intro n1
    induction n1 with
    | zero =>
      intro x1 x2 x3 w H locs ls hf hH hl
      exact (am_loop_zero hf).elim
    | succ n1 ih1 =>
      intro x1 x2 x3 w H locs ls hf hH hl
      obtain ⟨z1, hf, hk1⟩ := am_loop_succ hf
      have hf : f_X11_singleBits_26b a0 x1 x2 x3 w = some z1 := hf
      unfold f_X11_singleBits_26b at hf
      refine lv_iload_n hx hb dX11_singleBits_26 rfl (lv_at hl 3 rfl) ?_
      refine lv_sipush (v := 300) hx hb dX11_singleBits_27 (by decide) ?_
      refine lv_icmp_ge (tgt := 52) hx hb dX11_singleBits_30 (by decide) (fun hc_31 => ?_) (fun hc_31 => ?_)
      · have hf := (if_pos hc_31).symm.trans hf
        obtain ⟨y_32, hf, hzy_32⟩ := am_x_some hf
        rw [hzy_32] at hk1
        have hf := hf.trans (congrArg some (show y_32 = (rr, ww) from hk1))
        exact P52 x1 x2 w H locs ls hf hH (lv_sub hl [0, 1, 2] rfl)
      · have hf := (if_neg hc_31).symm.trans hf
        refine lv_fload_n hx hb dX11_singleBits_33 rfl (lv_at hl 1 rfl) ?_
        refine lv_fconst2 hx hb dX11_singleBits_34 ?_
        refine lv_fcmp hx hb dX11_singleBits_35 ?_
        refine lv_if_lt (tgt := 52) hx hb dX11_singleBits_36 (by decide) (fun hc_33 => ?_) (fun hc_33 => ?_)
        · have hf := (if_pos hc_33).symm.trans hf
          obtain ⟨y_34, hf, hzy_34⟩ := am_x_some hf
          rw [hzy_34] at hk1
          have hf := hf.trans (congrArg some (show y_34 = (rr, ww) from hk1))
          exact P52 x1 x2 w H locs ls hf hH (lv_sub hl [0, 1, 2] rfl)
        · have hf := (if_neg hc_33).symm.trans hf
          refine lv_fload_n hx hb dX11_singleBits_39 rfl (lv_at hl 1 rfl) ?_
          refine lv_fconst2 hx hb dX11_singleBits_40 ?_
          obtain ⟨hn_35, hf⟩ := am_n32_some hf
          refine lv_fdiv hx hb dX11_singleBits_41 hn_35 ?_
          obtain ⟨x1_36, hx1_36, hf⟩ := am_v_some hf
          refine am_topf hx1_36 ?_
          refine lv_fstore_n (lv' := [(1, .float x1_36), (0, .float a0), (2, .int x2), (3, .int x3)]) hx hb dX11_singleBits_42 rfl hl (by decide) rfl (fun ls hl => ?_)
          obtain ⟨x2_37, hx2_37, hf⟩ := am_v_some hf
          refine lv_iinc (v := x2_37) (lv' := [(2, .int x2_37), (1, .float x1_36), (0, .float a0), (3, .int x3)]) hx hb dX11_singleBits_43 hl (k := 2) rfl (by rw [hx2_37]; rfl) (by decide) rfl (fun ls hl => ?_)
          obtain ⟨x3_38, hx3_38, hf⟩ := am_v_some hf
          refine lv_iinc (v := x3_38) (lv' := [(3, .int x3_38), (2, .int x2_37), (1, .float x1_36), (0, .float a0)]) hx hb dX11_singleBits_46 hl (k := 3) rfl (by rw [hx3_38]; rfl) (by decide) rfl (fun ls hl => ?_)
          refine lv_goto (tgt := 26) hx hb dX11_singleBits_49 (by decide) ?_
          obtain rfl := Option.some.inj hf
          exact ih1 x1_36 x2_37 x3_38 w H locs ls hk1 hH (lv_sub hl [3, 2, 1, 0] rfl)
  have P20 : ∀ (s0 : UInt32) (w : am_S) (H : Heap) (locs : List Loc) (ls : Array Slot), f_X11_singleBits_20 a0 s0 w = some (rr, ww) → am_H G w s H locs → lv_has ls 4 [(0, .float a0)] → W p l e { frames := 0, cells := 0, slots := 0, locals := 0 } s m [.float a0].toArray below meth c H locs 0 0 (MQ below (va_Qi (fun (x : Int32) (u : am_S) => x = rr ∧ u = ww) (am_U G) (am_A G)) [.float a0].toArray s 0 0 (am_A G)) (F0 m 20 ls [.float s0]) := by
    intro s0 w H locs ls hf hH hl
    unfold f_X11_singleBits_20 at hf
    refine lv_fstore_n (lv' := [(1, .float s0), (0, .float a0)]) hx hb dX11_singleBits_20 rfl hl (by decide) rfl (fun ls hl => ?_)
    refine lv_bipush (v := 127) hx hb dX11_singleBits_21 (by decide) ?_
    refine lv_istore_n (lv' := [(2, .int (127 : Int32)), (1, .float s0), (0, .float a0)]) hx hb dX11_singleBits_23 rfl hl (by decide) rfl (fun ls hl => ?_)
    refine lv_iconst (v := 0) hx hb dX11_singleBits_24 (by decide) ?_
    refine lv_istore_n (lv' := [(3, .int (0 : Int32)), (2, .int (127 : Int32)), (1, .float s0), (0, .float a0)]) hx hb dX11_singleBits_25 rfl hl (by decide) rfl (fun ls hl => ?_)
    exact P26 am_fuel s0 (127 : Int32) (0 : Int32) w H locs ls hf hH (lv_sub hl [3, 2, 1, 0] rfl)
  refine am_enter (lv := [(0, .float a0)]) (Nat.le_of_ble_eq_true rfl) rfl (fun ls hl => ?_)
  unfold f_X11_singleBits at hf
  refine am_start hH (fun H locs hH => ?_)
  refine lv_fload_n hx hb dX11_singleBits_0 rfl (lv_at hl 0 rfl) ?_
  refine lv_fconst0 hx hb dX11_singleBits_1 ?_
  refine lv_fcmp hx hb dX11_singleBits_2 ?_
  refine lv_if_ne (tgt := 8) hx hb dX11_singleBits_3 (by decide) (fun hc_39 => ?_) (fun hc_39 => ?_)
  · have hf := (if_neg hc_39).symm.trans hf
    refine lv_fload_n hx hb dX11_singleBits_8 rfl (lv_at hl 0 rfl) ?_
    refine lv_fconst0 hx hb dX11_singleBits_9 ?_
    refine lv_fcmp hx hb dX11_singleBits_10 ?_
    refine lv_if_ge (tgt := 19) hx hb dX11_singleBits_11 (by decide) (fun hc_40 => ?_) (fun hc_40 => ?_)
    · have hf := (if_pos hc_40).symm.trans hf
      refine lv_fload_n hx hb dX11_singleBits_19 rfl (lv_at hl 0 rfl) ?_
      exact P20 a0 w H locs ls hf hH (lv_sub hl [0] rfl)
    · have hf := (if_neg hc_40).symm.trans hf
      refine lv_fload_n hx hb dX11_singleBits_14 rfl (lv_at hl 0 rfl) ?_
      refine lv_fneg hx hb dX11_singleBits_15 ?_
      refine lv_goto (tgt := 20) hx hb dX11_singleBits_16 (by decide) ?_
      exact P20 (FP.fneg a0) w H locs ls hf hH (lv_sub hl [0] rfl)
  · have hf := (if_pos hc_39).symm.trans hf
    refine lv_iconst (v := 0) hx hb dX11_singleBits_6 (by decide) ?_
    exact am_reti hx hb hr hlocks hH hf dX11_singleBits_7

def f_X11_din (a1 : Int32) (a2 : Int32) (w : am_S) : Option (Int32 × am_S) :=
  am_b2 (f_X11_isOpenCopy a1 a2 w) fun r_15 w_13 => if r_15 = 0 then (some ((-1 : Int32), w_13)) else (am_b1 (f_X7_lookAt 23 w_13) fun w_17 => am_b2 (f_X7_dinFor a1 a2 w_17) fun r_21 w_19 => am_b2 (f_X11_singleBits r_21 w_19) fun r_24 w_22 => some (r_24, w_22))
set_option maxRecDepth 100000 in
set_option maxHeartbeats 4000000 in
theorem k_X11_din {G : am_G} {l : Launch} {a1 : Int32} {a2 : Int32}  {w : am_S} {rr : Int32} {ww : am_S} (hf : f_X11_din a1 a2 w = some (rr, ww)) : am_Mi G l yX11_din (Cond.code yX11_din cX11_din 3 (some .int) :: am_T) { frames := 3, cells := 0, slots := 0, locals := 192 } [.ref (G.1 + 0), .int a1, .int a2] w rr ww := by
  refine Met.ofW (cc := cX11_din) (maxL := 3) (ret := (some .int)) (by decide) rfl ?_
  intro p e s m args below meth c s₁ B hml hv
  obtain ⟨rfl, hx, hb, hr, hts, hown, hlocks, hK, hE, hH⟩ := am_begin B hv
  have hown : s.vm.findClass RX11 = some m.cls := hown
  show W p l e { frames := 3, cells := 0, slots := 0, locals := 192 } s m _ below meth c s.heap [] 0 0 _ _
  refine am_enter (lv := [(0, .ref (G.1 + 0)), (1, .int a1), (2, .int a2)]) (Nat.le_of_ble_eq_true rfl) rfl (fun ls hl => ?_)
  unfold f_X11_din at hf
  refine am_start hH (fun H locs hH => ?_)
  refine lv_aload_n hx hb dX11_din_0 rfl (lv_at hl 0 rfl) ?_
  refine lv_iload_n hx hb dX11_din_1 rfl (lv_at hl 1 rfl) ?_
  refine lv_iload_n hx hb dX11_din_2 rfl (lv_at hl 2 rfl) ?_
  obtain ⟨r_15, w_13, hq_14, hf⟩ := am_b2_some hf
  refine am_calli (r := r_15) (w' := w_13) (am_runV (n := 2) (As := [.int a1, .int a2]) (rest := []) ⟨hx, hb, hml, hown, hts⟩ hK hE hH (k_X11_isOpenCopy hq_14) (am_gV am_q658 am_q660 am_qs13 am_q1 am_q661) (am_o11 (p := 0) (by decide +kernel)) rfl ⟨rfl, rfl⟩ (by decide +kernel) ⟨Nat.le_of_ble_eq_true rfl, Nat.le_of_ble_eq_true rfl⟩ rfl hl.1 rfl (Nat.le_of_ble_eq_true rfl) ⟨Nat.zero_le _, Nat.zero_le _⟩ dX11_din_3) hH (fun H locs hH => ?_)
  refine lv_if_ne (tgt := 11) hx hb dX11_din_6 (by decide) (fun hc_16 => ?_) (fun hc_16 => ?_)
  · have hf := (if_neg hc_16).symm.trans hf
    refine lv_aload_n hx hb dX11_din_11 rfl (lv_at hl 0 rfl) ?_
    refine am_get hx hb hts hK hown hH (am_o11 (p := 0) (by decide +kernel)) rfl am_inX11 13 (by decide) am_q344 (v := .ref (G.1 + 250)) rfl dX11_din_12 ?_
    refine lv_aload_n hx hb dX11_din_15 rfl (lv_at hl 0 rfl) ?_
    refine am_get hx hb hts hK hown hH (am_o11 (p := 0) (by decide +kernel)) rfl am_inX11 5 (by decide) am_q336 (v := .ref (G.1 + 23)) rfl dX11_din_16 ?_
    obtain ⟨w_17, hq_18, hf⟩ := am_b1_some hf
    refine am_callv (w' := w_17) (am_runV (n := 1) (As := [.ref (G.1 + 23)]) (rest := []) ⟨hx, hb, hml, hown, hts⟩ hK hE hH (k_X7_lookAt (by decide +kernel) hq_18) (am_gV am_q670 am_q671 am_q672 am_q9 am_q673) (am_o7 (p := 250) (by decide +kernel)) rfl ⟨rfl, rfl⟩ (by decide +kernel) ⟨Nat.le_of_ble_eq_true rfl, Nat.le_of_ble_eq_true rfl⟩ rfl hl.1 rfl (Nat.le_of_ble_eq_true rfl) ⟨Nat.zero_le _, Nat.zero_le _⟩ dX11_din_19) hH (fun H locs hH => ?_)
    refine lv_aload_n hx hb dX11_din_22 rfl (lv_at hl 0 rfl) ?_
    refine am_get hx hb hts hK hown hH (am_o11 (p := 0) (by decide +kernel)) rfl am_inX11 13 (by decide) am_q344 (v := .ref (G.1 + 250)) rfl dX11_din_23 ?_
    refine lv_iload_n hx hb dX11_din_26 rfl (lv_at hl 1 rfl) ?_
    refine lv_iload_n hx hb dX11_din_27 rfl (lv_at hl 2 rfl) ?_
    obtain ⟨r_21, w_19, hq_20, hf⟩ := am_b2_some hf
    refine am_callf (r := r_21) (w' := w_19) (am_runV (n := 2) (As := [.int a1, .int a2]) (rest := []) ⟨hx, hb, hml, hown, hts⟩ hK hE hH (k_X7_dinFor hq_20) (am_gV am_q685 am_q686 am_q687 am_q9 am_q688) (am_o7 (p := 250) (by decide +kernel)) rfl ⟨rfl, rfl⟩ (by decide +kernel) ⟨Nat.le_of_ble_eq_true rfl, Nat.le_of_ble_eq_true rfl⟩ rfl hl.1 rfl (Nat.le_of_ble_eq_true rfl) ⟨Nat.zero_le _, Nat.zero_le _⟩ dX11_din_28) hH (fun H locs hH => ?_)
    obtain ⟨r_24, w_22, hq_23, hf⟩ := am_b2_some hf
    refine am_calli (r := r_24) (w' := w_22) (am_runS (n := 1) (As := [.float r_21]) (rest := []) ⟨hx, hb, hml, hown, hts⟩ hK hE hH (k_X11_singleBits hq_23) (am_gS am_q649 am_q650 am_q1 am_q651) ⟨rfl, rfl⟩ (by decide +kernel) ⟨Nat.le_of_ble_eq_true rfl, Nat.le_of_ble_eq_true rfl⟩ rfl hl.1 rfl (Nat.le_of_ble_eq_true rfl) ⟨Nat.zero_le _, Nat.zero_le _⟩ dX11_din_31) hH (fun H locs hH => ?_)
    exact am_reti hx hb hr hlocks hH hf dX11_din_34
  · have hf := (if_pos hc_16).symm.trans hf
    refine lv_iconst (v := -1) hx hb dX11_din_9 (by decide) ?_
    exact am_reti hx hb hr hlocks hH hf dX11_din_10

def f_X11_draw (a1 : Int32) (a2 : Int64) (w : am_S) : Option (Int32 × am_S) :=
  am_b2 (f_X11_act (6 : Int32) a1 (-1 : Int32) a2 w) fun r_6 w_4 => some (r_6, w_4)
set_option maxRecDepth 100000 in
set_option maxHeartbeats 4000000 in
theorem k_X11_draw {G : am_G} {l : Launch} {a1 : Int32} {a2 : Int64}  {w : am_S} {rr : Int32} {ww : am_S} (hf : f_X11_draw a1 a2 w = some (rr, ww)) : am_Mi G l yX11_draw (Cond.code yX11_draw cX11_draw 4 (some .int) :: am_T) { frames := 7, cells := 0, slots := 0, locals := 448 } [.ref (G.1 + 0), .int a1, .long a2] w rr ww := by
  refine Met.ofW (cc := cX11_draw) (maxL := 4) (ret := (some .int)) (by decide) rfl ?_
  intro p e s m args below meth c s₁ B hml hv
  obtain ⟨rfl, hx, hb, hr, hts, hown, hlocks, hK, hE, hH⟩ := am_begin B hv
  have hown : s.vm.findClass RX11 = some m.cls := hown
  show W p l e { frames := 7, cells := 0, slots := 0, locals := 448 } s m _ below meth c s.heap [] 0 0 _ _
  refine am_enter (lv := [(0, .ref (G.1 + 0)), (1, .int a1), (2, .long a2)]) (Nat.le_of_ble_eq_true rfl) rfl (fun ls hl => ?_)
  unfold f_X11_draw at hf
  refine am_start hH (fun H locs hH => ?_)
  refine lv_aload_n hx hb dX11_draw_0 rfl (lv_at hl 0 rfl) ?_
  refine lv_bipush (v := 6) hx hb dX11_draw_1 (by decide) ?_
  refine lv_iload_n hx hb dX11_draw_3 rfl (lv_at hl 1 rfl) ?_
  refine lv_iconst (v := -1) hx hb dX11_draw_4 (by decide) ?_
  refine lv_lload_n hx hb dX11_draw_5 rfl (lv_at hl 2 rfl) ?_
  obtain ⟨r_6, w_4, hq_5, hf⟩ := am_b2_some hf
  refine am_calli (r := r_6) (w' := w_4) (am_runV (n := 4) (As := [.int (6 : Int32), .int a1, .int (-1 : Int32), .long a2]) (rest := []) ⟨hx, hb, hml, hown, hts⟩ hK hE hH (k_X11_act hq_5) (am_gV am_q725 am_q727 am_qs16 am_q1 am_q728) (am_o11 (p := 0) (by decide +kernel)) rfl ⟨rfl, rfl⟩ (by decide +kernel) ⟨Nat.le_of_ble_eq_true rfl, Nat.le_of_ble_eq_true rfl⟩ rfl hl.1 rfl (Nat.le_of_ble_eq_true rfl) ⟨Nat.zero_le _, Nat.zero_le _⟩ dX11_draw_6) hH (fun H locs hH => ?_)
  exact am_reti hx hb hr hlocks hH hf dX11_draw_9

def f_X11_end_15 (a1 : Int32) (w : am_S) : Option (Int32 × am_S) :=
  some ((0 : Int32), w)
def f_X11_end (a1 : Int32) (w : am_S) : Option (Int32 × am_S) :=
  if a1 < 0 then (f_X11_end_15 a1 w) else (if a1 ≤ (w.1 1 1) then (am_v (am_pi w 1 1 a1) fun (w_6 : am_S) => some ((1 : Int32), w_6)) else (f_X11_end_15 a1 w))
set_option maxRecDepth 100000 in
set_option maxHeartbeats 4000000 in
theorem k_X11_end {G : am_G} {l : Launch} {a1 : Int32}  {w : am_S} {rr : Int32} {ww : am_S} (hf : f_X11_end a1 w = some (rr, ww)) : am_Mi G l yX11_end (Cond.code yX11_end cX11_end 2 (some .boolean) :: am_T) { frames := 0, cells := 0, slots := 0, locals := 0 } [.ref (G.1 + 0), .int a1] w rr ww := by
  refine Met.ofW (cc := cX11_end) (maxL := 2) (ret := (some .boolean)) (by decide) rfl ?_
  intro p e s m args below meth c s₁ B hml hv
  obtain ⟨rfl, hx, hb, hr, hts, hown, hlocks, hK, hE, hH⟩ := am_begin B hv
  have hown : s.vm.findClass RX11 = some m.cls := hown
  show W p l e { frames := 0, cells := 0, slots := 0, locals := 0 } s m _ below meth c s.heap [] 0 0 _ _
  have P15 : ∀ (w : am_S) (H : Heap) (locs : List Loc) (ls : Array Slot), f_X11_end_15 a1 w = some (rr, ww) → am_H G w s H locs → lv_has ls 2 [] → W p l e { frames := 0, cells := 0, slots := 0, locals := 0 } s m [.ref (G.1 + 0), .int a1].toArray below meth c H locs 0 0 (MQ below (va_Qi (fun (x : Int32) (u : am_S) => x = rr ∧ u = ww) (am_U G) (am_A G)) [.ref (G.1 + 0), .int a1].toArray s 0 0 (am_A G)) (F0 m 15 ls []) := by
    intro w H locs ls hf hH hl
    unfold f_X11_end_15 at hf
    refine lv_iconst (v := 0) hx hb dX11_end_15 (by decide) ?_
    exact am_retz hx hb hr rfl hlocks hH hf dX11_end_16
  refine am_enter (lv := [(0, .ref (G.1 + 0)), (1, .int a1)]) (Nat.le_of_ble_eq_true rfl) rfl (fun ls hl => ?_)
  unfold f_X11_end at hf
  refine am_start hH (fun H locs hH => ?_)
  refine lv_iload_n hx hb dX11_end_0 rfl (lv_at hl 1 rfl) ?_
  refine lv_if_lt (tgt := 15) hx hb dX11_end_1 (by decide) (fun hc_4 => ?_) (fun hc_4 => ?_)
  · have hf := (if_pos hc_4).symm.trans hf
    exact P15 w H locs ls hf hH (lv_sub hl [] rfl)
  · have hf := (if_neg hc_4).symm.trans hf
    refine lv_iload_n hx hb dX11_end_4 rfl (lv_at hl 1 rfl) ?_
    refine lv_aload_n hx hb dX11_end_5 rfl (lv_at hl 0 rfl) ?_
    refine am_get hx hb hts hK hown hH (am_o11 (p := 0) (by decide +kernel)) rfl am_inX11 0 (by decide) am_q331 (v := .ref (G.1 + 1)) rfl dX11_end_6 ?_
    refine am_get hx hb hts hK hown hH (am_o10 (p := 1) (by decide +kernel)) rfl am_inX10 1 (by decide) am_q46 (v := .int (w.1 1 1)) rfl dX11_end_9 ?_
    refine lv_icmp_le (tgt := 17) hx hb dX11_end_12 (by decide) (fun hc_5 => ?_) (fun hc_5 => ?_)
    · have hf := (if_pos hc_5).symm.trans hf
      refine lv_aload_n hx hb dX11_end_17 rfl (lv_at hl 0 rfl) ?_
      refine am_get hx hb hts hK hown hH (am_o11 (p := 0) (by decide +kernel)) rfl am_inX11 0 (by decide) am_q331 (v := .ref (G.1 + 1)) rfl dX11_end_18 ?_
      refine lv_iload_n hx hb dX11_end_21 rfl (lv_at hl 1 rfl) ?_
      obtain ⟨w_6, hw_6, hf⟩ := am_v_some hf
      refine am_puti hx hb hts hK hown hH (am_o10 (p := 1) (by decide +kernel)) rfl am_inX10 tyX10 tyX10_ok nmX10 1 (by decide) am_q46 rfl rfl rfl (fun _ _ => Nat.le_of_ble_eq_true rfl) (fun _ _ _ => rfl) dX11_end_22 (fun H locs hH => ?_)
      rw [← hw_6] at hH
      refine lv_iconst (v := 1) hx hb dX11_end_25 (by decide) ?_
      exact am_retz hx hb hr rfl hlocks hH hf dX11_end_26
    · have hf := (if_neg hc_5).symm.trans hf
      exact P15 w H locs ls hf hH (lv_sub hl [] rfl)

def f_X1_keepRules_x0 (o0 : Nat) (w : am_S) : Option am_S :=
  am_chk (0 : Int32) 4 (am_v (am_pi w o0 7 (am_sv 0 (0 : Int32).toNatClampNeg)) fun (w_10 : am_S) => am_chk (1 : Int32) 4 (am_v (am_pi w_10 o0 8 (am_sv 0 (1 : Int32).toNatClampNeg)) fun (w_12 : am_S) => am_chk (2 : Int32) 4 (am_v (am_pi w_12 o0 9 (am_sv 0 (2 : Int32).toNatClampNeg)) fun (w_14 : am_S) => am_chk (3 : Int32) 4 (am_v (am_pi w_14 o0 10 (am_sv 0 (3 : Int32).toNatClampNeg)) fun (w_16 : am_S) => some w_16))))
set_option maxRecDepth 100000 in
set_option maxHeartbeats 4000000 in
theorem k_X1_keepRules_x0 {G : am_G} {l : Launch} {o0 : Nat} (ho0 : am_f1 o0) {w : am_S} {ww : am_S} (hf : f_X1_keepRules_x0 o0 w = some ww) : am_Mv G l yX1_keepRules (Cond.code yX1_keepRules cX1_keepRules 2 none :: am_T) { frames := 0, cells := 0, slots := 0, locals := 0 } [.ref (G.1 + o0), .ref (G.2.2.2.1 0)] w ww := by
  refine Met.ofW (cc := cX1_keepRules) (maxL := 2) (ret := none) (by decide) rfl ?_
  intro p e s m args below meth c s₁ B hml hv
  obtain ⟨rfl, hx, hb, hr, hts, hown, hlocks, hK, hE, hH⟩ := am_begin B hv
  have hown : s.vm.findClass RX1 = some m.cls := hown
  show W p l e { frames := 0, cells := 0, slots := 0, locals := 0 } s m _ below meth c s.heap [] 0 0 _ _
  refine am_enter (lv := [(0, .ref (G.1 + o0)), (1, .ref (G.2.2.2.1 0))]) (Nat.le_of_ble_eq_true rfl) rfl (fun ls hl => ?_)
  unfold f_X1_keepRules_x0 at hf
  refine am_start hH (fun H locs hH => ?_)
  refine lv_aload_n hx hb dX1_keepRules_0 rfl (lv_at hl 0 rfl) ?_
  refine lv_aload_n hx hb dX1_keepRules_1 rfl (lv_at hl 1 rfl) ?_
  refine lv_iconst (v := 0) hx hb dX1_keepRules_2 (by decide) ?_
  obtain ⟨hi_9, hf⟩ := am_chk_some hf
  refine va_ti hx hb (hE.1 0 _ rfl).2 hH.2 hi_9 rfl dX1_keepRules_3 ?_
  obtain ⟨w_10, hw_10, hf⟩ := am_v_some hf
  refine am_puti hx hb hts hK hown hH (am_o1 ho0.1) rfl am_inX1 tyX1 tyX1_ok nmX1 7 (by decide) am_q89 rfl rfl rfl (fun _ _ => Nat.le_of_ble_eq_true rfl) (fun _ _ _ => rfl) dX1_keepRules_4 (fun H locs hH => ?_)
  rw [← hw_10] at hH
  refine lv_aload_n hx hb dX1_keepRules_7 rfl (lv_at hl 0 rfl) ?_
  refine lv_aload_n hx hb dX1_keepRules_8 rfl (lv_at hl 1 rfl) ?_
  refine lv_iconst (v := 1) hx hb dX1_keepRules_9 (by decide) ?_
  obtain ⟨hi_11, hf⟩ := am_chk_some hf
  refine va_ti hx hb (hE.1 0 _ rfl).2 hH.2 hi_11 rfl dX1_keepRules_10 ?_
  obtain ⟨w_12, hw_12, hf⟩ := am_v_some hf
  refine am_puti hx hb hts hK hown hH (am_o1 ho0.1) rfl am_inX1 tyX1 tyX1_ok nmX1 8 (by decide) am_q94 rfl rfl rfl (fun _ _ => Nat.le_of_ble_eq_true rfl) (fun _ _ _ => rfl) dX1_keepRules_11 (fun H locs hH => ?_)
  rw [← hw_12] at hH
  refine lv_aload_n hx hb dX1_keepRules_14 rfl (lv_at hl 0 rfl) ?_
  refine lv_aload_n hx hb dX1_keepRules_15 rfl (lv_at hl 1 rfl) ?_
  refine lv_iconst (v := 2) hx hb dX1_keepRules_16 (by decide) ?_
  obtain ⟨hi_13, hf⟩ := am_chk_some hf
  refine va_ti hx hb (hE.1 0 _ rfl).2 hH.2 hi_13 rfl dX1_keepRules_17 ?_
  obtain ⟨w_14, hw_14, hf⟩ := am_v_some hf
  refine am_puti hx hb hts hK hown hH (am_o1 ho0.1) rfl am_inX1 tyX1 tyX1_ok nmX1 9 (by decide) am_q98 rfl rfl rfl (fun _ _ => Nat.le_of_ble_eq_true rfl) (fun _ _ _ => rfl) dX1_keepRules_18 (fun H locs hH => ?_)
  rw [← hw_14] at hH
  refine lv_aload_n hx hb dX1_keepRules_21 rfl (lv_at hl 0 rfl) ?_
  refine lv_aload_n hx hb dX1_keepRules_22 rfl (lv_at hl 1 rfl) ?_
  refine lv_iconst (v := 3) hx hb dX1_keepRules_23 (by decide) ?_
  obtain ⟨hi_15, hf⟩ := am_chk_some hf
  refine va_ti hx hb (hE.1 0 _ rfl).2 hH.2 hi_15 rfl dX1_keepRules_24 ?_
  obtain ⟨w_16, hw_16, hf⟩ := am_v_some hf
  refine am_puti hx hb hts hK hown hH (am_o1 ho0.1) rfl am_inX1 tyX1 tyX1_ok nmX1 10 (by decide) am_q100 rfl rfl rfl (fun _ _ => Nat.le_of_ble_eq_true rfl) (fun _ _ _ => rfl) dX1_keepRules_25 (fun H locs hH => ?_)
  rw [← hw_16] at hH
  exact am_retv hx hb hr hlocks hH hf dX1_keepRules_28

def f_X1_begin (o0 : Nat) (w : am_S) : Option am_S :=
  am_b1 (f_X1_keepRules_x0 o0 w) fun w_9 => am_v (am_pi w_9 o0 11 (0 : Int32)) fun (w_11 : am_S) => am_v (am_pi w_11 o0 12 (0 : Int32)) fun (w_12 : am_S) => am_v (am_pi w_12 o0 13 (0 : Int32)) fun (w_13 : am_S) => am_v (am_pi w_13 o0 14 (0 : Int32)) fun (w_14 : am_S) => am_b1 (f_J7_fill_53178 (o0 + 7) 7 (0 : Int32) w_14) fun w_15 => some w_15
set_option maxRecDepth 100000 in
set_option maxHeartbeats 4000000 in
theorem k_X1_begin {G : am_G} {l : Launch} {o0 : Nat} (ho0 : am_f1 o0) {w : am_S} {ww : am_S} (hf : f_X1_begin o0 w = some ww) : am_Mv G l yX1_begin (Cond.code yX1_begin cX1_begin 1 none :: am_T) { frames := 1, cells := 0, slots := 0, locals := 64 } [.ref (G.1 + o0)] w ww := by
  refine Met.ofW (cc := cX1_begin) (maxL := 1) (ret := none) (by decide) rfl ?_
  intro p e s m args below meth c s₁ B hml hv
  obtain ⟨rfl, hx, hb, hr, hts, hown, hlocks, hK, hE, hH⟩ := am_begin B hv
  have hown : s.vm.findClass RX1 = some m.cls := hown
  show W p l e { frames := 1, cells := 0, slots := 0, locals := 64 } s m _ below meth c s.heap [] 0 0 _ _
  refine am_enter (lv := [(0, .ref (G.1 + o0))]) (Nat.le_of_ble_eq_true rfl) rfl (fun ls hl => ?_)
  unfold f_X1_begin at hf
  refine am_start hH (fun H locs hH => ?_)
  refine lv_aload_n hx hb dX1_begin_0 rfl (lv_at hl 0 rfl) ?_
  refine va_gets hx hb (hE.1 0 _ rfl).1 hH.2 hown (hts _ am_q416) (fun _ h => h) dX1_begin_1 ?_
  obtain ⟨w_9, hq_10, hf⟩ := am_b1_some hf
  refine am_callv (w' := w_9) (am_runV (n := 1) (As := [.ref (G.2.2.2.1 0)]) (rest := []) ⟨hx, hb, hml, hown, hts⟩ hK hE hH (k_X1_keepRules_x0 ho0 hq_10) (am_gV am_q418 am_q420 am_qs1 am_q3 am_q421) (am_o1 ho0.1) rfl ⟨rfl, rfl⟩ (by decide +kernel) ⟨Nat.le_of_ble_eq_true rfl, Nat.le_of_ble_eq_true rfl⟩ rfl hl.1 rfl (Nat.le_of_ble_eq_true rfl) ⟨Nat.zero_le _, Nat.zero_le _⟩ dX1_begin_4) hH (fun H locs hH => ?_)
  refine lv_aload_n hx hb dX1_begin_7 rfl (lv_at hl 0 rfl) ?_
  refine lv_iconst (v := 0) hx hb dX1_begin_8 (by decide) ?_
  obtain ⟨w_11, hw_11, hf⟩ := am_v_some hf
  refine am_puti hx hb hts hK hown hH (am_o1 ho0.1) rfl am_inX1 tyX1 tyX1_ok nmX1 11 (by decide) am_q104 rfl rfl rfl (fun _ _ => Nat.le_of_ble_eq_true rfl) (fun _ _ _ => rfl) dX1_begin_9 (fun H locs hH => ?_)
  rw [← hw_11] at hH
  refine lv_aload_n hx hb dX1_begin_12 rfl (lv_at hl 0 rfl) ?_
  refine lv_iconst (v := 0) hx hb dX1_begin_13 (by decide) ?_
  obtain ⟨w_12, hw_12, hf⟩ := am_v_some hf
  refine am_puti hx hb hts hK hown hH (am_o1 ho0.1) rfl am_inX1 tyX1 tyX1_ok nmX1 12 (by decide) am_q108 rfl rfl rfl (fun _ _ => Nat.le_of_ble_eq_true rfl) (fun _ _ _ => rfl) dX1_begin_14 (fun H locs hH => ?_)
  rw [← hw_12] at hH
  refine lv_aload_n hx hb dX1_begin_17 rfl (lv_at hl 0 rfl) ?_
  refine lv_iconst (v := 0) hx hb dX1_begin_18 (by decide) ?_
  obtain ⟨w_13, hw_13, hf⟩ := am_v_some hf
  refine am_puti hx hb hts hK hown hH (am_o1 ho0.1) rfl am_inX1 tyX1 tyX1_ok nmX1 13 (by decide) am_q112 rfl rfl rfl (fun _ _ => Nat.le_of_ble_eq_true rfl) (fun _ _ _ => rfl) dX1_begin_19 (fun H locs hH => ?_)
  rw [← hw_13] at hH
  refine lv_aload_n hx hb dX1_begin_22 rfl (lv_at hl 0 rfl) ?_
  refine lv_iconst (v := 0) hx hb dX1_begin_23 (by decide) ?_
  obtain ⟨w_14, hw_14, hf⟩ := am_v_some hf
  refine am_puti hx hb hts hK hown hH (am_o1 ho0.1) rfl am_inX1 tyX1 tyX1_ok nmX1 14 (by decide) am_q114 rfl rfl rfl (fun _ _ => Nat.le_of_ble_eq_true rfl) (fun _ _ _ => rfl) dX1_begin_24 (fun H locs hH => ?_)
  rw [← hw_14] at hH
  refine lv_aload_n hx hb dX1_begin_27 rfl (lv_at hl 0 rfl) ?_
  refine am_get hx hb hts hK hown hH (am_o1 ho0.1) rfl am_inX1 6 (by decide) am_q85 (v := .ref (G.1 + (o0 + 7))) rfl dX1_begin_28 ?_
  refine lv_iconst (v := 0) hx hb dX1_begin_31 (by decide) ?_
  obtain ⟨w_15, hq_16, hf⟩ := am_b1_some hf
  refine am_callv (w' := w_15) (am_runS (n := 2) (As := [.ref (G.1 + (o0 + 7)), .int (0 : Int32)]) (rest := []) ⟨hx, hb, hml, hown, hts⟩ hK hE hH (k_J7_fill_53178 (am_ai_of (N := 7) ho0.2.2.2.2.2.2.2) hq_16) (am_gS am_q422 am_q423 am_q14 am_q424) ⟨rfl, rfl⟩ (by decide +kernel) ⟨Nat.le_of_ble_eq_true rfl, Nat.le_of_ble_eq_true rfl⟩ rfl hl.1 rfl (Nat.le_of_ble_eq_true rfl) ⟨Nat.zero_le _, Nat.zero_le _⟩ dX1_begin_32) hH (fun H locs hH => ?_)
  exact am_retv hx hb hr hlocks hH hf dX1_begin_35

def f_X10_nextSign_62  (s0 : Int32) (w : am_S) : Option (Int32 × am_S) :=
  am_nar .char s0 (some (s0, w))
def f_X10_nextSign_38  (w : am_S) : Option (Int32 × am_S) :=
  if (w.1 1 1) ≤ (w.1 1 2) then (f_X10_nextSign_62 (0 : Int32) w) else (am_chk (w.1 1 2) 240 (f_X10_nextSign_62 (w.1 2 (w.1 1 2).toNatClampNeg) w))
def f_X10_nextSign_0b  (w : am_S) : Option ((Int32 × am_S) ⊕ am_S) :=
  if (w.1 1 1) ≤ (w.1 1 2) then (am_x (f_X10_nextSign_38 w)) else (am_chk (w.1 1 2) 240 (if (w.1 2 (w.1 1 2).toNatClampNeg) = (32 : Int32) then (am_v (am_pi w 1 2 ((w.1 1 2) + (1 : Int32))) fun (w_15 : am_S) => some (.inr w_15)) else (am_x (f_X10_nextSign_38 w))))
def f_X10_nextSign_0  (w : am_S) : Option (Int32 × am_S) :=
  am_loop (fun (st : am_S) => f_X10_nextSign_0b st) am_fuel w
def f_X10_nextSign  (w : am_S) : Option (Int32 × am_S) :=
  f_X10_nextSign_0 w
set_option maxRecDepth 100000 in
set_option maxHeartbeats 4000000 in
theorem k_X10_nextSign {G : am_G} {l : Launch}   {w : am_S} {rr : Int32} {ww : am_S} (hf : f_X10_nextSign  w = some (rr, ww)) : am_Mi G l yX10_nextSign (Cond.code yX10_nextSign cX10_nextSign 1 (some .char) :: am_T) { frames := 0, cells := 0, slots := 0, locals := 0 } [.ref (G.1 + 1)] w rr ww := by
  refine Met.ofW (cc := cX10_nextSign) (maxL := 1) (ret := (some .char)) (by decide) rfl ?_
  intro p e s m args below meth c s₁ B hml hv
  obtain ⟨rfl, hx, hb, hr, hts, hown, hlocks, hK, hE, hH⟩ := am_begin B hv
  have hown : s.vm.findClass RX10 = some m.cls := hown
  show W p l e { frames := 0, cells := 0, slots := 0, locals := 0 } s m _ below meth c s.heap [] 0 0 _ _
  have P62 : ∀ (s0 : Int32) (w : am_S) (H : Heap) (locs : List Loc) (ls : Array Slot), f_X10_nextSign_62 s0 w = some (rr, ww) → am_H G w s H locs → lv_has ls 1 [] → W p l e { frames := 0, cells := 0, slots := 0, locals := 0 } s m [.ref (G.1 + 1)].toArray below meth c H locs 0 0 (MQ below (va_Qi (fun (x : Int32) (u : am_S) => x = rr ∧ u = ww) (am_U G) (am_A G)) [.ref (G.1 + 1)].toArray s 0 0 (am_A G)) (F0 m 62 ls [.int s0]) := by
    intro s0 w H locs ls hf hH hl
    unfold f_X10_nextSign_62 at hf
    obtain ⟨hr_7, hf⟩ := am_nar_some hf
    exact am_retz hx hb hr hr_7.1 hlocks hH hf dX10_nextSign_62
  have P38 : ∀ (w : am_S) (H : Heap) (locs : List Loc) (ls : Array Slot), f_X10_nextSign_38 w = some (rr, ww) → am_H G w s H locs → lv_has ls 1 [(0, .ref (G.1 + 1))] → W p l e { frames := 0, cells := 0, slots := 0, locals := 0 } s m [.ref (G.1 + 1)].toArray below meth c H locs 0 0 (MQ below (va_Qi (fun (x : Int32) (u : am_S) => x = rr ∧ u = ww) (am_U G) (am_A G)) [.ref (G.1 + 1)].toArray s 0 0 (am_A G)) (F0 m 38 ls []) := by
    intro w H locs ls hf hH hl
    unfold f_X10_nextSign_38 at hf
    refine lv_aload_n hx hb dX10_nextSign_38 rfl (lv_at hl 0 rfl) ?_
    refine am_get hx hb hts hK hown hH (am_o10 (p := 1) (by decide +kernel)) rfl am_inX10 2 (by decide) am_q50 (v := .int (w.1 1 2)) rfl dX10_nextSign_39 ?_
    refine lv_aload_n hx hb dX10_nextSign_42 rfl (lv_at hl 0 rfl) ?_
    refine am_get hx hb hts hK hown hH (am_o10 (p := 1) (by decide +kernel)) rfl am_inX10 1 (by decide) am_q47 (v := .int (w.1 1 1)) rfl dX10_nextSign_43 ?_
    refine lv_icmp_ge (tgt := 61) hx hb dX10_nextSign_46 (by decide) (fun hc_8 => ?_) (fun hc_8 => ?_)
    · have hf := (if_pos hc_8).symm.trans hf
      refine lv_iconst (v := 0) hx hb dX10_nextSign_61 (by decide) ?_
      exact P62 (0 : Int32) w H locs ls hf hH (lv_sub hl [] rfl)
    · have hf := (if_neg hc_8).symm.trans hf
      refine lv_aload_n hx hb dX10_nextSign_49 rfl (lv_at hl 0 rfl) ?_
      refine am_get hx hb hts hK hown hH (am_o10 (p := 1) (by decide +kernel)) rfl am_inX10 0 (by decide) am_q45 (v := .ref (G.1 + 2)) rfl dX10_nextSign_50 ?_
      refine lv_aload_n hx hb dX10_nextSign_53 rfl (lv_at hl 0 rfl) ?_
      refine am_get hx hb hts hK hown hH (am_o10 (p := 1) (by decide +kernel)) rfl am_inX10 2 (by decide) am_q50 (v := .int (w.1 1 2)) rfl dX10_nextSign_54 ?_
      obtain ⟨hi_9, hf⟩ := am_chk_some hf
      refine am_cald hx hb hK hH (am_ac_of (N := 240) (by decide +kernel)) hi_9 dX10_nextSign_57 ?_
      refine lv_goto (tgt := 62) hx hb dX10_nextSign_58 (by decide) ?_
      exact P62 (w.1 2 (w.1 1 2).toNatClampNeg) w H locs ls hf hH (lv_sub hl [] rfl)
  have P0 : ∀ (n1 : Nat) (w : am_S) (H : Heap) (locs : List Loc) (ls : Array Slot), am_loop (fun (st : am_S) => f_X10_nextSign_0b st) n1 w = some (rr, ww) → am_H G w s H locs → lv_has ls 1 [(0, .ref (G.1 + 1))] → W p l e { frames := 0, cells := 0, slots := 0, locals := 0 } s m [.ref (G.1 + 1)].toArray below meth c H locs 0 0 (MQ below (va_Qi (fun (x : Int32) (u : am_S) => x = rr ∧ u = ww) (am_U G) (am_A G)) [.ref (G.1 + 1)].toArray s 0 0 (am_A G)) (F0 m 0 ls []) := by
    intro n1
    induction n1 with
    | zero =>
      intro w H locs ls hf hH hl
      exact (am_loop_zero hf).elim
    | succ n1 ih1 =>
      intro w H locs ls hf hH hl
      obtain ⟨z1, hf, hk1⟩ := am_loop_succ hf
      have hf : f_X10_nextSign_0b  w = some z1 := hf
      unfold f_X10_nextSign_0b at hf
      refine lv_aload_n hx hb dX10_nextSign_0 rfl (lv_at hl 0 rfl) ?_
      refine am_get hx hb hts hK hown hH (am_o10 (p := 1) (by decide +kernel)) rfl am_inX10 2 (by decide) am_q50 (v := .int (w.1 1 2)) rfl dX10_nextSign_1 ?_
      refine lv_aload_n hx hb dX10_nextSign_4 rfl (lv_at hl 0 rfl) ?_
      refine am_get hx hb hts hK hown hH (am_o10 (p := 1) (by decide +kernel)) rfl am_inX10 1 (by decide) am_q47 (v := .int (w.1 1 1)) rfl dX10_nextSign_5 ?_
      refine lv_icmp_ge (tgt := 38) hx hb dX10_nextSign_8 (by decide) (fun hc_10 => ?_) (fun hc_10 => ?_)
      · have hf := (if_pos hc_10).symm.trans hf
        obtain ⟨y_11, hf, hzy_11⟩ := am_x_some hf
        rw [hzy_11] at hk1
        have hf := hf.trans (congrArg some (show y_11 = (rr, ww) from hk1))
        exact P38 w H locs ls hf hH (lv_sub hl [0] rfl)
      · have hf := (if_neg hc_10).symm.trans hf
        refine lv_aload_n hx hb dX10_nextSign_11 rfl (lv_at hl 0 rfl) ?_
        refine am_get hx hb hts hK hown hH (am_o10 (p := 1) (by decide +kernel)) rfl am_inX10 0 (by decide) am_q45 (v := .ref (G.1 + 2)) rfl dX10_nextSign_12 ?_
        refine lv_aload_n hx hb dX10_nextSign_15 rfl (lv_at hl 0 rfl) ?_
        refine am_get hx hb hts hK hown hH (am_o10 (p := 1) (by decide +kernel)) rfl am_inX10 2 (by decide) am_q50 (v := .int (w.1 1 2)) rfl dX10_nextSign_16 ?_
        obtain ⟨hi_12, hf⟩ := am_chk_some hf
        refine am_cald hx hb hK hH (am_ac_of (N := 240) (by decide +kernel)) hi_12 dX10_nextSign_19 ?_
        refine lv_bipush (v := 32) hx hb dX10_nextSign_20 (by decide) ?_
        refine lv_icmp_ne (tgt := 38) hx hb dX10_nextSign_22 (by decide) (fun hc_13 => ?_) (fun hc_13 => ?_)
        · have hf := (if_neg hc_13).symm.trans hf
          obtain ⟨y_14, hf, hzy_14⟩ := am_x_some hf
          rw [hzy_14] at hk1
          have hf := hf.trans (congrArg some (show y_14 = (rr, ww) from hk1))
          exact P38 w H locs ls hf hH (lv_sub hl [0] rfl)
        · have hf := (if_pos hc_13).symm.trans hf
          refine lv_aload_n hx hb dX10_nextSign_25 rfl (lv_at hl 0 rfl) ?_
          refine lv_dup hx hb dX10_nextSign_26 rfl ?_
          refine am_get hx hb hts hK hown hH (am_o10 (p := 1) (by decide +kernel)) rfl am_inX10 2 (by decide) am_q50 (v := .int (w.1 1 2)) rfl dX10_nextSign_27 ?_
          refine lv_iconst (v := 1) hx hb dX10_nextSign_30 (by decide) ?_
          refine lv_iadd hx hb dX10_nextSign_31 ?_
          obtain ⟨w_15, hw_15, hf⟩ := am_v_some hf
          refine am_puti hx hb hts hK hown hH (am_o10 (p := 1) (by decide +kernel)) rfl am_inX10 tyX10 tyX10_ok nmX10 2 (by decide) am_q50 rfl rfl rfl (fun _ _ => Nat.le_of_ble_eq_true rfl) (fun _ _ _ => rfl) dX10_nextSign_32 (fun H locs hH => ?_)
          rw [← hw_15] at hH
          refine lv_goto (tgt := 0) hx hb dX10_nextSign_35 (by decide) ?_
          obtain rfl := Option.some.inj hf
          exact ih1  w_15 H locs ls hk1 hH (lv_sub hl [0] rfl)
  refine am_enter (lv := [(0, .ref (G.1 + 1))]) (Nat.le_of_ble_eq_true rfl) rfl (fun ls hl => ?_)
  unfold f_X10_nextSign at hf
  refine am_start hH (fun H locs hH => ?_)
  exact P0 am_fuel w H locs ls hf hH (lv_sub hl [0] rfl)

def f_J0_coder_7d493_t0_14  (s0 : Int32) (w : am_S) : Option (Int32 × am_S) :=
  am_nar .byte s0 (some (s0, w))
def f_J0_coder_7d493_t0  (w : am_S) : Option (Int32 × am_S) :=
  if (1 : Int32) = 0 then (f_J0_coder_7d493_t0_14 (1 : Int32) w) else (f_J0_coder_7d493_t0_14 (0 : Int32) w)
set_option maxRecDepth 100000 in
set_option maxHeartbeats 4000000 in
theorem k_J0_coder_7d493_t0 {G : am_G} {l : Launch}   {w : am_S} {rr : Int32} {ww : am_S} (hf : f_J0_coder_7d493_t0  w = some (rr, ww)) : am_Mi G l yJ0_coder_7d493 (Cond.code yJ0_coder_7d493 cJ0_coder_7d493 1 (some .byte) :: am_T) { frames := 0, cells := 0, slots := 0, locals := 0 } [.ref (G.2.2.2.2.1 0)] w rr ww := by
  refine Met.ofW (cc := cJ0_coder_7d493) (maxL := 1) (ret := (some .byte)) (by decide) rfl ?_
  intro p e s m args below meth c s₁ B hml hv
  obtain ⟨rfl, hx, hb, hr, hts, hown, hlocks, hK, hE, hH⟩ := am_begin B hv
  have hown : s.vm.findClass RJ0 = some m.cls := hown
  show W p l e { frames := 0, cells := 0, slots := 0, locals := 0 } s m _ below meth c s.heap [] 0 0 _ _
  have P14 : ∀ (s0 : Int32) (w : am_S) (H : Heap) (locs : List Loc) (ls : Array Slot), f_J0_coder_7d493_t0_14 s0 w = some (rr, ww) → am_H G w s H locs → lv_has ls 1 [] → W p l e { frames := 0, cells := 0, slots := 0, locals := 0 } s m [.ref (G.2.2.2.2.1 0)].toArray below meth c H locs 0 0 (MQ below (va_Qi (fun (x : Int32) (u : am_S) => x = rr ∧ u = ww) (am_U G) (am_A G)) [.ref (G.2.2.2.2.1 0)].toArray s 0 0 (am_A G)) (F0 m 14 ls [.int s0]) := by
    intro s0 w H locs ls hf hH hl
    unfold f_J0_coder_7d493_t0_14 at hf
    obtain ⟨hr_2, hf⟩ := am_nar_some hf
    exact am_retz hx hb hr hr_2.1 hlocks hH hf dJ0_coder_7d493_14
  refine am_enter (lv := [(0, .ref (G.2.2.2.2.1 0))]) (Nat.le_of_ble_eq_true rfl) rfl (fun ls hl => ?_)
  unfold f_J0_coder_7d493_t0 at hf
  refine am_start hH (fun H locs hH => ?_)
  refine va_gets hx hb hE.2.2.2.1 hH.2 hown (hts _ am_q453) (fun _ h => h) dJ0_coder_7d493_0 ?_
  refine lv_if_eq (tgt := 13) hx hb dJ0_coder_7d493_3 (by decide) (fun hc_3 => ?_) (fun hc_3 => ?_)
  · have hf := (if_pos hc_3).symm.trans hf
    refine lv_iconst (v := 1) hx hb dJ0_coder_7d493_13 (by decide) ?_
    exact P14 (1 : Int32) w H locs ls hf hH (lv_sub hl [] rfl)
  · have hf := (if_neg hc_3).symm.trans hf
    refine lv_aload_n hx hb dJ0_coder_7d493_6 rfl (lv_at hl 0 rfl) ?_
    refine vk_getf hx hb (hE.2.1.1 0 (by decide)).2.1 hH.2 hown (hts _ am_q2024) (fun _ h => h) dJ0_coder_7d493_7 ?_
    refine lv_goto (tgt := 14) hx hb dJ0_coder_7d493_10 (by decide) ?_
    exact P14 (0 : Int32) w H locs ls hf hH (lv_sub hl [] rfl)

def f_J0_length_8abf5_t0  (w : am_S) : Option (Int32 × am_S) :=
  am_b2 (f_J0_coder_7d493_t0 w) fun r_6 w_4 => some ((4 : Int32) >>> (r_6 &&& 31), w_4)
set_option maxRecDepth 100000 in
set_option maxHeartbeats 4000000 in
theorem k_J0_length_8abf5_t0 {G : am_G} {l : Launch}   {w : am_S} {rr : Int32} {ww : am_S} (hf : f_J0_length_8abf5_t0  w = some (rr, ww)) : am_Mi G l yJ0_length_8abf5 (Cond.code yJ0_length_8abf5 cJ0_length_8abf5 1 (some .int) :: am_T) { frames := 1, cells := 0, slots := 0, locals := 64 } [.ref (G.2.2.2.2.1 0)] w rr ww := by
  refine Met.ofW (cc := cJ0_length_8abf5) (maxL := 1) (ret := (some .int)) (by decide) rfl ?_
  intro p e s m args below meth c s₁ B hml hv
  obtain ⟨rfl, hx, hb, hr, hts, hown, hlocks, hK, hE, hH⟩ := am_begin B hv
  have hown : s.vm.findClass RJ0 = some m.cls := hown
  show W p l e { frames := 1, cells := 0, slots := 0, locals := 64 } s m _ below meth c s.heap [] 0 0 _ _
  refine am_enter (lv := [(0, .ref (G.2.2.2.2.1 0))]) (Nat.le_of_ble_eq_true rfl) rfl (fun ls hl => ?_)
  unfold f_J0_length_8abf5_t0 at hf
  refine am_start hH (fun H locs hH => ?_)
  refine lv_aload_n hx hb dJ0_length_8abf5_0 rfl (lv_at hl 0 rfl) ?_
  refine vk_getf hx hb (hE.2.1.1 0 (by decide)).2.2.1 hH.2 hown (hts _ am_q2023) (fun _ h => h) dJ0_length_8abf5_1 ?_
  refine va_tlen (v := 4) hx hb (hE.2.1.1 0 (by decide)).2.2.2 hH.2 rfl dJ0_length_8abf5_4 ?_
  refine lv_aload_n hx hb dJ0_length_8abf5_5 rfl (lv_at hl 0 rfl) ?_
  obtain ⟨r_6, w_4, hq_5, hf⟩ := am_b2_some hf
  refine am_calli (r := r_6) (w' := w_4) (am_runVT (n := 0) (As := []) (rest := [.int (4 : Int32)]) 0 (by decide) ⟨hx, hb, hml, hown, hts⟩ hK hE hH (k_J0_coder_7d493_t0 hq_5) (am_gV am_q449 am_q450 am_q451 am_q16 am_q452) ⟨rfl, rfl⟩ (by decide +kernel) ⟨Nat.le_of_ble_eq_true rfl, Nat.le_of_ble_eq_true rfl⟩ rfl hl.1 rfl (Nat.le_of_ble_eq_true rfl) ⟨Nat.zero_le _, Nat.zero_le _⟩ dJ0_length_8abf5_6) hH (fun H locs hH => ?_)
  refine lv_ishr hx hb dJ0_length_8abf5_9 ?_
  exact am_reti hx hb hr hlocks hH hf dJ0_length_8abf5_10

def f_J0_isLatin1_aae02_t0_18  (s0 : Int32) (w : am_S) : Option (Int32 × am_S) :=
  am_nar .boolean s0 (some (s0, w))
def f_J0_isLatin1_aae02_t0_17  (w : am_S) : Option (Int32 × am_S) :=
  f_J0_isLatin1_aae02_t0_18 (0 : Int32) w
def f_J0_isLatin1_aae02_t0  (w : am_S) : Option (Int32 × am_S) :=
  if (1 : Int32) = 0 then (f_J0_isLatin1_aae02_t0_17 w) else (if (0 : Int32) = 0 then (f_J0_isLatin1_aae02_t0_18 (1 : Int32) w) else (f_J0_isLatin1_aae02_t0_17 w))
set_option maxRecDepth 100000 in
set_option maxHeartbeats 4000000 in
theorem k_J0_isLatin1_aae02_t0 {G : am_G} {l : Launch}   {w : am_S} {rr : Int32} {ww : am_S} (hf : f_J0_isLatin1_aae02_t0  w = some (rr, ww)) : am_Mi G l yJ0_isLatin1_aae02 (Cond.code yJ0_isLatin1_aae02 cJ0_isLatin1_aae02 1 (some .boolean) :: am_T) { frames := 0, cells := 0, slots := 0, locals := 0 } [.ref (G.2.2.2.2.1 0)] w rr ww := by
  refine Met.ofW (cc := cJ0_isLatin1_aae02) (maxL := 1) (ret := (some .boolean)) (by decide) rfl ?_
  intro p e s m args below meth c s₁ B hml hv
  obtain ⟨rfl, hx, hb, hr, hts, hown, hlocks, hK, hE, hH⟩ := am_begin B hv
  have hown : s.vm.findClass RJ0 = some m.cls := hown
  show W p l e { frames := 0, cells := 0, slots := 0, locals := 0 } s m _ below meth c s.heap [] 0 0 _ _
  have P18 : ∀ (s0 : Int32) (w : am_S) (H : Heap) (locs : List Loc) (ls : Array Slot), f_J0_isLatin1_aae02_t0_18 s0 w = some (rr, ww) → am_H G w s H locs → lv_has ls 1 [] → W p l e { frames := 0, cells := 0, slots := 0, locals := 0 } s m [.ref (G.2.2.2.2.1 0)].toArray below meth c H locs 0 0 (MQ below (va_Qi (fun (x : Int32) (u : am_S) => x = rr ∧ u = ww) (am_U G) (am_A G)) [.ref (G.2.2.2.2.1 0)].toArray s 0 0 (am_A G)) (F0 m 18 ls [.int s0]) := by
    intro s0 w H locs ls hf hH hl
    unfold f_J0_isLatin1_aae02_t0_18 at hf
    obtain ⟨hr_3, hf⟩ := am_nar_some hf
    exact am_retz hx hb hr hr_3.1 hlocks hH hf dJ0_isLatin1_aae02_18
  have P17 : ∀ (w : am_S) (H : Heap) (locs : List Loc) (ls : Array Slot), f_J0_isLatin1_aae02_t0_17 w = some (rr, ww) → am_H G w s H locs → lv_has ls 1 [] → W p l e { frames := 0, cells := 0, slots := 0, locals := 0 } s m [.ref (G.2.2.2.2.1 0)].toArray below meth c H locs 0 0 (MQ below (va_Qi (fun (x : Int32) (u : am_S) => x = rr ∧ u = ww) (am_U G) (am_A G)) [.ref (G.2.2.2.2.1 0)].toArray s 0 0 (am_A G)) (F0 m 17 ls []) := by
    intro w H locs ls hf hH hl
    unfold f_J0_isLatin1_aae02_t0_17 at hf
    refine lv_iconst (v := 0) hx hb dJ0_isLatin1_aae02_17 (by decide) ?_
    exact P18 (0 : Int32) w H locs ls hf hH (lv_sub hl [] rfl)
  refine am_enter (lv := [(0, .ref (G.2.2.2.2.1 0))]) (Nat.le_of_ble_eq_true rfl) rfl (fun ls hl => ?_)
  unfold f_J0_isLatin1_aae02_t0 at hf
  refine am_start hH (fun H locs hH => ?_)
  refine va_gets hx hb hE.2.2.2.1 hH.2 hown (hts _ am_q453) (fun _ h => h) dJ0_isLatin1_aae02_0 ?_
  refine lv_if_eq (tgt := 17) hx hb dJ0_isLatin1_aae02_3 (by decide) (fun hc_4 => ?_) (fun hc_4 => ?_)
  · have hf := (if_pos hc_4).symm.trans hf
    exact P17 w H locs ls hf hH (lv_sub hl [] rfl)
  · have hf := (if_neg hc_4).symm.trans hf
    refine lv_aload_n hx hb dJ0_isLatin1_aae02_6 rfl (lv_at hl 0 rfl) ?_
    refine vk_getf hx hb (hE.2.1.1 0 (by decide)).2.1 hH.2 hown (hts _ am_q2024) (fun _ h => h) dJ0_isLatin1_aae02_7 ?_
    refine lv_if_ne (tgt := 17) hx hb dJ0_isLatin1_aae02_10 (by decide) (fun hc_5 => ?_) (fun hc_5 => ?_)
    · have hf := (if_neg hc_5).symm.trans hf
      exact P17 w H locs ls hf hH (lv_sub hl [] rfl)
    · have hf := (if_pos hc_5).symm.trans hf
      refine lv_iconst (v := 1) hx hb dJ0_isLatin1_aae02_13 (by decide) ?_
      refine lv_goto (tgt := 18) hx hb dJ0_isLatin1_aae02_14 (by decide) ?_
      exact P18 (1 : Int32) w H locs ls hf hH (lv_sub hl [] rfl)

def f_J1_canEncode_9a6ad_16 (a0 : Int32) (s0 : Int32) (w : am_S) : Option (Int32 × am_S) :=
  am_nar .boolean s0 (some (s0, w))
def f_J1_canEncode_9a6ad_15 (a0 : Int32) (w : am_S) : Option (Int32 × am_S) :=
  f_J1_canEncode_9a6ad_16 a0 (0 : Int32) w
def f_J1_canEncode_9a6ad (a0 : Int32) (w : am_S) : Option (Int32 × am_S) :=
  if a0 < 0 then (f_J1_canEncode_9a6ad_15 a0 w) else (if (255 : Int32) < a0 then (f_J1_canEncode_9a6ad_15 a0 w) else (f_J1_canEncode_9a6ad_16 a0 (1 : Int32) w))
set_option maxRecDepth 100000 in
set_option maxHeartbeats 4000000 in
theorem k_J1_canEncode_9a6ad {G : am_G} {l : Launch} {a0 : Int32}  {w : am_S} {rr : Int32} {ww : am_S} (hf : f_J1_canEncode_9a6ad a0 w = some (rr, ww)) : am_Mi G l yJ1_canEncode_9a6ad (Cond.code yJ1_canEncode_9a6ad cJ1_canEncode_9a6ad 1 (some .boolean) :: am_T) { frames := 0, cells := 0, slots := 0, locals := 0 } [.int a0] w rr ww := by
  refine Met.ofW (cc := cJ1_canEncode_9a6ad) (maxL := 1) (ret := (some .boolean)) (by decide) rfl ?_
  intro p e s m args below meth c s₁ B hml hv
  obtain ⟨rfl, hx, hb, hr, hts, hown, hlocks, hK, hE, hH⟩ := am_begin B hv
  have hown : s.vm.findClass RJ1 = some m.cls := hown
  show W p l e { frames := 0, cells := 0, slots := 0, locals := 0 } s m _ below meth c s.heap [] 0 0 _ _
  have P16 : ∀ (s0 : Int32) (w : am_S) (H : Heap) (locs : List Loc) (ls : Array Slot), f_J1_canEncode_9a6ad_16 a0 s0 w = some (rr, ww) → am_H G w s H locs → lv_has ls 1 [] → W p l e { frames := 0, cells := 0, slots := 0, locals := 0 } s m [.int a0].toArray below meth c H locs 0 0 (MQ below (va_Qi (fun (x : Int32) (u : am_S) => x = rr ∧ u = ww) (am_U G) (am_A G)) [.int a0].toArray s 0 0 (am_A G)) (F0 m 16 ls [.int s0]) := by
    intro s0 w H locs ls hf hH hl
    unfold f_J1_canEncode_9a6ad_16 at hf
    obtain ⟨hr_3, hf⟩ := am_nar_some hf
    exact am_retz hx hb hr hr_3.1 hlocks hH hf dJ1_canEncode_9a6ad_16
  have P15 : ∀ (w : am_S) (H : Heap) (locs : List Loc) (ls : Array Slot), f_J1_canEncode_9a6ad_15 a0 w = some (rr, ww) → am_H G w s H locs → lv_has ls 1 [] → W p l e { frames := 0, cells := 0, slots := 0, locals := 0 } s m [.int a0].toArray below meth c H locs 0 0 (MQ below (va_Qi (fun (x : Int32) (u : am_S) => x = rr ∧ u = ww) (am_U G) (am_A G)) [.int a0].toArray s 0 0 (am_A G)) (F0 m 15 ls []) := by
    intro w H locs ls hf hH hl
    unfold f_J1_canEncode_9a6ad_15 at hf
    refine lv_iconst (v := 0) hx hb dJ1_canEncode_9a6ad_15 (by decide) ?_
    exact P16 (0 : Int32) w H locs ls hf hH (lv_sub hl [] rfl)
  refine am_enter (lv := [(0, .int a0)]) (Nat.le_of_ble_eq_true rfl) rfl (fun ls hl => ?_)
  unfold f_J1_canEncode_9a6ad at hf
  refine am_start hH (fun H locs hH => ?_)
  refine lv_iload_n hx hb dJ1_canEncode_9a6ad_0 rfl (lv_at hl 0 rfl) ?_
  refine lv_if_lt (tgt := 15) hx hb dJ1_canEncode_9a6ad_1 (by decide) (fun hc_4 => ?_) (fun hc_4 => ?_)
  · have hf := (if_pos hc_4).symm.trans hf
    exact P15 w H locs ls hf hH (lv_sub hl [] rfl)
  · have hf := (if_neg hc_4).symm.trans hf
    refine lv_iload_n hx hb dJ1_canEncode_9a6ad_4 rfl (lv_at hl 0 rfl) ?_
    refine lv_sipush (v := 255) hx hb dJ1_canEncode_9a6ad_5 (by decide) ?_
    refine lv_icmp_gt (tgt := 15) hx hb dJ1_canEncode_9a6ad_8 (by decide) (fun hc_5 => ?_) (fun hc_5 => ?_)
    · have hf := (if_pos hc_5).symm.trans hf
      exact P15 w H locs ls hf hH (lv_sub hl [] rfl)
    · have hf := (if_neg hc_5).symm.trans hf
      refine lv_iconst (v := 1) hx hb dJ1_canEncode_9a6ad_11 (by decide) ?_
      refine lv_goto (tgt := 16) hx hb dJ1_canEncode_9a6ad_12 (by decide) ?_
      exact P16 (1 : Int32) w H locs ls hf hH (lv_sub hl [] rfl)

def f_J9_max_7cf53_10 (a0 : Int32) (a1 : Int32) (s0 : Int32) (w : am_S) : Option (Int32 × am_S) :=
  some (s0, w)
def f_J9_max_7cf53 (a0 : Int32) (a1 : Int32) (w : am_S) : Option (Int32 × am_S) :=
  if a0 < a1 then (f_J9_max_7cf53_10 a0 a1 a1 w) else (f_J9_max_7cf53_10 a0 a1 a0 w)
set_option maxRecDepth 100000 in
set_option maxHeartbeats 4000000 in
theorem k_J9_max_7cf53 {G : am_G} {l : Launch} {a0 : Int32} {a1 : Int32}  {w : am_S} {rr : Int32} {ww : am_S} (hf : f_J9_max_7cf53 a0 a1 w = some (rr, ww)) : am_Mi G l yJ9_max_7cf53 (Cond.code yJ9_max_7cf53 cJ9_max_7cf53 2 (some .int) :: am_T) { frames := 0, cells := 0, slots := 0, locals := 0 } [.int a0, .int a1] w rr ww := by
  refine va_MetF (cc := cJ9_max_7cf53) (maxL := 2) (ret := (some .int)) (by decide +kernel) rfl ?_
  intro p e s m args below meth c s₁ B hml hv
  obtain ⟨rfl, hx, hb, hr, hts, hown, hlocks, hK, hE, hH⟩ := am_begin B hv
  have hown : s.vm.findClass RJ9 = some m.cls := hown
  show W p l e { frames := 0, cells := 0, slots := 0, locals := 0 } s m _ below meth c s.heap [] 0 0 _ _
  have P10 : ∀ (s0 : Int32) (w : am_S) (H : Heap) (locs : List Loc) (ls : Array Slot), f_J9_max_7cf53_10 a0 a1 s0 w = some (rr, ww) → am_H G w s H locs → lv_has ls 2 [] → W p l e { frames := 0, cells := 0, slots := 0, locals := 0 } s m [.int a0, .int a1].toArray below meth c H locs 0 0 (MQ below (va_Qi (fun (x : Int32) (u : am_S) => x = rr ∧ u = ww) (am_U G) (am_A G)) [.int a0, .int a1].toArray s 0 0 (am_A G)) (F0 m 10 ls [.int s0]) := by
    intro s0 w H locs ls hf hH hl
    unfold f_J9_max_7cf53_10 at hf
    exact am_reti hx hb hr hlocks hH hf dJ9_max_7cf53_10
  refine am_enter (lv := [(0, .int a0), (1, .int a1)]) (Nat.le_of_ble_eq_true rfl) rfl (fun ls hl => ?_)
  unfold f_J9_max_7cf53 at hf
  refine am_start hH (fun H locs hH => ?_)
  refine lv_iload_n hx hb dJ9_max_7cf53_0 rfl (lv_at hl 0 rfl) ?_
  refine lv_iload_n hx hb dJ9_max_7cf53_1 rfl (lv_at hl 1 rfl) ?_
  refine lv_icmp_lt (tgt := 9) hx hb dJ9_max_7cf53_2 (by decide) (fun hc_2 => ?_) (fun hc_2 => ?_)
  · have hf := (if_pos hc_2).symm.trans hf
    refine lv_iload_n hx hb dJ9_max_7cf53_9 rfl (lv_at hl 1 rfl) ?_
    exact P10 a1 w H locs ls hf hH (lv_sub hl [] rfl)
  · have hf := (if_neg hc_2).symm.trans hf
    refine lv_iload_n hx hb dJ9_max_7cf53_5 rfl (lv_at hl 0 rfl) ?_
    refine lv_goto (tgt := 10) hx hb dJ9_max_7cf53_6 (by decide) ?_
    exact P10 a0 w H locs ls hf hH (lv_sub hl [] rfl)

def f_J1_indexOfChar_4cfef_b0_7b (a1 : Int32) (a2 : Int32) (a3 : Int32) (x4 : Int32) (x5 : Int32) (w : am_S) : Option ((Int32 × am_S) ⊕ (Int32 × am_S)) :=
  if a3 ≤ x5 then (am_x (some ((-1 : Int32), w))) else (am_chk x5 4 (if (am_bv 0 x5.toNatClampNeg) = x4 then (am_x (some (x5, w))) else (am_v (x5 + (1 : Int32)) fun (x5_10 : Int32) => some (.inr (x5_10, w)))))
def f_J1_indexOfChar_4cfef_b0_7 (a1 : Int32) (a2 : Int32) (a3 : Int32) (x4 : Int32) (x5 : Int32) (w : am_S) : Option (Int32 × am_S) :=
  am_loop (fun (st : (Int32 × am_S)) => f_J1_indexOfChar_4cfef_b0_7b a1 a2 a3 x4 st.1 st.2) am_fuel (x5, w)
def f_J1_indexOfChar_4cfef_b0 (a1 : Int32) (a2 : Int32) (a3 : Int32) (w : am_S) : Option (Int32 × am_S) :=
  am_v (a1.toInt8.toInt32) fun (x4_12 : Int32) => f_J1_indexOfChar_4cfef_b0_7 a1 a2 a3 x4_12 a2 w
set_option maxRecDepth 100000 in
set_option maxHeartbeats 4000000 in
theorem k_J1_indexOfChar_4cfef_b0 {G : am_G} {l : Launch} {a1 : Int32} {a2 : Int32} {a3 : Int32}  {w : am_S} {rr : Int32} {ww : am_S} (hf : f_J1_indexOfChar_4cfef_b0 a1 a2 a3 w = some (rr, ww)) : am_Mi G l yJ1_indexOfChar_4cfef (Cond.code yJ1_indexOfChar_4cfef cJ1_indexOfChar_4cfef 6 (some .int) :: am_T) { frames := 0, cells := 0, slots := 0, locals := 0 } [.ref (G.2.2.2.2.2 0), .int a1, .int a2, .int a3] w rr ww := by
  refine Met.ofW (cc := cJ1_indexOfChar_4cfef) (maxL := 6) (ret := (some .int)) (by decide) rfl ?_
  intro p e s m args below meth c s₁ B hml hv
  obtain ⟨rfl, hx, hb, hr, hts, hown, hlocks, hK, hE, hH⟩ := am_begin B hv
  have hown : s.vm.findClass RJ1 = some m.cls := hown
  show W p l e { frames := 0, cells := 0, slots := 0, locals := 0 } s m _ below meth c s.heap [] 0 0 _ _
  have P7 : ∀ (x4 : Int32) (n1 : Nat) (x5 : Int32) (w : am_S) (H : Heap) (locs : List Loc) (ls : Array Slot), am_loop (fun (st : (Int32 × am_S)) => f_J1_indexOfChar_4cfef_b0_7b a1 a2 a3 x4 st.1 st.2) n1 (x5, w) = some (rr, ww) → am_H G w s H locs → lv_has ls 6 [(0, .ref (G.2.2.2.2.2 0)), (3, .int a3), (4, .int x4), (5, .int x5)] → W p l e { frames := 0, cells := 0, slots := 0, locals := 0 } s m [.ref (G.2.2.2.2.2 0), .int a1, .int a2, .int a3].toArray below meth c H locs 0 0 (MQ below (va_Qi (fun (x : Int32) (u : am_S) => x = rr ∧ u = ww) (am_U G) (am_A G)) [.ref (G.2.2.2.2.2 0), .int a1, .int a2, .int a3].toArray s 0 0 (am_A G)) (F0 m 7 ls []) := by
    intro x4 n1
    induction n1 with
    | zero =>
      intro x5 w H locs ls hf hH hl
      exact (am_loop_zero hf).elim
    | succ n1 ih1 =>
      intro x5 w H locs ls hf hH hl
      obtain ⟨z1, hf, hk1⟩ := am_loop_succ hf
      have hf : f_J1_indexOfChar_4cfef_b0_7b a1 a2 a3 x4 x5 w = some z1 := hf
      unfold f_J1_indexOfChar_4cfef_b0_7b at hf
      refine lv_iload hx hb dJ1_indexOfChar_4cfef_7 (lv_at hl 3 rfl) ?_
      refine lv_iload_n hx hb dJ1_indexOfChar_4cfef_9 rfl (lv_at hl 1 rfl) ?_
      refine lv_icmp_ge (tgt := 31) hx hb dJ1_indexOfChar_4cfef_10 (by decide) (fun hc_6 => ?_) (fun hc_6 => ?_)
      · have hf := (if_pos hc_6).symm.trans hf
        obtain ⟨y_7, hf, hzy_7⟩ := am_x_some hf
        rw [hzy_7] at hk1
        have hf := hf.trans (congrArg some (show y_7 = (rr, ww) from hk1))
        refine lv_iconst (v := -1) hx hb dJ1_indexOfChar_4cfef_31 (by decide) ?_
        exact am_reti hx hb hr hlocks hH hf dJ1_indexOfChar_4cfef_32
      · have hf := (if_neg hc_6).symm.trans hf
        refine lv_aload_n hx hb dJ1_indexOfChar_4cfef_13 rfl (lv_at hl 0 rfl) ?_
        refine lv_iload hx hb dJ1_indexOfChar_4cfef_14 (lv_at hl 3 rfl) ?_
        obtain ⟨hi_8, hf⟩ := am_chk_some hf
        refine va_tb hx hb (hE.2.1.1 0 (by decide)).2.2.2 hH.2 hi_8 rfl dJ1_indexOfChar_4cfef_16 ?_
        refine lv_iload hx hb dJ1_indexOfChar_4cfef_17 (lv_at hl 2 rfl) ?_
        refine lv_icmp_ne (tgt := 25) hx hb dJ1_indexOfChar_4cfef_19 (by decide) (fun hc_9 => ?_) (fun hc_9 => ?_)
        · have hf := (if_neg hc_9).symm.trans hf
          obtain ⟨x5_10, hx5_10, hf⟩ := am_v_some hf
          refine lv_iinc (v := x5_10) (lv' := [(5, .int x5_10), (0, .ref (G.2.2.2.2.2 0)), (3, .int a3), (4, .int x4)]) hx hb dJ1_indexOfChar_4cfef_25 hl (k := 3) rfl (by rw [hx5_10]; rfl) (by decide) rfl (fun ls hl => ?_)
          refine lv_goto (tgt := 7) hx hb dJ1_indexOfChar_4cfef_28 (by decide) ?_
          obtain rfl := Option.some.inj hf
          exact ih1 x5_10 w H locs ls hk1 hH (lv_sub hl [1, 2, 3, 0] rfl)
        · have hf := (if_pos hc_9).symm.trans hf
          obtain ⟨y_11, hf, hzy_11⟩ := am_x_some hf
          rw [hzy_11] at hk1
          have hf := hf.trans (congrArg some (show y_11 = (rr, ww) from hk1))
          refine lv_iload hx hb dJ1_indexOfChar_4cfef_22 (lv_at hl 3 rfl) ?_
          exact am_reti hx hb hr hlocks hH hf dJ1_indexOfChar_4cfef_24
  refine am_enter (lv := [(0, .ref (G.2.2.2.2.2 0)), (1, .int a1), (2, .int a2), (3, .int a3)]) (Nat.le_of_ble_eq_true rfl) rfl (fun ls hl => ?_)
  unfold f_J1_indexOfChar_4cfef_b0 at hf
  refine am_start hH (fun H locs hH => ?_)
  refine lv_iload_n hx hb dJ1_indexOfChar_4cfef_0 rfl (lv_at hl 1 rfl) ?_
  refine lv_i2b hx hb dJ1_indexOfChar_4cfef_1 rfl ?_
  obtain ⟨x4_12, hx4_12, hf⟩ := am_v_some hf
  refine am_topi hx4_12 ?_
  refine lv_istore (lv' := [(4, .int x4_12), (0, .ref (G.2.2.2.2.2 0)), (1, .int a1), (2, .int a2), (3, .int a3)]) hx hb dJ1_indexOfChar_4cfef_2 hl (by decide) rfl (fun ls hl => ?_)
  refine lv_iload_n hx hb dJ1_indexOfChar_4cfef_4 rfl (lv_at hl 3 rfl) ?_
  refine lv_istore (lv' := [(5, .int a2), (4, .int x4_12), (0, .ref (G.2.2.2.2.2 0)), (1, .int a1), (2, .int a2), (3, .int a3)]) hx hb dJ1_indexOfChar_4cfef_5 hl (by decide) rfl (fun ls hl => ?_)
  exact P7 x4_12 am_fuel a2 w H locs ls hf hH (lv_sub hl [2, 5, 1, 0] rfl)

def f_J1_indexOf_4cfef_b0 (a1 : Int32) (a2 : Int32) (a3 : Int32) (w : am_S) : Option (Int32 × am_S) :=
  am_b2 (f_J1_canEncode_9a6ad a1 w) fun r_17 w_15 => if r_17 = 0 then (some ((-1 : Int32), w_15)) else (am_b2 (f_J9_max_7cf53 a2 (0 : Int32) w_15) fun r_21 w_19 => am_b2 (f_J9_min_7cf53 a3 (4 : Int32) w_19) fun r_24 w_22 => if r_21 < r_24 then (am_b2 (f_J1_indexOfChar_4cfef_b0 a1 r_21 r_24 w_22) fun r_28 w_26 => some (r_28, w_26)) else (some ((-1 : Int32), w_22)))
set_option maxRecDepth 100000 in
set_option maxHeartbeats 4000000 in
theorem k_J1_indexOf_4cfef_b0 {G : am_G} {l : Launch} {a1 : Int32} {a2 : Int32} {a3 : Int32}  {w : am_S} {rr : Int32} {ww : am_S} (hf : f_J1_indexOf_4cfef_b0 a1 a2 a3 w = some (rr, ww)) : am_Mi G l yJ1_indexOf_4cfef (Cond.code yJ1_indexOf_4cfef cJ1_indexOf_4cfef 4 (some .int) :: am_T) { frames := 1, cells := 0, slots := 0, locals := 64 } [.ref (G.2.2.2.2.2 0), .int a1, .int a2, .int a3] w rr ww := by
  refine Met.ofW (cc := cJ1_indexOf_4cfef) (maxL := 4) (ret := (some .int)) (by decide) rfl ?_
  intro p e s m args below meth c s₁ B hml hv
  obtain ⟨rfl, hx, hb, hr, hts, hown, hlocks, hK, hE, hH⟩ := am_begin B hv
  have hown : s.vm.findClass RJ1 = some m.cls := hown
  show W p l e { frames := 1, cells := 0, slots := 0, locals := 64 } s m _ below meth c s.heap [] 0 0 _ _
  refine am_enter (lv := [(0, .ref (G.2.2.2.2.2 0)), (1, .int a1), (2, .int a2), (3, .int a3)]) (Nat.le_of_ble_eq_true rfl) rfl (fun ls hl => ?_)
  unfold f_J1_indexOf_4cfef_b0 at hf
  refine am_start hH (fun H locs hH => ?_)
  refine lv_iload_n hx hb dJ1_indexOf_4cfef_0 rfl (lv_at hl 1 rfl) ?_
  obtain ⟨r_17, w_15, hq_16, hf⟩ := am_b2_some hf
  refine am_calli (r := r_17) (w' := w_15) (am_runS (n := 1) (As := [.int a1]) (rest := []) ⟨hx, hb, hml, hown, hts⟩ hK hE hH (k_J1_canEncode_9a6ad hq_16) (am_gS am_q471 am_q472 am_q17 am_q473) ⟨rfl, rfl⟩ (by decide +kernel) ⟨Nat.le_of_ble_eq_true rfl, Nat.le_of_ble_eq_true rfl⟩ rfl hl.1 rfl (Nat.le_of_ble_eq_true rfl) ⟨Nat.zero_le _, Nat.zero_le _⟩ dJ1_indexOf_4cfef_1) hH (fun H locs hH => ?_)
  refine lv_if_ne (tgt := 9) hx hb dJ1_indexOf_4cfef_4 (by decide) (fun hc_18 => ?_) (fun hc_18 => ?_)
  · have hf := (if_neg hc_18).symm.trans hf
    refine lv_iload_n hx hb dJ1_indexOf_4cfef_9 rfl (lv_at hl 2 rfl) ?_
    refine lv_iconst (v := 0) hx hb dJ1_indexOf_4cfef_10 (by decide) ?_
    obtain ⟨r_21, w_19, hq_20, hf⟩ := am_b2_some hf
    refine am_calli (r := r_21) (w' := w_19) (am_runS (n := 2) (As := [.int a2, .int (0 : Int32)]) (rest := []) ⟨hx, hb, hml, hown, hts⟩ hK hE hH (k_J9_max_7cf53 hq_20) (am_gS am_q474 am_q475 am_q18 am_q476) ⟨rfl, rfl⟩ (by decide +kernel) ⟨Nat.le_of_ble_eq_true rfl, Nat.le_of_ble_eq_true rfl⟩ rfl hl.1 rfl (Nat.le_of_ble_eq_true rfl) ⟨Nat.zero_le _, Nat.zero_le _⟩ dJ1_indexOf_4cfef_11) hH (fun H locs hH => ?_)
    refine lv_istore_n (lv' := [(2, .int r_21), (0, .ref (G.2.2.2.2.2 0)), (1, .int a1), (3, .int a3)]) hx hb dJ1_indexOf_4cfef_14 rfl hl (by decide) rfl (fun ls hl => ?_)
    refine lv_iload_n hx hb dJ1_indexOf_4cfef_15 rfl (lv_at hl 3 rfl) ?_
    refine lv_aload_n hx hb dJ1_indexOf_4cfef_16 rfl (lv_at hl 1 rfl) ?_
    refine va_tlen (v := 4) hx hb (hE.2.1.1 0 (by decide)).2.2.2 hH.2 rfl dJ1_indexOf_4cfef_17 ?_
    obtain ⟨r_24, w_22, hq_23, hf⟩ := am_b2_some hf
    refine am_calli (r := r_24) (w' := w_22) (am_runS (n := 2) (As := [.int a3, .int (4 : Int32)]) (rest := []) ⟨hx, hb, hml, hown, hts⟩ hK hE hH (k_J9_min_7cf53 hq_23) (am_gS am_q477 am_q478 am_q18 am_q479) ⟨rfl, rfl⟩ (by decide +kernel) ⟨Nat.le_of_ble_eq_true rfl, Nat.le_of_ble_eq_true rfl⟩ rfl hl.1 rfl (Nat.le_of_ble_eq_true rfl) ⟨Nat.zero_le _, Nat.zero_le _⟩ dJ1_indexOf_4cfef_18) hH (fun H locs hH => ?_)
    refine lv_istore_n (lv' := [(3, .int r_24), (2, .int r_21), (0, .ref (G.2.2.2.2.2 0)), (1, .int a1)]) hx hb dJ1_indexOf_4cfef_21 rfl hl (by decide) rfl (fun ls hl => ?_)
    refine lv_iload_n hx hb dJ1_indexOf_4cfef_22 rfl (lv_at hl 1 rfl) ?_
    refine lv_iload_n hx hb dJ1_indexOf_4cfef_23 rfl (lv_at hl 0 rfl) ?_
    refine lv_icmp_lt (tgt := 29) hx hb dJ1_indexOf_4cfef_24 (by decide) (fun hc_25 => ?_) (fun hc_25 => ?_)
    · have hf := (if_pos hc_25).symm.trans hf
      refine lv_aload_n hx hb dJ1_indexOf_4cfef_29 rfl (lv_at hl 2 rfl) ?_
      refine lv_iload_n hx hb dJ1_indexOf_4cfef_30 rfl (lv_at hl 3 rfl) ?_
      refine lv_iload_n hx hb dJ1_indexOf_4cfef_31 rfl (lv_at hl 1 rfl) ?_
      refine lv_iload_n hx hb dJ1_indexOf_4cfef_32 rfl (lv_at hl 0 rfl) ?_
      obtain ⟨r_28, w_26, hq_27, hf⟩ := am_b2_some hf
      refine am_calli (r := r_28) (w' := w_26) (am_runS (n := 4) (As := [.ref (G.2.2.2.2.2 0), .int a1, .int r_21, .int r_24]) (rest := []) ⟨hx, hb, hml, hown, hts⟩ hK hE hH (k_J1_indexOfChar_4cfef_b0 hq_27) (am_gS am_q480 am_q481 am_q17 am_q482) ⟨rfl, rfl⟩ (by decide +kernel) ⟨Nat.le_of_ble_eq_true rfl, Nat.le_of_ble_eq_true rfl⟩ rfl hl.1 rfl (Nat.le_of_ble_eq_true rfl) ⟨Nat.zero_le _, Nat.zero_le _⟩ dJ1_indexOf_4cfef_33) hH (fun H locs hH => ?_)
      exact am_reti hx hb hr hlocks hH hf dJ1_indexOf_4cfef_36
    · have hf := (if_neg hc_25).symm.trans hf
      refine lv_iconst (v := -1) hx hb dJ1_indexOf_4cfef_27 (by decide) ?_
      exact am_reti hx hb hr hlocks hH hf dJ1_indexOf_4cfef_28
  · have hf := (if_pos hc_18).symm.trans hf
    refine lv_iconst (v := -1) hx hb dJ1_indexOf_4cfef_7 (by decide) ?_
    exact am_reti hx hb hr hlocks hH hf dJ1_indexOf_4cfef_8

def f_J0_indexOf_7cf53_t0_36 (a1 : Int32) (a2 : Int32) (s0 : Int32) (w : am_S) : Option (Int32 × am_S) :=
  some (s0, w)
def f_J0_indexOf_7cf53_t0 (a1 : Int32) (a2 : Int32) (w : am_S) : Option (Int32 × am_S) :=
  am_b2 (f_J0_isLatin1_aae02_t0 w) fun r_16 w_14 => if r_16 = 0 then (am_b2 (f_J0_length_8abf5_t0 w_14) fun r_20 w_18 => none) else (am_b2 (f_J0_length_8abf5_t0 w_14) fun r_23 w_21 => am_b2 (f_J1_indexOf_4cfef_b0 a1 a2 r_23 w_21) fun r_26 w_24 => f_J0_indexOf_7cf53_t0_36 a1 a2 r_26 w_24)
set_option maxRecDepth 100000 in
set_option maxHeartbeats 4000000 in
theorem k_J0_indexOf_7cf53_t0 {G : am_G} {l : Launch} {a1 : Int32} {a2 : Int32}  {w : am_S} {rr : Int32} {ww : am_S} (hf : f_J0_indexOf_7cf53_t0 a1 a2 w = some (rr, ww)) : am_Mi G l yJ0_indexOf_7cf53 (Cond.code yJ0_indexOf_7cf53 cJ0_indexOf_7cf53 3 (some .int) :: am_T) { frames := 2, cells := 0, slots := 0, locals := 128 } [.ref (G.2.2.2.2.1 0), .int a1, .int a2] w rr ww := by
  refine Met.ofW (cc := cJ0_indexOf_7cf53) (maxL := 3) (ret := (some .int)) (by decide) rfl ?_
  intro p e s m args below meth c s₁ B hml hv
  obtain ⟨rfl, hx, hb, hr, hts, hown, hlocks, hK, hE, hH⟩ := am_begin B hv
  have hown : s.vm.findClass RJ0 = some m.cls := hown
  show W p l e { frames := 2, cells := 0, slots := 0, locals := 128 } s m _ below meth c s.heap [] 0 0 _ _
  have P36 : ∀ (s0 : Int32) (w : am_S) (H : Heap) (locs : List Loc) (ls : Array Slot), f_J0_indexOf_7cf53_t0_36 a1 a2 s0 w = some (rr, ww) → am_H G w s H locs → lv_has ls 3 [] → W p l e { frames := 2, cells := 0, slots := 0, locals := 128 } s m [.ref (G.2.2.2.2.1 0), .int a1, .int a2].toArray below meth c H locs 0 0 (MQ below (va_Qi (fun (x : Int32) (u : am_S) => x = rr ∧ u = ww) (am_U G) (am_A G)) [.ref (G.2.2.2.2.1 0), .int a1, .int a2].toArray s 0 0 (am_A G)) (F0 m 36 ls [.int s0]) := by
    intro s0 w H locs ls hf hH hl
    unfold f_J0_indexOf_7cf53_t0_36 at hf
    exact am_reti hx hb hr hlocks hH hf dJ0_indexOf_7cf53_36
  refine am_enter (lv := [(0, .ref (G.2.2.2.2.1 0)), (1, .int a1), (2, .int a2)]) (Nat.le_of_ble_eq_true rfl) rfl (fun ls hl => ?_)
  unfold f_J0_indexOf_7cf53_t0 at hf
  refine am_start hH (fun H locs hH => ?_)
  refine lv_aload_n hx hb dJ0_indexOf_7cf53_0 rfl (lv_at hl 0 rfl) ?_
  obtain ⟨r_16, w_14, hq_15, hf⟩ := am_b2_some hf
  refine am_calli (r := r_16) (w' := w_14) (am_runVT (n := 0) (As := []) (rest := []) 0 (by decide) ⟨hx, hb, hml, hown, hts⟩ hK hE hH (k_J0_isLatin1_aae02_t0 hq_15) (am_gV am_q463 am_q464 am_q465 am_q16 am_q466) ⟨rfl, rfl⟩ (by decide +kernel) ⟨Nat.le_of_ble_eq_true rfl, Nat.le_of_ble_eq_true rfl⟩ rfl hl.1 rfl (Nat.le_of_ble_eq_true rfl) ⟨Nat.zero_le _, Nat.zero_le _⟩ dJ0_indexOf_7cf53_1) hH (fun H locs hH => ?_)
  refine lv_if_eq (tgt := 23) hx hb dJ0_indexOf_7cf53_4 (by decide) (fun hc_17 => ?_) (fun hc_17 => ?_)
  · have hf := (if_pos hc_17).symm.trans hf
    refine lv_aload_n hx hb dJ0_indexOf_7cf53_23 rfl (lv_at hl 0 rfl) ?_
    refine vk_getf hx hb (hE.2.1.1 0 (by decide)).2.2.1 hH.2 hown (hts _ am_q2023) (fun _ h => h) dJ0_indexOf_7cf53_24 ?_
    refine lv_iload_n hx hb dJ0_indexOf_7cf53_27 rfl (lv_at hl 1 rfl) ?_
    refine lv_iload_n hx hb dJ0_indexOf_7cf53_28 rfl (lv_at hl 2 rfl) ?_
    refine lv_aload_n hx hb dJ0_indexOf_7cf53_29 rfl (lv_at hl 0 rfl) ?_
    obtain ⟨r_20, w_18, hq_19, hf⟩ := am_b2_some hf
    refine am_calli (r := r_20) (w' := w_18) (am_runVT (n := 0) (As := []) (rest := [.int a2, .int a1, .ref (G.2.2.2.2.2 0)]) 0 (by decide) ⟨hx, hb, hml, hown, hts⟩ hK hE hH (k_J0_length_8abf5_t0 hq_19) (am_gV am_q467 am_q446 am_q447 am_q16 am_q448) ⟨rfl, rfl⟩ (by decide +kernel) ⟨Nat.le_of_ble_eq_true rfl, Nat.le_of_ble_eq_true rfl⟩ rfl hl.1 rfl (Nat.le_of_ble_eq_true rfl) ⟨Nat.zero_le _, Nat.zero_le _⟩ dJ0_indexOf_7cf53_30) hH (fun H locs hH => ?_)
    cases hf
  · have hf := (if_neg hc_17).symm.trans hf
    refine lv_aload_n hx hb dJ0_indexOf_7cf53_7 rfl (lv_at hl 0 rfl) ?_
    refine vk_getf hx hb (hE.2.1.1 0 (by decide)).2.2.1 hH.2 hown (hts _ am_q2023) (fun _ h => h) dJ0_indexOf_7cf53_8 ?_
    refine lv_iload_n hx hb dJ0_indexOf_7cf53_11 rfl (lv_at hl 1 rfl) ?_
    refine lv_iload_n hx hb dJ0_indexOf_7cf53_12 rfl (lv_at hl 2 rfl) ?_
    refine lv_aload_n hx hb dJ0_indexOf_7cf53_13 rfl (lv_at hl 0 rfl) ?_
    obtain ⟨r_23, w_21, hq_22, hf⟩ := am_b2_some hf
    refine am_calli (r := r_23) (w' := w_21) (am_runVT (n := 0) (As := []) (rest := [.int a2, .int a1, .ref (G.2.2.2.2.2 0)]) 0 (by decide) ⟨hx, hb, hml, hown, hts⟩ hK hE hH (k_J0_length_8abf5_t0 hq_22) (am_gV am_q467 am_q446 am_q447 am_q16 am_q448) ⟨rfl, rfl⟩ (by decide +kernel) ⟨Nat.le_of_ble_eq_true rfl, Nat.le_of_ble_eq_true rfl⟩ rfl hl.1 rfl (Nat.le_of_ble_eq_true rfl) ⟨Nat.zero_le _, Nat.zero_le _⟩ dJ0_indexOf_7cf53_14) hH (fun H locs hH => ?_)
    obtain ⟨r_26, w_24, hq_25, hf⟩ := am_b2_some hf
    refine am_calli (r := r_26) (w' := w_24) (am_runS (n := 4) (As := [.ref (G.2.2.2.2.2 0), .int a1, .int a2, .int r_23]) (rest := []) ⟨hx, hb, hml, hown, hts⟩ hK hE hH (k_J1_indexOf_4cfef_b0 hq_25) (am_gS am_q468 am_q469 am_q17 am_q470) ⟨rfl, rfl⟩ (by decide +kernel) ⟨Nat.le_of_ble_eq_true rfl, Nat.le_of_ble_eq_true rfl⟩ rfl hl.1 rfl (Nat.le_of_ble_eq_true rfl) ⟨Nat.zero_le _, Nat.zero_le _⟩ dJ0_indexOf_7cf53_17) hH (fun H locs hH => ?_)
    refine lv_goto (tgt := 36) hx hb dJ0_indexOf_7cf53_20 (by decide) ?_
    exact P36 r_26 w_24 H locs ls hf hH (lv_sub hl [] rfl)

def f_J0_indexOf_0f7a4_t0 (a1 : Int32) (w : am_S) : Option (Int32 × am_S) :=
  am_b2 (f_J0_indexOf_7cf53_t0 a1 (0 : Int32) w) fun r_6 w_4 => some (r_6, w_4)
set_option maxRecDepth 100000 in
set_option maxHeartbeats 4000000 in
theorem k_J0_indexOf_0f7a4_t0 {G : am_G} {l : Launch} {a1 : Int32}  {w : am_S} {rr : Int32} {ww : am_S} (hf : f_J0_indexOf_0f7a4_t0 a1 w = some (rr, ww)) : am_Mi G l yJ0_indexOf_0f7a4 (Cond.code yJ0_indexOf_0f7a4 cJ0_indexOf_0f7a4 2 (some .int) :: am_T) { frames := 3, cells := 0, slots := 0, locals := 192 } [.ref (G.2.2.2.2.1 0), .int a1] w rr ww := by
  refine Met.ofW (cc := cJ0_indexOf_0f7a4) (maxL := 2) (ret := (some .int)) (by decide) rfl ?_
  intro p e s m args below meth c s₁ B hml hv
  obtain ⟨rfl, hx, hb, hr, hts, hown, hlocks, hK, hE, hH⟩ := am_begin B hv
  have hown : s.vm.findClass RJ0 = some m.cls := hown
  show W p l e { frames := 3, cells := 0, slots := 0, locals := 192 } s m _ below meth c s.heap [] 0 0 _ _
  refine am_enter (lv := [(0, .ref (G.2.2.2.2.1 0)), (1, .int a1)]) (Nat.le_of_ble_eq_true rfl) rfl (fun ls hl => ?_)
  unfold f_J0_indexOf_0f7a4_t0 at hf
  refine am_start hH (fun H locs hH => ?_)
  refine lv_aload_n hx hb dJ0_indexOf_0f7a4_0 rfl (lv_at hl 0 rfl) ?_
  refine lv_iload_n hx hb dJ0_indexOf_0f7a4_1 rfl (lv_at hl 1 rfl) ?_
  refine lv_iconst (v := 0) hx hb dJ0_indexOf_0f7a4_2 (by decide) ?_
  obtain ⟨r_6, w_4, hq_5, hf⟩ := am_b2_some hf
  refine am_calli (r := r_6) (w' := w_4) (am_runVT (n := 2) (As := [.int a1, .int (0 : Int32)]) (rest := []) 0 (by decide) ⟨hx, hb, hml, hown, hts⟩ hK hE hH (k_J0_indexOf_7cf53_t0 hq_5) (am_gV am_q459 am_q460 am_q461 am_q16 am_q462) ⟨rfl, rfl⟩ (by decide +kernel) ⟨Nat.le_of_ble_eq_true rfl, Nat.le_of_ble_eq_true rfl⟩ rfl hl.1 rfl (Nat.le_of_ble_eq_true rfl) ⟨Nat.zero_le _, Nat.zero_le _⟩ dJ0_indexOf_0f7a4_3) hH (fun H locs hH => ?_)
  exact am_reti hx hb hr hlocks hH hf dJ0_indexOf_0f7a4_6

def f_X10_isDigitHere_44  (s0 : Int32) (w : am_S) : Option (Int32 × am_S) :=
  am_nar .boolean s0 (some (s0, w))
def f_X10_isDigitHere_43  (w : am_S) : Option (Int32 × am_S) :=
  f_X10_isDigitHere_44 (0 : Int32) w
def f_X10_isDigitHere  (w : am_S) : Option (Int32 × am_S) :=
  if (w.1 1 1) ≤ (w.1 1 2) then (f_X10_isDigitHere_43 w) else (am_chk (w.1 1 2) 240 (if (w.1 2 (w.1 1 2).toNatClampNeg) < (48 : Int32) then (f_X10_isDigitHere_43 w) else (am_chk (w.1 1 2) 240 (if (57 : Int32) < (w.1 2 (w.1 1 2).toNatClampNeg) then (f_X10_isDigitHere_43 w) else (f_X10_isDigitHere_44 (1 : Int32) w)))))
set_option maxRecDepth 100000 in
set_option maxHeartbeats 4000000 in
theorem k_X10_isDigitHere {G : am_G} {l : Launch}   {w : am_S} {rr : Int32} {ww : am_S} (hf : f_X10_isDigitHere  w = some (rr, ww)) : am_Mi G l yX10_isDigitHere (Cond.code yX10_isDigitHere cX10_isDigitHere 1 (some .boolean) :: am_T) { frames := 0, cells := 0, slots := 0, locals := 0 } [.ref (G.1 + 1)] w rr ww := by
  refine Met.ofW (cc := cX10_isDigitHere) (maxL := 1) (ret := (some .boolean)) (by decide) rfl ?_
  intro p e s m args below meth c s₁ B hml hv
  obtain ⟨rfl, hx, hb, hr, hts, hown, hlocks, hK, hE, hH⟩ := am_begin B hv
  have hown : s.vm.findClass RX10 = some m.cls := hown
  show W p l e { frames := 0, cells := 0, slots := 0, locals := 0 } s m _ below meth c s.heap [] 0 0 _ _
  have P44 : ∀ (s0 : Int32) (w : am_S) (H : Heap) (locs : List Loc) (ls : Array Slot), f_X10_isDigitHere_44 s0 w = some (rr, ww) → am_H G w s H locs → lv_has ls 1 [] → W p l e { frames := 0, cells := 0, slots := 0, locals := 0 } s m [.ref (G.1 + 1)].toArray below meth c H locs 0 0 (MQ below (va_Qi (fun (x : Int32) (u : am_S) => x = rr ∧ u = ww) (am_U G) (am_A G)) [.ref (G.1 + 1)].toArray s 0 0 (am_A G)) (F0 m 44 ls [.int s0]) := by
    intro s0 w H locs ls hf hH hl
    unfold f_X10_isDigitHere_44 at hf
    obtain ⟨hr_6, hf⟩ := am_nar_some hf
    exact am_retz hx hb hr hr_6.1 hlocks hH hf dX10_isDigitHere_44
  have P43 : ∀ (w : am_S) (H : Heap) (locs : List Loc) (ls : Array Slot), f_X10_isDigitHere_43 w = some (rr, ww) → am_H G w s H locs → lv_has ls 1 [] → W p l e { frames := 0, cells := 0, slots := 0, locals := 0 } s m [.ref (G.1 + 1)].toArray below meth c H locs 0 0 (MQ below (va_Qi (fun (x : Int32) (u : am_S) => x = rr ∧ u = ww) (am_U G) (am_A G)) [.ref (G.1 + 1)].toArray s 0 0 (am_A G)) (F0 m 43 ls []) := by
    intro w H locs ls hf hH hl
    unfold f_X10_isDigitHere_43 at hf
    refine lv_iconst (v := 0) hx hb dX10_isDigitHere_43 (by decide) ?_
    exact P44 (0 : Int32) w H locs ls hf hH (lv_sub hl [] rfl)
  refine am_enter (lv := [(0, .ref (G.1 + 1))]) (Nat.le_of_ble_eq_true rfl) rfl (fun ls hl => ?_)
  unfold f_X10_isDigitHere at hf
  refine am_start hH (fun H locs hH => ?_)
  refine lv_aload_n hx hb dX10_isDigitHere_0 rfl (lv_at hl 0 rfl) ?_
  refine am_get hx hb hts hK hown hH (am_o10 (p := 1) (by decide +kernel)) rfl am_inX10 2 (by decide) am_q50 (v := .int (w.1 1 2)) rfl dX10_isDigitHere_1 ?_
  refine lv_aload_n hx hb dX10_isDigitHere_4 rfl (lv_at hl 0 rfl) ?_
  refine am_get hx hb hts hK hown hH (am_o10 (p := 1) (by decide +kernel)) rfl am_inX10 1 (by decide) am_q47 (v := .int (w.1 1 1)) rfl dX10_isDigitHere_5 ?_
  refine lv_icmp_ge (tgt := 43) hx hb dX10_isDigitHere_8 (by decide) (fun hc_7 => ?_) (fun hc_7 => ?_)
  · have hf := (if_pos hc_7).symm.trans hf
    exact P43 w H locs ls hf hH (lv_sub hl [] rfl)
  · have hf := (if_neg hc_7).symm.trans hf
    refine lv_aload_n hx hb dX10_isDigitHere_11 rfl (lv_at hl 0 rfl) ?_
    refine am_get hx hb hts hK hown hH (am_o10 (p := 1) (by decide +kernel)) rfl am_inX10 0 (by decide) am_q45 (v := .ref (G.1 + 2)) rfl dX10_isDigitHere_12 ?_
    refine lv_aload_n hx hb dX10_isDigitHere_15 rfl (lv_at hl 0 rfl) ?_
    refine am_get hx hb hts hK hown hH (am_o10 (p := 1) (by decide +kernel)) rfl am_inX10 2 (by decide) am_q50 (v := .int (w.1 1 2)) rfl dX10_isDigitHere_16 ?_
    obtain ⟨hi_8, hf⟩ := am_chk_some hf
    refine am_cald hx hb hK hH (am_ac_of (N := 240) (by decide +kernel)) hi_8 dX10_isDigitHere_19 ?_
    refine lv_bipush (v := 48) hx hb dX10_isDigitHere_20 (by decide) ?_
    refine lv_icmp_lt (tgt := 43) hx hb dX10_isDigitHere_22 (by decide) (fun hc_9 => ?_) (fun hc_9 => ?_)
    · have hf := (if_pos hc_9).symm.trans hf
      exact P43 w H locs ls hf hH (lv_sub hl [] rfl)
    · have hf := (if_neg hc_9).symm.trans hf
      refine lv_aload_n hx hb dX10_isDigitHere_25 rfl (lv_at hl 0 rfl) ?_
      refine am_get hx hb hts hK hown hH (am_o10 (p := 1) (by decide +kernel)) rfl am_inX10 0 (by decide) am_q45 (v := .ref (G.1 + 2)) rfl dX10_isDigitHere_26 ?_
      refine lv_aload_n hx hb dX10_isDigitHere_29 rfl (lv_at hl 0 rfl) ?_
      refine am_get hx hb hts hK hown hH (am_o10 (p := 1) (by decide +kernel)) rfl am_inX10 2 (by decide) am_q50 (v := .int (w.1 1 2)) rfl dX10_isDigitHere_30 ?_
      obtain ⟨hi_10, hf⟩ := am_chk_some hf
      refine am_cald hx hb hK hH (am_ac_of (N := 240) (by decide +kernel)) hi_10 dX10_isDigitHere_33 ?_
      refine lv_bipush (v := 57) hx hb dX10_isDigitHere_34 (by decide) ?_
      refine lv_icmp_gt (tgt := 43) hx hb dX10_isDigitHere_36 (by decide) (fun hc_11 => ?_) (fun hc_11 => ?_)
      · have hf := (if_pos hc_11).symm.trans hf
        exact P43 w H locs ls hf hH (lv_sub hl [] rfl)
      · have hf := (if_neg hc_11).symm.trans hf
        refine lv_iconst (v := 1) hx hb dX10_isDigitHere_39 (by decide) ?_
        refine lv_goto (tgt := 44) hx hb dX10_isDigitHere_40 (by decide) ?_
        exact P44 (1 : Int32) w H locs ls hf hH (lv_sub hl [] rfl)

def f_X10_readNumber_96 (a1 : Int32) (a2 : Int32) (w : am_S) : Option (Int32 × am_S) :=
  am_v (am_pi w 1 2 ((w.1 1 2) - (1 : Int32))) fun (w_22 : am_S) => some ((0 : Int32), w_22)
def f_X10_readNumber_80 (a1 : Int32) (a2 : Int32) (w : am_S) : Option (Int32 × am_S) :=
  if (w.1 1 3) < a1 then (f_X10_readNumber_96 a1 a2 w) else (if (w.1 1 3) ≤ a2 then (some ((1 : Int32), w)) else (f_X10_readNumber_96 a1 a2 w))
def f_X10_readNumber_21b (a1 : Int32) (a2 : Int32) (x3 : Int32) (w : am_S) : Option ((Int32 × am_S) ⊕ (Int32 × am_S)) :=
  if (4 : Int32) < x3 then (am_x (f_X10_readNumber_80 a1 a2 w)) else (am_b2 (f_X10_isDigitHere w) fun r_29 w_27 => if r_29 = 0 then (am_x (f_X10_readNumber_80 a1 a2 w_27)) else (if x3 = (4 : Int32) then (am_x (some ((0 : Int32), w_27))) else (am_chk (w_27.1 1 2) 240 (am_v (am_pi w_27 1 3 (((w_27.1 1 3) * (10 : Int32)) + ((w_27.1 2 (w_27.1 1 2).toNatClampNeg) - (48 : Int32)))) fun (w_34 : am_S) => am_v (am_pi w_34 1 2 ((w_34.1 1 2) + (1 : Int32))) fun (w_35 : am_S) => am_v (x3 + (1 : Int32)) fun (x3_36 : Int32) => some (.inr (x3_36, w_35))))))
def f_X10_readNumber_21 (a1 : Int32) (a2 : Int32) (x3 : Int32) (w : am_S) : Option (Int32 × am_S) :=
  am_loop (fun (st : (Int32 × am_S)) => f_X10_readNumber_21b a1 a2 st.1 st.2) am_fuel (x3, w)
def f_X10_readNumber (a1 : Int32) (a2 : Int32) (w : am_S) : Option (Int32 × am_S) :=
  am_b2 (f_X10_nextSign w) fun r_40 w_38 => am_b2 (f_X10_isDigitHere w_38) fun r_43 w_41 => if r_43 = 0 then (some ((0 : Int32), w_41)) else (am_v (am_pi w_41 1 3 (0 : Int32)) fun (w_45 : am_S) => f_X10_readNumber_21 a1 a2 (0 : Int32) w_45)
set_option maxRecDepth 100000 in
set_option maxHeartbeats 4000000 in
theorem k_X10_readNumber {G : am_G} {l : Launch} {a1 : Int32} {a2 : Int32}  {w : am_S} {rr : Int32} {ww : am_S} (hf : f_X10_readNumber a1 a2 w = some (rr, ww)) : am_Mi G l yX10_readNumber (Cond.code yX10_readNumber cX10_readNumber 4 (some .boolean) :: am_T) { frames := 1, cells := 0, slots := 0, locals := 64 } [.ref (G.1 + 1), .int a1, .int a2] w rr ww := by
  refine Met.ofW (cc := cX10_readNumber) (maxL := 4) (ret := (some .boolean)) (by decide) rfl ?_
  intro p e s m args below meth c s₁ B hml hv
  obtain ⟨rfl, hx, hb, hr, hts, hown, hlocks, hK, hE, hH⟩ := am_begin B hv
  have hown : s.vm.findClass RX10 = some m.cls := hown
  show W p l e { frames := 1, cells := 0, slots := 0, locals := 64 } s m _ below meth c s.heap [] 0 0 _ _
  have P96 : ∀ (w : am_S) (H : Heap) (locs : List Loc) (ls : Array Slot), f_X10_readNumber_96 a1 a2 w = some (rr, ww) → am_H G w s H locs → lv_has ls 4 [(0, .ref (G.1 + 1))] → W p l e { frames := 1, cells := 0, slots := 0, locals := 64 } s m [.ref (G.1 + 1), .int a1, .int a2].toArray below meth c H locs 0 0 (MQ below (va_Qi (fun (x : Int32) (u : am_S) => x = rr ∧ u = ww) (am_U G) (am_A G)) [.ref (G.1 + 1), .int a1, .int a2].toArray s 0 0 (am_A G)) (F0 m 96 ls []) := by
    intro w H locs ls hf hH hl
    unfold f_X10_readNumber_96 at hf
    refine lv_aload_n hx hb dX10_readNumber_96 rfl (lv_at hl 0 rfl) ?_
    refine lv_dup hx hb dX10_readNumber_97 rfl ?_
    refine am_get hx hb hts hK hown hH (am_o10 (p := 1) (by decide +kernel)) rfl am_inX10 2 (by decide) am_q50 (v := .int (w.1 1 2)) rfl dX10_readNumber_98 ?_
    refine lv_iconst (v := 1) hx hb dX10_readNumber_101 (by decide) ?_
    refine lv_isub hx hb dX10_readNumber_102 ?_
    obtain ⟨w_22, hw_22, hf⟩ := am_v_some hf
    refine am_puti hx hb hts hK hown hH (am_o10 (p := 1) (by decide +kernel)) rfl am_inX10 tyX10 tyX10_ok nmX10 2 (by decide) am_q50 rfl rfl rfl (fun _ _ => Nat.le_of_ble_eq_true rfl) (fun _ _ _ => rfl) dX10_readNumber_103 (fun H locs hH => ?_)
    rw [← hw_22] at hH
    refine lv_iconst (v := 0) hx hb dX10_readNumber_106 (by decide) ?_
    exact am_retz hx hb hr rfl hlocks hH hf dX10_readNumber_107
  have P80 : ∀ (w : am_S) (H : Heap) (locs : List Loc) (ls : Array Slot), f_X10_readNumber_80 a1 a2 w = some (rr, ww) → am_H G w s H locs → lv_has ls 4 [(0, .ref (G.1 + 1)), (1, .int a1), (2, .int a2)] → W p l e { frames := 1, cells := 0, slots := 0, locals := 64 } s m [.ref (G.1 + 1), .int a1, .int a2].toArray below meth c H locs 0 0 (MQ below (va_Qi (fun (x : Int32) (u : am_S) => x = rr ∧ u = ww) (am_U G) (am_A G)) [.ref (G.1 + 1), .int a1, .int a2].toArray s 0 0 (am_A G)) (F0 m 80 ls []) := by
    intro w H locs ls hf hH hl
    unfold f_X10_readNumber_80 at hf
    refine lv_aload_n hx hb dX10_readNumber_80 rfl (lv_at hl 0 rfl) ?_
    refine am_get hx hb hts hK hown hH (am_o10 (p := 1) (by decide +kernel)) rfl am_inX10 3 (by decide) am_q53 (v := .int (w.1 1 3)) rfl dX10_readNumber_81 ?_
    refine lv_iload_n hx hb dX10_readNumber_84 rfl (lv_at hl 1 rfl) ?_
    refine lv_icmp_lt (tgt := 96) hx hb dX10_readNumber_85 (by decide) (fun hc_23 => ?_) (fun hc_23 => ?_)
    · have hf := (if_pos hc_23).symm.trans hf
      exact P96 w H locs ls hf hH (lv_sub hl [0] rfl)
    · have hf := (if_neg hc_23).symm.trans hf
      refine lv_aload_n hx hb dX10_readNumber_88 rfl (lv_at hl 0 rfl) ?_
      refine am_get hx hb hts hK hown hH (am_o10 (p := 1) (by decide +kernel)) rfl am_inX10 3 (by decide) am_q53 (v := .int (w.1 1 3)) rfl dX10_readNumber_89 ?_
      refine lv_iload_n hx hb dX10_readNumber_92 rfl (lv_at hl 2 rfl) ?_
      refine lv_icmp_le (tgt := 108) hx hb dX10_readNumber_93 (by decide) (fun hc_24 => ?_) (fun hc_24 => ?_)
      · have hf := (if_pos hc_24).symm.trans hf
        refine lv_iconst (v := 1) hx hb dX10_readNumber_108 (by decide) ?_
        exact am_retz hx hb hr rfl hlocks hH hf dX10_readNumber_109
      · have hf := (if_neg hc_24).symm.trans hf
        exact P96 w H locs ls hf hH (lv_sub hl [0] rfl)
  have P21 : ∀ (n1 : Nat) (x3 : Int32) (w : am_S) (H : Heap) (locs : List Loc) (ls : Array Slot), am_loop (fun (st : (Int32 × am_S)) => f_X10_readNumber_21b a1 a2 st.1 st.2) n1 (x3, w) = some (rr, ww) → am_H G w s H locs → lv_has ls 4 [(0, .ref (G.1 + 1)), (1, .int a1), (2, .int a2), (3, .int x3)] → W p l e { frames := 1, cells := 0, slots := 0, locals := 64 } s m [.ref (G.1 + 1), .int a1, .int a2].toArray below meth c H locs 0 0 (MQ below (va_Qi (fun (x : Int32) (u : am_S) => x = rr ∧ u = ww) (am_U G) (am_A G)) [.ref (G.1 + 1), .int a1, .int a2].toArray s 0 0 (am_A G)) (F0 m 21 ls []) := by
    intro n1
    induction n1 with
    | zero =>
      intro x3 w H locs ls hf hH hl
      exact (am_loop_zero hf).elim
    | succ n1 ih1 =>
      intro x3 w H locs ls hf hH hl
      obtain ⟨z1, hf, hk1⟩ := am_loop_succ hf
      have hf : f_X10_readNumber_21b a1 a2 x3 w = some z1 := hf
      unfold f_X10_readNumber_21b at hf
      refine lv_iload_n hx hb dX10_readNumber_21 rfl (lv_at hl 3 rfl) ?_
      refine lv_iconst (v := 4) hx hb dX10_readNumber_22 (by decide) ?_
      refine lv_icmp_gt (tgt := 80) hx hb dX10_readNumber_23 (by decide) (fun hc_25 => ?_) (fun hc_25 => ?_)
      · have hf := (if_pos hc_25).symm.trans hf
        obtain ⟨y_26, hf, hzy_26⟩ := am_x_some hf
        rw [hzy_26] at hk1
        have hf := hf.trans (congrArg some (show y_26 = (rr, ww) from hk1))
        exact P80 w H locs ls hf hH (lv_sub hl [0, 1, 2] rfl)
      · have hf := (if_neg hc_25).symm.trans hf
        refine lv_aload_n hx hb dX10_readNumber_26 rfl (lv_at hl 0 rfl) ?_
        obtain ⟨r_29, w_27, hq_28, hf⟩ := am_b2_some hf
        refine am_calli (r := r_29) (w' := w_27) (am_runV (n := 0) (As := []) (rest := []) ⟨hx, hb, hml, hown, hts⟩ hK hE hH (k_X10_isDigitHere hq_28) (am_gV am_q537 am_q539 am_qs4 am_q2 am_q540) (am_o10 (p := 1) (by decide +kernel)) rfl ⟨rfl, rfl⟩ (by decide +kernel) ⟨Nat.le_of_ble_eq_true rfl, Nat.le_of_ble_eq_true rfl⟩ rfl hl.1 rfl (Nat.le_of_ble_eq_true rfl) ⟨Nat.zero_le _, Nat.zero_le _⟩ dX10_readNumber_27) hH (fun H locs hH => ?_)
        refine lv_if_eq (tgt := 80) hx hb dX10_readNumber_30 (by decide) (fun hc_30 => ?_) (fun hc_30 => ?_)
        · have hf := (if_pos hc_30).symm.trans hf
          obtain ⟨y_31, hf, hzy_31⟩ := am_x_some hf
          rw [hzy_31] at hk1
          have hf := hf.trans (congrArg some (show y_31 = (rr, ww) from hk1))
          exact P80 w_27 H locs ls hf hH (lv_sub hl [0, 1, 2] rfl)
        · have hf := (if_neg hc_30).symm.trans hf
          refine lv_iload_n hx hb dX10_readNumber_33 rfl (lv_at hl 3 rfl) ?_
          refine lv_iconst (v := 4) hx hb dX10_readNumber_34 (by decide) ?_
          refine lv_icmp_ne (tgt := 40) hx hb dX10_readNumber_35 (by decide) (fun hc_32 => ?_) (fun hc_32 => ?_)
          · have hf := (if_neg hc_32).symm.trans hf
            refine lv_aload_n hx hb dX10_readNumber_40 rfl (lv_at hl 0 rfl) ?_
            refine lv_aload_n hx hb dX10_readNumber_41 rfl (lv_at hl 0 rfl) ?_
            refine am_get hx hb hts hK hown hH (am_o10 (p := 1) (by decide +kernel)) rfl am_inX10 3 (by decide) am_q53 (v := .int (w_27.1 1 3)) rfl dX10_readNumber_42 ?_
            refine lv_bipush (v := 10) hx hb dX10_readNumber_45 (by decide) ?_
            refine lv_imul hx hb dX10_readNumber_47 ?_
            refine lv_aload_n hx hb dX10_readNumber_48 rfl (lv_at hl 0 rfl) ?_
            refine am_get hx hb hts hK hown hH (am_o10 (p := 1) (by decide +kernel)) rfl am_inX10 0 (by decide) am_q45 (v := .ref (G.1 + 2)) rfl dX10_readNumber_49 ?_
            refine lv_aload_n hx hb dX10_readNumber_52 rfl (lv_at hl 0 rfl) ?_
            refine am_get hx hb hts hK hown hH (am_o10 (p := 1) (by decide +kernel)) rfl am_inX10 2 (by decide) am_q50 (v := .int (w_27.1 1 2)) rfl dX10_readNumber_53 ?_
            obtain ⟨hi_33, hf⟩ := am_chk_some hf
            refine am_cald hx hb hK hH (am_ac_of (N := 240) (by decide +kernel)) hi_33 dX10_readNumber_56 ?_
            refine lv_bipush (v := 48) hx hb dX10_readNumber_57 (by decide) ?_
            refine lv_isub hx hb dX10_readNumber_59 ?_
            refine lv_iadd hx hb dX10_readNumber_60 ?_
            obtain ⟨w_34, hw_34, hf⟩ := am_v_some hf
            refine am_puti hx hb hts hK hown hH (am_o10 (p := 1) (by decide +kernel)) rfl am_inX10 tyX10 tyX10_ok nmX10 3 (by decide) am_q53 rfl rfl rfl (fun _ _ => Nat.le_of_ble_eq_true rfl) (fun _ _ _ => rfl) dX10_readNumber_61 (fun H locs hH => ?_)
            rw [← hw_34] at hH
            refine lv_aload_n hx hb dX10_readNumber_64 rfl (lv_at hl 0 rfl) ?_
            refine lv_dup hx hb dX10_readNumber_65 rfl ?_
            refine am_get hx hb hts hK hown hH (am_o10 (p := 1) (by decide +kernel)) rfl am_inX10 2 (by decide) am_q50 (v := .int (w_34.1 1 2)) rfl dX10_readNumber_66 ?_
            refine lv_iconst (v := 1) hx hb dX10_readNumber_69 (by decide) ?_
            refine lv_iadd hx hb dX10_readNumber_70 ?_
            obtain ⟨w_35, hw_35, hf⟩ := am_v_some hf
            refine am_puti hx hb hts hK hown hH (am_o10 (p := 1) (by decide +kernel)) rfl am_inX10 tyX10 tyX10_ok nmX10 2 (by decide) am_q50 rfl rfl rfl (fun _ _ => Nat.le_of_ble_eq_true rfl) (fun _ _ _ => rfl) dX10_readNumber_71 (fun H locs hH => ?_)
            rw [← hw_35] at hH
            obtain ⟨x3_36, hx3_36, hf⟩ := am_v_some hf
            refine lv_iinc (v := x3_36) (lv' := [(3, .int x3_36), (0, .ref (G.1 + 1)), (1, .int a1), (2, .int a2)]) hx hb dX10_readNumber_74 hl (k := 3) rfl (by rw [hx3_36]; rfl) (by decide) rfl (fun ls hl => ?_)
            refine lv_goto (tgt := 21) hx hb dX10_readNumber_77 (by decide) ?_
            obtain rfl := Option.some.inj hf
            exact ih1 x3_36 w_35 H locs ls hk1 hH (lv_sub hl [1, 2, 3, 0] rfl)
          · have hf := (if_pos hc_32).symm.trans hf
            obtain ⟨y_37, hf, hzy_37⟩ := am_x_some hf
            rw [hzy_37] at hk1
            have hf := hf.trans (congrArg some (show y_37 = (rr, ww) from hk1))
            refine lv_iconst (v := 0) hx hb dX10_readNumber_38 (by decide) ?_
            exact am_retz hx hb hr rfl hlocks hH hf dX10_readNumber_39
  refine am_enter (lv := [(0, .ref (G.1 + 1)), (1, .int a1), (2, .int a2)]) (Nat.le_of_ble_eq_true rfl) rfl (fun ls hl => ?_)
  unfold f_X10_readNumber at hf
  refine am_start hH (fun H locs hH => ?_)
  refine lv_aload_n hx hb dX10_readNumber_0 rfl (lv_at hl 0 rfl) ?_
  obtain ⟨r_40, w_38, hq_39, hf⟩ := am_b2_some hf
  refine am_calli (r := r_40) (w' := w_38) (am_runV (n := 0) (As := []) (rest := []) ⟨hx, hb, hml, hown, hts⟩ hK hE hH (k_X10_nextSign hq_39) (am_gV am_q536 am_q430 am_q431 am_q2 am_q432) (am_o10 (p := 1) (by decide +kernel)) rfl ⟨rfl, rfl⟩ (by decide +kernel) ⟨Nat.le_of_ble_eq_true rfl, Nat.le_of_ble_eq_true rfl⟩ rfl hl.1 rfl (Nat.le_of_ble_eq_true rfl) ⟨Nat.zero_le _, Nat.zero_le _⟩ dX10_readNumber_1) hH (fun H locs hH => ?_)
  refine lv_pop hx hb dX10_readNumber_4 rfl ?_
  refine lv_aload_n hx hb dX10_readNumber_5 rfl (lv_at hl 0 rfl) ?_
  obtain ⟨r_43, w_41, hq_42, hf⟩ := am_b2_some hf
  refine am_calli (r := r_43) (w' := w_41) (am_runV (n := 0) (As := []) (rest := []) ⟨hx, hb, hml, hown, hts⟩ hK hE hH (k_X10_isDigitHere hq_42) (am_gV am_q537 am_q539 am_qs4 am_q2 am_q540) (am_o10 (p := 1) (by decide +kernel)) rfl ⟨rfl, rfl⟩ (by decide +kernel) ⟨Nat.le_of_ble_eq_true rfl, Nat.le_of_ble_eq_true rfl⟩ rfl hl.1 rfl (Nat.le_of_ble_eq_true rfl) ⟨Nat.zero_le _, Nat.zero_le _⟩ dX10_readNumber_6) hH (fun H locs hH => ?_)
  refine lv_if_ne (tgt := 14) hx hb dX10_readNumber_9 (by decide) (fun hc_44 => ?_) (fun hc_44 => ?_)
  · have hf := (if_neg hc_44).symm.trans hf
    refine lv_aload_n hx hb dX10_readNumber_14 rfl (lv_at hl 0 rfl) ?_
    refine lv_iconst (v := 0) hx hb dX10_readNumber_15 (by decide) ?_
    obtain ⟨w_45, hw_45, hf⟩ := am_v_some hf
    refine am_puti hx hb hts hK hown hH (am_o10 (p := 1) (by decide +kernel)) rfl am_inX10 tyX10 tyX10_ok nmX10 3 (by decide) am_q53 rfl rfl rfl (fun _ _ => Nat.le_of_ble_eq_true rfl) (fun _ _ _ => rfl) dX10_readNumber_16 (fun H locs hH => ?_)
    rw [← hw_45] at hH
    refine lv_iconst (v := 0) hx hb dX10_readNumber_19 (by decide) ?_
    refine lv_istore_n (lv' := [(3, .int (0 : Int32)), (0, .ref (G.1 + 1)), (1, .int a1), (2, .int a2)]) hx hb dX10_readNumber_20 rfl hl (by decide) rfl (fun ls hl => ?_)
    exact P21 am_fuel (0 : Int32) w_45 H locs ls hf hH (lv_sub hl [1, 2, 3, 0] rfl)
  · have hf := (if_pos hc_44).symm.trans hf
    refine lv_iconst (v := 0) hx hb dX10_readNumber_12 (by decide) ?_
    exact am_retz hx hb hr rfl hlocks hH hf dX10_readNumber_13

def f_X1_readItems_t0_x1_x2_x0_57 (o0 : Nat) (w : am_S) : Option (Int32 × am_S) :=
  some ((1 : Int32), w)
def f_X1_readItems_t0_x1_x2_x0_82 (o0 : Nat) (w : am_S) : Option (Int32 × am_S) :=
  some ((0 : Int32), w)
def f_X1_readItems_t0_x1_x2_x0_30b (o0 : Nat) (x6 : Int32) (x7 : Int32) (w : am_S) : Option ((Int32 × am_S) ⊕ (Int32 × Int32 × am_S)) :=
  am_b2 (f_J0_length_8abf5_t0 w) fun r_30 w_28 => if r_30 < x7 then (am_x (some ((0 : Int32), w_28))) else (am_b2 (f_X10_nextSign w_28) fun r_35 w_33 => if r_35 = 0 then (am_x (f_X1_readItems_t0_x1_x2_x0_57 o0 w_33)) else (if r_35 = (59 : Int32) then (am_x (f_X1_readItems_t0_x1_x2_x0_57 o0 w_33)) else (am_b2 (f_J0_indexOf_0f7a4_t0 r_35 w_33) fun r_41 w_39 => if r_41 < 0 then (am_x (f_X1_readItems_t0_x1_x2_x0_82 o0 w_39)) else (if ((x6 >>> (r_41 &&& 31)) &&& (1 : Int32)) = 0 then (am_v (am_pi w_39 1 2 ((w_39.1 1 2) + (1 : Int32))) fun (w_45 : am_S) => am_chk r_41 4 (am_chk r_41 4 (am_b2 (f_X10_readNumber (am_sv 1 r_41.toNatClampNeg) (am_sv 2 r_41.toNatClampNeg) w_45) fun r_50 w_48 => if r_50 = 0 then (am_x (some ((0 : Int32), w_48))) else (am_chk r_41 5 (am_v (am_pi w_48 (o0 + 1) r_41.toNatClampNeg (w_48.1 1 3)) fun (w_53 : am_S) => am_v (x6 ||| ((1 : Int32) <<< (r_41 &&& 31))) fun (x6_54 : Int32) => am_v (x7 + (1 : Int32)) fun (x7_55 : Int32) => some (.inr (x6_54, x7_55, w_53))))))) else (am_x (f_X1_readItems_t0_x1_x2_x0_82 o0 w_39))))))
def f_X1_readItems_t0_x1_x2_x0_30 (o0 : Nat) (x6 : Int32) (x7 : Int32) (w : am_S) : Option (Int32 × am_S) :=
  am_loop (fun (st : (Int32 × Int32 × am_S)) => f_X1_readItems_t0_x1_x2_x0_30b o0 st.1 st.2.1 st.2.2) am_fuel (x6, x7, w)
def f_X1_readItems_t0_x1_x2_x0 (o0 : Nat) (w : am_S) : Option (Int32 × am_S) :=
  am_v (am_cx w (am_sv 0) 0 (o0 + 1) 0 4) fun (w_59 : am_S) => am_v (am_pi w_59 1 2 ((w_59.1 1 2) + (1 : Int32))) fun (w_60 : am_S) => f_X1_readItems_t0_x1_x2_x0_30 o0 (0 : Int32) (0 : Int32) w_60
set_option maxRecDepth 100000 in
set_option maxHeartbeats 4000000 in
theorem k_X1_readItems_t0_x1_x2_x0 {G : am_G} {l : Launch} {o0 : Nat} (ho0 : am_f1 o0) {w : am_S} {rr : Int32} {ww : am_S} (hf : f_X1_readItems_t0_x1_x2_x0 o0 w = some (rr, ww)) : am_Mi G l yX1_readItems (Cond.code yX1_readItems cX1_readItems 10 (some .boolean) :: am_T) { frames := 4, cells := 0, slots := 0, locals := 256 } [.ref (G.1 + o0), .ref (G.1 + 1), .ref (G.2.2.2.2.1 0), .ref (G.2.2.2.1 1), .ref (G.2.2.2.1 2), .ref (G.2.2.2.1 0)] w rr ww := by
  refine Met.ofW (cc := cX1_readItems) (maxL := 10) (ret := (some .boolean)) (by decide) rfl ?_
  intro p e s m args below meth c s₁ B hml hv
  obtain ⟨rfl, hx, hb, hr, hts, hown, hlocks, hK, hE, hH⟩ := am_begin B hv
  have hown : s.vm.findClass RX1 = some m.cls := hown
  show W p l e { frames := 4, cells := 0, slots := 0, locals := 256 } s m _ below meth c s.heap [] 0 0 _ _
  have P57 : ∀ (w : am_S) (H : Heap) (locs : List Loc) (ls : Array Slot), f_X1_readItems_t0_x1_x2_x0_57 o0 w = some (rr, ww) → am_H G w s H locs → lv_has ls 10 [] → W p l e { frames := 4, cells := 0, slots := 0, locals := 256 } s m [.ref (G.1 + o0), .ref (G.1 + 1), .ref (G.2.2.2.2.1 0), .ref (G.2.2.2.1 1), .ref (G.2.2.2.1 2), .ref (G.2.2.2.1 0)].toArray below meth c H locs 0 0 (MQ below (va_Qi (fun (x : Int32) (u : am_S) => x = rr ∧ u = ww) (am_U G) (am_A G)) [.ref (G.1 + o0), .ref (G.1 + 1), .ref (G.2.2.2.2.1 0), .ref (G.2.2.2.1 1), .ref (G.2.2.2.1 2), .ref (G.2.2.2.1 0)].toArray s 0 0 (am_A G)) (F0 m 57 ls []) := by
    intro w H locs ls hf hH hl
    unfold f_X1_readItems_t0_x1_x2_x0_57 at hf
    refine lv_iconst (v := 1) hx hb dX1_readItems_57 (by decide) ?_
    exact am_retz hx hb hr rfl hlocks hH hf dX1_readItems_58
  have P82 : ∀ (w : am_S) (H : Heap) (locs : List Loc) (ls : Array Slot), f_X1_readItems_t0_x1_x2_x0_82 o0 w = some (rr, ww) → am_H G w s H locs → lv_has ls 10 [] → W p l e { frames := 4, cells := 0, slots := 0, locals := 256 } s m [.ref (G.1 + o0), .ref (G.1 + 1), .ref (G.2.2.2.2.1 0), .ref (G.2.2.2.1 1), .ref (G.2.2.2.1 2), .ref (G.2.2.2.1 0)].toArray below meth c H locs 0 0 (MQ below (va_Qi (fun (x : Int32) (u : am_S) => x = rr ∧ u = ww) (am_U G) (am_A G)) [.ref (G.1 + o0), .ref (G.1 + 1), .ref (G.2.2.2.2.1 0), .ref (G.2.2.2.1 1), .ref (G.2.2.2.1 2), .ref (G.2.2.2.1 0)].toArray s 0 0 (am_A G)) (F0 m 82 ls []) := by
    intro w H locs ls hf hH hl
    unfold f_X1_readItems_t0_x1_x2_x0_82 at hf
    refine lv_iconst (v := 0) hx hb dX1_readItems_82 (by decide) ?_
    exact am_retz hx hb hr rfl hlocks hH hf dX1_readItems_83
  have P30 : ∀ (n1 : Nat) (x6 : Int32) (x7 : Int32) (w : am_S) (H : Heap) (locs : List Loc) (ls : Array Slot), am_loop (fun (st : (Int32 × Int32 × am_S)) => f_X1_readItems_t0_x1_x2_x0_30b o0 st.1 st.2.1 st.2.2) n1 (x6, x7, w) = some (rr, ww) → am_H G w s H locs → lv_has ls 10 [(0, .ref (G.1 + o0)), (1, .ref (G.1 + 1)), (2, .ref (G.2.2.2.2.1 0)), (3, .ref (G.2.2.2.1 1)), (4, .ref (G.2.2.2.1 2)), (6, .int x6), (7, .int x7)] → W p l e { frames := 4, cells := 0, slots := 0, locals := 256 } s m [.ref (G.1 + o0), .ref (G.1 + 1), .ref (G.2.2.2.2.1 0), .ref (G.2.2.2.1 1), .ref (G.2.2.2.1 2), .ref (G.2.2.2.1 0)].toArray below meth c H locs 0 0 (MQ below (va_Qi (fun (x : Int32) (u : am_S) => x = rr ∧ u = ww) (am_U G) (am_A G)) [.ref (G.1 + o0), .ref (G.1 + 1), .ref (G.2.2.2.2.1 0), .ref (G.2.2.2.1 1), .ref (G.2.2.2.1 2), .ref (G.2.2.2.1 0)].toArray s 0 0 (am_A G)) (F0 m 30 ls []) := by
    intro n1
    induction n1 with
    | zero =>
      intro x6 x7 w H locs ls hf hH hl
      exact (am_loop_zero hf).elim
    | succ n1 ih1 =>
      intro x6 x7 w H locs ls hf hH hl
      obtain ⟨z1, hf, hk1⟩ := am_loop_succ hf
      have hf : f_X1_readItems_t0_x1_x2_x0_30b o0 x6 x7 w = some z1 := hf
      unfold f_X1_readItems_t0_x1_x2_x0_30b at hf
      refine lv_iload hx hb dX1_readItems_30 (lv_at hl 6 rfl) ?_
      refine lv_aload_n hx hb dX1_readItems_32 rfl (lv_at hl 2 rfl) ?_
      obtain ⟨r_30, w_28, hq_29, hf⟩ := am_b2_some hf
      refine am_calli (r := r_30) (w' := w_28) (am_runVT (n := 0) (As := []) (rest := [.int x7]) 0 (by decide) ⟨hx, hb, hml, hown, hts⟩ hK hE hH (k_J0_length_8abf5_t0 hq_29) (am_gV am_q445 am_q446 am_q447 am_q16 am_q448) ⟨rfl, rfl⟩ (by decide +kernel) ⟨Nat.le_of_ble_eq_true rfl, Nat.le_of_ble_eq_true rfl⟩ rfl hl.1 rfl (Nat.le_of_ble_eq_true rfl) ⟨Nat.zero_le _, Nat.zero_le _⟩ dX1_readItems_33) hH (fun H locs hH => ?_)
      refine lv_icmp_gt (tgt := 138) hx hb dX1_readItems_36 (by decide) (fun hc_31 => ?_) (fun hc_31 => ?_)
      · have hf := (if_pos hc_31).symm.trans hf
        obtain ⟨y_32, hf, hzy_32⟩ := am_x_some hf
        rw [hzy_32] at hk1
        have hf := hf.trans (congrArg some (show y_32 = (rr, ww) from hk1))
        refine lv_iconst (v := 0) hx hb dX1_readItems_138 (by decide) ?_
        exact am_retz hx hb hr rfl hlocks hH hf dX1_readItems_139
      · have hf := (if_neg hc_31).symm.trans hf
        refine lv_aload_n hx hb dX1_readItems_39 rfl (lv_at hl 1 rfl) ?_
        obtain ⟨r_35, w_33, hq_34, hf⟩ := am_b2_some hf
        refine am_calli (r := r_35) (w' := w_33) (am_runV (n := 0) (As := []) (rest := []) ⟨hx, hb, hml, hown, hts⟩ hK hE hH (k_X10_nextSign hq_34) (am_gV am_q429 am_q430 am_q431 am_q2 am_q432) (am_o10 (p := 1) (by decide +kernel)) rfl ⟨rfl, rfl⟩ (by decide +kernel) ⟨Nat.le_of_ble_eq_true rfl, Nat.le_of_ble_eq_true rfl⟩ rfl hl.1 rfl (Nat.le_of_ble_eq_true rfl) ⟨Nat.zero_le _, Nat.zero_le _⟩ dX1_readItems_40) hH (fun H locs hH => ?_)
        refine lv_istore (lv' := [(8, .int r_35), (0, .ref (G.1 + o0)), (1, .ref (G.1 + 1)), (2, .ref (G.2.2.2.2.1 0)), (3, .ref (G.2.2.2.1 1)), (4, .ref (G.2.2.2.1 2)), (6, .int x6), (7, .int x7)]) hx hb dX1_readItems_43 hl (by decide) rfl (fun ls hl => ?_)
        refine lv_iload hx hb dX1_readItems_45 (lv_at hl 0 rfl) ?_
        refine lv_if_eq (tgt := 57) hx hb dX1_readItems_47 (by decide) (fun hc_36 => ?_) (fun hc_36 => ?_)
        · have hf := (if_pos hc_36).symm.trans hf
          obtain ⟨y_37, hf, hzy_37⟩ := am_x_some hf
          rw [hzy_37] at hk1
          have hf := hf.trans (congrArg some (show y_37 = (rr, ww) from hk1))
          exact P57 w_33 H locs ls hf hH (lv_sub hl [] rfl)
        · have hf := (if_neg hc_36).symm.trans hf
          refine lv_iload hx hb dX1_readItems_50 (lv_at hl 0 rfl) ?_
          refine lv_bipush (v := 59) hx hb dX1_readItems_52 (by decide) ?_
          refine lv_icmp_ne (tgt := 59) hx hb dX1_readItems_54 (by decide) (fun hc_38 => ?_) (fun hc_38 => ?_)
          · have hf := (if_neg hc_38).symm.trans hf
            refine lv_aload_n hx hb dX1_readItems_59 rfl (lv_at hl 3 rfl) ?_
            refine lv_iload hx hb dX1_readItems_60 (lv_at hl 0 rfl) ?_
            obtain ⟨r_41, w_39, hq_40, hf⟩ := am_b2_some hf
            refine am_calli (r := r_41) (w' := w_39) (am_runVT (n := 1) (As := [.int r_35]) (rest := []) 0 (by decide) ⟨hx, hb, hml, hown, hts⟩ hK hE hH (k_J0_indexOf_0f7a4_t0 hq_40) (am_gV am_q455 am_q456 am_q457 am_q16 am_q458) ⟨rfl, rfl⟩ (by decide +kernel) ⟨Nat.le_of_ble_eq_true rfl, Nat.le_of_ble_eq_true rfl⟩ rfl hl.1 rfl (Nat.le_of_ble_eq_true rfl) ⟨Nat.zero_le _, Nat.zero_le _⟩ dX1_readItems_62) hH (fun H locs hH => ?_)
            refine lv_istore (lv' := [(9, .int r_41), (8, .int r_35), (0, .ref (G.1 + o0)), (1, .ref (G.1 + 1)), (2, .ref (G.2.2.2.2.1 0)), (3, .ref (G.2.2.2.1 1)), (4, .ref (G.2.2.2.1 2)), (6, .int x6), (7, .int x7)]) hx hb dX1_readItems_65 hl (by decide) rfl (fun ls hl => ?_)
            refine lv_iload hx hb dX1_readItems_67 (lv_at hl 0 rfl) ?_
            refine lv_if_lt (tgt := 82) hx hb dX1_readItems_69 (by decide) (fun hc_42 => ?_) (fun hc_42 => ?_)
            · have hf := (if_pos hc_42).symm.trans hf
              obtain ⟨y_43, hf, hzy_43⟩ := am_x_some hf
              rw [hzy_43] at hk1
              have hf := hf.trans (congrArg some (show y_43 = (rr, ww) from hk1))
              exact P82 w_39 H locs ls hf hH (lv_sub hl [] rfl)
            · have hf := (if_neg hc_42).symm.trans hf
              refine lv_iload hx hb dX1_readItems_72 (lv_at hl 7 rfl) ?_
              refine lv_iload hx hb dX1_readItems_74 (lv_at hl 0 rfl) ?_
              refine lv_ishr hx hb dX1_readItems_76 ?_
              refine lv_iconst (v := 1) hx hb dX1_readItems_77 (by decide) ?_
              refine lv_iand hx hb dX1_readItems_78 ?_
              refine lv_if_eq (tgt := 84) hx hb dX1_readItems_79 (by decide) (fun hc_44 => ?_) (fun hc_44 => ?_)
              · have hf := (if_pos hc_44).symm.trans hf
                refine lv_aload_n hx hb dX1_readItems_84 rfl (lv_at hl 3 rfl) ?_
                refine lv_dup hx hb dX1_readItems_85 rfl ?_
                refine am_get hx hb hts hK hown hH (am_o10 (p := 1) (by decide +kernel)) rfl am_inX10 2 (by decide) am_q51 (v := .int (w_39.1 1 2)) rfl dX1_readItems_86 ?_
                refine lv_iconst (v := 1) hx hb dX1_readItems_89 (by decide) ?_
                refine lv_iadd hx hb dX1_readItems_90 ?_
                obtain ⟨w_45, hw_45, hf⟩ := am_v_some hf
                refine am_puti hx hb hts hK hown hH (am_o10 (p := 1) (by decide +kernel)) rfl am_inX10 tyX10 tyX10_ok nmX10 2 (by decide) am_q51 rfl rfl rfl (fun _ _ => Nat.le_of_ble_eq_true rfl) (fun _ _ _ => rfl) dX1_readItems_91 (fun H locs hH => ?_)
                rw [← hw_45] at hH
                refine lv_aload_n hx hb dX1_readItems_94 rfl (lv_at hl 3 rfl) ?_
                refine lv_aload_n hx hb dX1_readItems_95 rfl (lv_at hl 5 rfl) ?_
                refine lv_iload hx hb dX1_readItems_96 (lv_at hl 0 rfl) ?_
                obtain ⟨hi_46, hf⟩ := am_chk_some hf
                refine va_ti hx hb (hE.1 1 _ rfl).2 hH.2 hi_46 rfl dX1_readItems_98 ?_
                refine lv_aload hx hb dX1_readItems_99 (lv_at hl 6 rfl) ?_
                refine lv_iload hx hb dX1_readItems_101 (lv_at hl 0 rfl) ?_
                obtain ⟨hi_47, hf⟩ := am_chk_some hf
                refine va_ti hx hb (hE.1 2 _ rfl).2 hH.2 hi_47 rfl dX1_readItems_103 ?_
                obtain ⟨r_50, w_48, hq_49, hf⟩ := am_b2_some hf
                refine am_calli (r := r_50) (w' := w_48) (am_runV (n := 2) (As := [.int (am_sv 1 r_41.toNatClampNeg), .int (am_sv 2 r_41.toNatClampNeg)]) (rest := []) ⟨hx, hb, hml, hown, hts⟩ hK hE hH (k_X10_readNumber hq_49) (am_gV am_q532 am_q533 am_q534 am_q2 am_q535) (am_o10 (p := 1) (by decide +kernel)) rfl ⟨rfl, rfl⟩ (by decide +kernel) ⟨Nat.le_of_ble_eq_true rfl, Nat.le_of_ble_eq_true rfl⟩ rfl hl.1 rfl (Nat.le_of_ble_eq_true rfl) ⟨Nat.zero_le _, Nat.zero_le _⟩ dX1_readItems_104) hH (fun H locs hH => ?_)
                refine lv_if_ne (tgt := 112) hx hb dX1_readItems_107 (by decide) (fun hc_51 => ?_) (fun hc_51 => ?_)
                · have hf := (if_neg hc_51).symm.trans hf
                  refine lv_aload_n hx hb dX1_readItems_112 rfl (lv_at hl 2 rfl) ?_
                  refine am_get hx hb hts hK hown hH (am_o1 ho0.1) rfl am_inX1 0 (by decide) am_q71 (v := .ref (G.1 + (o0 + 1))) rfl dX1_readItems_113 ?_
                  refine lv_iload hx hb dX1_readItems_116 (lv_at hl 0 rfl) ?_
                  refine lv_aload_n hx hb dX1_readItems_118 rfl (lv_at hl 3 rfl) ?_
                  refine am_get hx hb hts hK hown hH (am_o10 (p := 1) (by decide +kernel)) rfl am_inX10 3 (by decide) am_q54 (v := .int (w_48.1 1 3)) rfl dX1_readItems_119 ?_
                  obtain ⟨hi_52, hf⟩ := am_chk_some hf
                  obtain ⟨w_53, hw_53, hf⟩ := am_v_some hf
                  refine am_iast hx hb hK hH (am_ai_of (N := 5) ho0.2.1) hi_52 dX1_readItems_122 (fun H locs hH => ?_)
                  rw [← hw_53] at hH
                  refine lv_iload hx hb dX1_readItems_123 (lv_at hl 7 rfl) ?_
                  refine lv_iconst (v := 1) hx hb dX1_readItems_125 (by decide) ?_
                  refine lv_iload hx hb dX1_readItems_126 (lv_at hl 0 rfl) ?_
                  refine lv_ishl hx hb dX1_readItems_128 ?_
                  refine lv_ior hx hb dX1_readItems_129 ?_
                  obtain ⟨x6_54, hx6_54, hf⟩ := am_v_some hf
                  refine am_topi hx6_54 ?_
                  refine lv_istore (lv' := [(6, .int x6_54), (9, .int r_41), (8, .int r_35), (0, .ref (G.1 + o0)), (1, .ref (G.1 + 1)), (2, .ref (G.2.2.2.2.1 0)), (3, .ref (G.2.2.2.1 1)), (4, .ref (G.2.2.2.1 2)), (7, .int x7)]) hx hb dX1_readItems_130 hl (by decide) rfl (fun ls hl => ?_)
                  obtain ⟨x7_55, hx7_55, hf⟩ := am_v_some hf
                  refine lv_iinc (v := x7_55) (lv' := [(7, .int x7_55), (6, .int x6_54), (9, .int r_41), (8, .int r_35), (0, .ref (G.1 + o0)), (1, .ref (G.1 + 1)), (2, .ref (G.2.2.2.2.1 0)), (3, .ref (G.2.2.2.1 1)), (4, .ref (G.2.2.2.1 2))]) hx hb dX1_readItems_132 hl (k := 8) rfl (by rw [hx7_55]; rfl) (by decide) rfl (fun ls hl => ?_)
                  refine lv_goto (tgt := 30) hx hb dX1_readItems_135 (by decide) ?_
                  obtain rfl := Option.some.inj hf
                  exact ih1 x6_54 x7_55 w_53 H locs ls hk1 hH (lv_sub hl [4, 5, 6, 7, 8, 1, 0] rfl)
                · have hf := (if_pos hc_51).symm.trans hf
                  obtain ⟨y_56, hf, hzy_56⟩ := am_x_some hf
                  rw [hzy_56] at hk1
                  have hf := hf.trans (congrArg some (show y_56 = (rr, ww) from hk1))
                  refine lv_iconst (v := 0) hx hb dX1_readItems_110 (by decide) ?_
                  exact am_retz hx hb hr rfl hlocks hH hf dX1_readItems_111
              · have hf := (if_neg hc_44).symm.trans hf
                obtain ⟨y_57, hf, hzy_57⟩ := am_x_some hf
                rw [hzy_57] at hk1
                have hf := hf.trans (congrArg some (show y_57 = (rr, ww) from hk1))
                exact P82 w_39 H locs ls hf hH (lv_sub hl [] rfl)
          · have hf := (if_pos hc_38).symm.trans hf
            obtain ⟨y_58, hf, hzy_58⟩ := am_x_some hf
            rw [hzy_58] at hk1
            have hf := hf.trans (congrArg some (show y_58 = (rr, ww) from hk1))
            exact P57 w_33 H locs ls hf hH (lv_sub hl [] rfl)
  refine am_enter (lv := [(0, .ref (G.1 + o0)), (1, .ref (G.1 + 1)), (2, .ref (G.2.2.2.2.1 0)), (3, .ref (G.2.2.2.1 1)), (4, .ref (G.2.2.2.1 2)), (5, .ref (G.2.2.2.1 0))]) (Nat.le_of_ble_eq_true rfl) rfl (fun ls hl => ?_)
  unfold f_X1_readItems_t0_x1_x2_x0 at hf
  refine am_start hH (fun H locs hH => ?_)
  refine lv_aload hx hb dX1_readItems_0 (lv_at hl 5 rfl) ?_
  refine lv_iconst (v := 0) hx hb dX1_readItems_2 (by decide) ?_
  refine lv_aload_n hx hb dX1_readItems_3 rfl (lv_at hl 0 rfl) ?_
  refine am_get hx hb hts hK hown hH (am_o1 ho0.1) rfl am_inX1 0 (by decide) am_q71 (v := .ref (G.1 + (o0 + 1))) rfl dX1_readItems_4 ?_
  refine lv_iconst (v := 0) hx hb dX1_readItems_7 (by decide) ?_
  refine lv_aload hx hb dX1_readItems_8 (lv_at hl 5 rfl) ?_
  refine va_tlen (v := 4) hx hb (hE.1 0 _ rfl).2 hH.2 rfl dX1_readItems_10 ?_
  obtain ⟨w_59, hw_59, hf⟩ := am_v_some hf
  refine am_copyx (n := 4) hx hb (hml.trans hl.1.symm) hown (hts _ am_q442) (hts _ am_q444) (hts _ am_q443) (hts _ am_q15) hK hH (hE.1 0 _ rfl).2 (am_ai_of (N := 5) ho0.2.1) (by decide) (by decide) (by decide) (by decide) (by decide) (Nat.le_of_ble_eq_true rfl) (by decide +kernel) dX1_readItems_11 (fun H locs hH => ?_)
  rw [← hw_59] at hH
  refine lv_aload_n hx hb dX1_readItems_14 rfl (lv_at hl 1 rfl) ?_
  refine lv_dup hx hb dX1_readItems_15 rfl ?_
  refine am_get hx hb hts hK hown hH (am_o10 (p := 1) (by decide +kernel)) rfl am_inX10 2 (by decide) am_q51 (v := .int (w_59.1 1 2)) rfl dX1_readItems_16 ?_
  refine lv_iconst (v := 1) hx hb dX1_readItems_19 (by decide) ?_
  refine lv_iadd hx hb dX1_readItems_20 ?_
  obtain ⟨w_60, hw_60, hf⟩ := am_v_some hf
  refine am_puti hx hb hts hK hown hH (am_o10 (p := 1) (by decide +kernel)) rfl am_inX10 tyX10 tyX10_ok nmX10 2 (by decide) am_q51 rfl rfl rfl (fun _ _ => Nat.le_of_ble_eq_true rfl) (fun _ _ _ => rfl) dX1_readItems_21 (fun H locs hH => ?_)
  rw [← hw_60] at hH
  refine lv_iconst (v := 0) hx hb dX1_readItems_24 (by decide) ?_
  refine lv_istore (lv' := [(6, .int (0 : Int32)), (0, .ref (G.1 + o0)), (1, .ref (G.1 + 1)), (2, .ref (G.2.2.2.2.1 0)), (3, .ref (G.2.2.2.1 1)), (4, .ref (G.2.2.2.1 2)), (5, .ref (G.2.2.2.1 0))]) hx hb dX1_readItems_25 hl (by decide) rfl (fun ls hl => ?_)
  refine lv_iconst (v := 0) hx hb dX1_readItems_27 (by decide) ?_
  refine lv_istore (lv' := [(7, .int (0 : Int32)), (6, .int (0 : Int32)), (0, .ref (G.1 + o0)), (1, .ref (G.1 + 1)), (2, .ref (G.2.2.2.2.1 0)), (3, .ref (G.2.2.2.1 1)), (4, .ref (G.2.2.2.1 2)), (5, .ref (G.2.2.2.1 0))]) hx hb dX1_readItems_28 hl (by decide) rfl (fun ls hl => ?_)
  exact P30 am_fuel (0 : Int32) (0 : Int32) w_60 H locs ls hf hH (lv_sub hl [2, 3, 4, 5, 6, 1, 0] rfl)
