/-! functions and contracts of methods, by program (wip/whole/gen.py) -/
def f_X3_giveBack (o1 : Nat) (w : am_S) : Option am_S :=
  am_v (am_pi w 46 1 ((((w.1 46 1) + (40 : Int32)) - (1 : Int32)) - (((w.1 46 1) + (40 : Int32)) - (1 : Int32)) / (40 : Int32) * (40 : Int32))) fun (w_6 : am_S) => am_v (am_pi w_6 46 2 ((w_6.1 46 2) - (1 : Int32))) fun (w_7 : am_S) => am_chk (w_7.1 46 1) 40 (am_b1 (f_X9_takeFrom o1 (48 + 5 * (w_7.1 46 1).toNatClampNeg) w_7) fun w_9 => some w_9)
set_option maxRecDepth 100000 in
set_option maxHeartbeats 4000000 in
theorem k_X3_giveBack {G : am_G} {l : Launch} {o1 : Nat} (ho1 : am_f9 o1) {w : am_S} {ww : am_S} (hf : f_X3_giveBack o1 w = some ww) : am_Mv G l yX3_giveBack (Cond.code yX3_giveBack cX3_giveBack 2 none :: am_T) { frames := 3, cells := 0, slots := 0, locals := 192 } [.ref (G.1 + 46), .ref (G.1 + o1)] w ww := by
  refine Met.ofW (cc := cX3_giveBack) (maxL := 2) (ret := none) (by decide) rfl ?_
  intro p e s m args below meth c s₁ B hml hv
  obtain ⟨rfl, hx, hb, hr, hts, hown, hlocks, hK, hE, hH⟩ := am_begin B hv
  have hown : s.vm.findClass RX3 = some m.cls := hown
  show W p l e { frames := 3, cells := 0, slots := 0, locals := 192 } s m _ below meth c s.heap [] 0 0 _ _
  refine am_enter (lv := [(0, .ref (G.1 + 46)), (1, .ref (G.1 + o1))]) (Nat.le_of_ble_eq_true rfl) rfl (fun ls hl => ?_)
  unfold f_X3_giveBack at hf
  refine am_start hH (fun H locs hH => ?_)
  refine lv_aload_n hx hb dX3_giveBack_0 rfl (lv_at hl 0 rfl) ?_
  refine lv_aload_n hx hb dX3_giveBack_1 rfl (lv_at hl 0 rfl) ?_
  refine am_get hx hb hts hK hown hH (am_o3 (p := 46) (by decide +kernel)) rfl am_inX3 1 (by decide) am_q233 (v := .int (w.1 46 1)) rfl dX3_giveBack_2 ?_
  refine lv_bipush (v := 40) hx hb dX3_giveBack_5 (by decide) ?_
  refine lv_iadd hx hb dX3_giveBack_7 ?_
  refine lv_iconst (v := 1) hx hb dX3_giveBack_8 (by decide) ?_
  refine lv_isub hx hb dX3_giveBack_9 ?_
  refine lv_bipush (v := 40) hx hb dX3_giveBack_10 (by decide) ?_
  refine lv_irem hx hb dX3_giveBack_12 (by decide) ?_
  obtain ⟨w_6, hw_6, hf⟩ := am_v_some hf
  refine am_puti hx hb hts hK hown hH (am_o3 (p := 46) (by decide +kernel)) rfl am_inX3 tyX3 tyX3_ok nmX3 1 (by decide) am_q233 rfl rfl rfl (fun _ _ => Nat.le_of_ble_eq_true rfl) (fun _ _ _ => rfl) dX3_giveBack_13 (fun H locs hH => ?_)
  rw [← hw_6] at hH
  refine lv_aload_n hx hb dX3_giveBack_16 rfl (lv_at hl 0 rfl) ?_
  refine lv_dup hx hb dX3_giveBack_17 rfl ?_
  refine am_get hx hb hts hK hown hH (am_o3 (p := 46) (by decide +kernel)) rfl am_inX3 2 (by decide) am_q234 (v := .int (w_6.1 46 2)) rfl dX3_giveBack_18 ?_
  refine lv_iconst (v := 1) hx hb dX3_giveBack_21 (by decide) ?_
  refine lv_isub hx hb dX3_giveBack_22 ?_
  obtain ⟨w_7, hw_7, hf⟩ := am_v_some hf
  refine am_puti hx hb hts hK hown hH (am_o3 (p := 46) (by decide +kernel)) rfl am_inX3 tyX3 tyX3_ok nmX3 2 (by decide) am_q234 rfl rfl rfl (fun _ _ => Nat.le_of_ble_eq_true rfl) (fun _ _ _ => rfl) dX3_giveBack_23 (fun H locs hH => ?_)
  rw [← hw_7] at hH
  refine lv_aload_n hx hb dX3_giveBack_26 rfl (lv_at hl 1 rfl) ?_
  refine lv_aload_n hx hb dX3_giveBack_27 rfl (lv_at hl 0 rfl) ?_
  refine am_get hx hb hts hK hown hH (am_o3 (p := 46) (by decide +kernel)) rfl am_inX3 0 (by decide) am_q232 (v := .ref (G.1 + 47)) rfl dX3_giveBack_28 ?_
  refine lv_aload_n hx hb dX3_giveBack_31 rfl (lv_at hl 0 rfl) ?_
  refine am_get hx hb hts hK hown hH (am_o3 (p := 46) (by decide +kernel)) rfl am_inX3 1 (by decide) am_q233 (v := .int (w_7.1 46 1)) rfl dX3_giveBack_32 ?_
  obtain ⟨hi_8, hf⟩ := am_chk_some hf
  refine am_aald5 hx hb hK hH hi_8 dX3_giveBack_35 ?_
  obtain ⟨w_9, hq_10, hf⟩ := am_b1_some hf
  refine am_callv (w' := w_9) (am_runV (n := 1) (As := [.ref (G.1 + (48 + 5 * (w_7.1 46 1).toNatClampNeg))]) (rest := []) ⟨hx, hb, hml, hown, hts⟩ hK hE hH (k_X9_takeFrom ho1 (am_row5 hi_8) hq_10) (am_gV am_q775 am_q776 am_q777 am_q5 am_q778) (am_o9 ho1.1) rfl ⟨rfl, rfl⟩ (by decide +kernel) ⟨Nat.le_of_ble_eq_true rfl, Nat.le_of_ble_eq_true rfl⟩ rfl hl.1 rfl (Nat.le_of_ble_eq_true rfl) ⟨Nat.zero_le _, Nat.zero_le _⟩ dX3_giveBack_36) hH (fun H locs hH => ?_)
  exact am_retv hx hb hr hlocks hH hf dX3_giveBack_39

def f_X11_undo  (w : am_S) : Option (Int32 × am_S) :=
  if (w.1 46 2) = 0 then (some ((-1 : Int32), w)) else (am_b1 (f_X3_giveBack 23 w) fun w_6 => am_v (am_pi w_6 38 3 ((w_6.1 38 3) - (1 : Int32))) fun (w_8 : am_S) => some (w_8.1 46 2, w_8))
set_option maxRecDepth 100000 in
set_option maxHeartbeats 4000000 in
theorem k_X11_undo {G : am_G} {l : Launch}   {w : am_S} {rr : Int32} {ww : am_S} (hf : f_X11_undo  w = some (rr, ww)) : am_Mi G l yX11_undo (Cond.code yX11_undo cX11_undo 1 (some .int) :: am_T) { frames := 4, cells := 0, slots := 0, locals := 256 } [.ref (G.1 + 0)] w rr ww := by
  refine Met.ofW (cc := cX11_undo) (maxL := 1) (ret := (some .int)) (by decide) rfl ?_
  intro p e s m args below meth c s₁ B hml hv
  obtain ⟨rfl, hx, hb, hr, hts, hown, hlocks, hK, hE, hH⟩ := am_begin B hv
  have hown : s.vm.findClass RX11 = some m.cls := hown
  show W p l e { frames := 4, cells := 0, slots := 0, locals := 256 } s m _ below meth c s.heap [] 0 0 _ _
  refine am_enter (lv := [(0, .ref (G.1 + 0))]) (Nat.le_of_ble_eq_true rfl) rfl (fun ls hl => ?_)
  unfold f_X11_undo at hf
  refine am_start hH (fun H locs hH => ?_)
  refine lv_aload_n hx hb dX11_undo_0 rfl (lv_at hl 0 rfl) ?_
  refine am_get hx hb hts hK hown hH (am_o11 (p := 0) (by decide +kernel)) rfl am_inX11 10 (by decide) am_q341 (v := .ref (G.1 + 46)) rfl dX11_undo_1 ?_
  refine am_get hx hb hts hK hown hH (am_o3 (p := 46) (by decide +kernel)) rfl am_inX3 2 (by decide) am_q235 (v := .int (w.1 46 2)) rfl dX11_undo_4 ?_
  refine lv_if_ne (tgt := 12) hx hb dX11_undo_7 (by decide) (fun hc_5 => ?_) (fun hc_5 => ?_)
  · have hf := (if_neg hc_5).symm.trans hf
    refine lv_aload_n hx hb dX11_undo_12 rfl (lv_at hl 0 rfl) ?_
    refine am_get hx hb hts hK hown hH (am_o11 (p := 0) (by decide +kernel)) rfl am_inX11 10 (by decide) am_q341 (v := .ref (G.1 + 46)) rfl dX11_undo_13 ?_
    refine lv_aload_n hx hb dX11_undo_16 rfl (lv_at hl 0 rfl) ?_
    refine am_get hx hb hts hK hown hH (am_o11 (p := 0) (by decide +kernel)) rfl am_inX11 5 (by decide) am_q336 (v := .ref (G.1 + 23)) rfl dX11_undo_17 ?_
    obtain ⟨w_6, hq_7, hf⟩ := am_b1_some hf
    refine am_callv (w' := w_6) (am_runV (n := 1) (As := [.ref (G.1 + 23)]) (rest := []) ⟨hx, hb, hml, hown, hts⟩ hK hE hH (k_X3_giveBack (by decide +kernel) hq_7) (am_gV am_q919 am_q920 am_q921 am_q7 am_q922) (am_o3 (p := 46) (by decide +kernel)) rfl ⟨rfl, rfl⟩ (by decide +kernel) ⟨Nat.le_of_ble_eq_true rfl, Nat.le_of_ble_eq_true rfl⟩ rfl hl.1 rfl (Nat.le_of_ble_eq_true rfl) ⟨Nat.zero_le _, Nat.zero_le _⟩ dX11_undo_20) hH (fun H locs hH => ?_)
    refine lv_aload_n hx hb dX11_undo_23 rfl (lv_at hl 0 rfl) ?_
    refine am_get hx hb hts hK hown hH (am_o11 (p := 0) (by decide +kernel)) rfl am_inX11 8 (by decide) am_q339 (v := .ref (G.1 + 38)) rfl dX11_undo_24 ?_
    refine lv_dup hx hb dX11_undo_27 rfl ?_
    refine am_get hx hb hts hK hown hH (am_o4 (p := 38) (by decide +kernel)) rfl am_inX4 3 (by decide) am_q213 (v := .int (w_6.1 38 3)) rfl dX11_undo_28 ?_
    refine lv_iconst (v := 1) hx hb dX11_undo_31 (by decide) ?_
    refine lv_isub hx hb dX11_undo_32 ?_
    obtain ⟨w_8, hw_8, hf⟩ := am_v_some hf
    refine am_puti hx hb hts hK hown hH (am_o4 (p := 38) (by decide +kernel)) rfl am_inX4 tyX4 tyX4_ok nmX4 3 (by decide) am_q213 rfl rfl rfl (fun _ _ => Nat.le_of_ble_eq_true rfl) (fun _ _ _ => rfl) dX11_undo_33 (fun H locs hH => ?_)
    rw [← hw_8] at hH
    refine lv_aload_n hx hb dX11_undo_36 rfl (lv_at hl 0 rfl) ?_
    refine am_get hx hb hts hK hown hH (am_o11 (p := 0) (by decide +kernel)) rfl am_inX11 10 (by decide) am_q341 (v := .ref (G.1 + 46)) rfl dX11_undo_37 ?_
    refine am_get hx hb hts hK hown hH (am_o3 (p := 46) (by decide +kernel)) rfl am_inX3 2 (by decide) am_q235 (v := .int (w_8.1 46 2)) rfl dX11_undo_40 ?_
    exact am_reti hx hb hr hlocks hH hf dX11_undo_43
  · have hf := (if_pos hc_5).symm.trans hf
    refine lv_iconst (v := -1) hx hb dX11_undo_10 (by decide) ?_
    exact am_reti hx hb hr hlocks hH hf dX11_undo_11

def f_X6_haste_10b (a1 : Int32) (x2 : Int32) (x3 : Int32) (w : am_S) : Option ((Int32 × am_S) ⊕ (Int32 × Int32 × am_S)) :=
  if (10 : Int32) < x3 then (am_x (some ((-1 : Int32), w))) else (if ((x2 >>> (a1 &&& 31)) &&& (1 : Int32)) = 0 then (am_x (some (x3, w))) else (am_b2 (f_X7_clearAnywhere x2 w) fun r_14 w_12 => am_v (x2 &&& (r_14 ^^^ (-1 : Int32))) fun (x2_15 : Int32) => am_v (x3 + (1 : Int32)) fun (x3_16 : Int32) => some (.inr (x2_15, x3_16, w_12))))
def f_X6_haste_10 (a1 : Int32) (x2 : Int32) (x3 : Int32) (w : am_S) : Option (Int32 × am_S) :=
  am_loop (fun (st : (Int32 × Int32 × am_S)) => f_X6_haste_10b a1 st.1 st.2.1 st.2.2) am_fuel (x2, x3, w)
def f_X6_haste (a1 : Int32) (w : am_S) : Option (Int32 × am_S) :=
  am_v (w.1 250 6) fun (x2_18 : Int32) => f_X6_haste_10 a1 x2_18 (0 : Int32) w
set_option maxRecDepth 100000 in
set_option maxHeartbeats 4000000 in
theorem k_X6_haste {G : am_G} {l : Launch} {a1 : Int32}  {w : am_S} {rr : Int32} {ww : am_S} (hf : f_X6_haste a1 w = some (rr, ww)) : am_Mi G l yX6_haste (Cond.code yX6_haste cX6_haste 4 (some .int) :: am_T) { frames := 3, cells := 0, slots := 0, locals := 192 } [.ref (G.1 + 257), .int a1] w rr ww := by
  refine Met.ofW (cc := cX6_haste) (maxL := 4) (ret := (some .int)) (by decide) rfl ?_
  intro p e s m args below meth c s₁ B hml hv
  obtain ⟨rfl, hx, hb, hr, hts, hown, hlocks, hK, hE, hH⟩ := am_begin B hv
  have hown : s.vm.findClass RX6 = some m.cls := hown
  show W p l e { frames := 3, cells := 0, slots := 0, locals := 192 } s m _ below meth c s.heap [] 0 0 _ _
  have P10 : ∀ (n1 : Nat) (x2 : Int32) (x3 : Int32) (w : am_S) (H : Heap) (locs : List Loc) (ls : Array Slot), am_loop (fun (st : (Int32 × Int32 × am_S)) => f_X6_haste_10b a1 st.1 st.2.1 st.2.2) n1 (x2, x3, w) = some (rr, ww) → am_H G w s H locs → lv_has ls 4 [(0, .ref (G.1 + 257)), (1, .int a1), (2, .int x2), (3, .int x3)] → W p l e { frames := 3, cells := 0, slots := 0, locals := 192 } s m [.ref (G.1 + 257), .int a1].toArray below meth c H locs 0 0 (MQ below (va_Qi (fun (x : Int32) (u : am_S) => x = rr ∧ u = ww) (am_U G) (am_A G)) [.ref (G.1 + 257), .int a1].toArray s 0 0 (am_A G)) (F0 m 10 ls []) := by
    intro n1
    induction n1 with
    | zero =>
      intro x2 x3 w H locs ls hf hH hl
      exact (am_loop_zero hf).elim
    | succ n1 ih1 =>
      intro x2 x3 w H locs ls hf hH hl
      obtain ⟨z1, hf, hk1⟩ := am_loop_succ hf
      have hf : f_X6_haste_10b a1 x2 x3 w = some z1 := hf
      unfold f_X6_haste_10b at hf
      refine lv_iload_n hx hb dX6_haste_10 rfl (lv_at hl 3 rfl) ?_
      refine lv_bipush (v := 10) hx hb dX6_haste_11 (by decide) ?_
      refine lv_icmp_gt (tgt := 45) hx hb dX6_haste_13 (by decide) (fun hc_9 => ?_) (fun hc_9 => ?_)
      · have hf := (if_pos hc_9).symm.trans hf
        obtain ⟨y_10, hf, hzy_10⟩ := am_x_some hf
        rw [hzy_10] at hk1
        have hf := hf.trans (congrArg some (show y_10 = (rr, ww) from hk1))
        refine lv_iconst (v := -1) hx hb dX6_haste_45 (by decide) ?_
        exact am_reti hx hb hr hlocks hH hf dX6_haste_46
      · have hf := (if_neg hc_9).symm.trans hf
        refine lv_iload_n hx hb dX6_haste_16 rfl (lv_at hl 2 rfl) ?_
        refine lv_iload_n hx hb dX6_haste_17 rfl (lv_at hl 1 rfl) ?_
        refine lv_ishr hx hb dX6_haste_18 ?_
        refine lv_iconst (v := 1) hx hb dX6_haste_19 (by decide) ?_
        refine lv_iand hx hb dX6_haste_20 ?_
        refine lv_if_ne (tgt := 26) hx hb dX6_haste_21 (by decide) (fun hc_11 => ?_) (fun hc_11 => ?_)
        · have hf := (if_neg hc_11).symm.trans hf
          refine lv_iload_n hx hb dX6_haste_26 rfl (lv_at hl 2 rfl) ?_
          refine lv_aload_n hx hb dX6_haste_27 rfl (lv_at hl 0 rfl) ?_
          refine am_get hx hb hts hK hown hH (am_o6 (p := 257) (by decide +kernel)) rfl am_inX6 1 (by decide) am_q315 (v := .ref (G.1 + 250)) rfl dX6_haste_28 ?_
          refine lv_iload_n hx hb dX6_haste_31 rfl (lv_at hl 2 rfl) ?_
          obtain ⟨r_14, w_12, hq_13, hf⟩ := am_b2_some hf
          refine am_calli (r := r_14) (w' := w_12) (am_runV (n := 1) (As := [.int x2]) (rest := [.int x2]) ⟨hx, hb, hml, hown, hts⟩ hK hE hH (k_X7_clearAnywhere hq_13) (am_gV am_q947 am_q739 am_q740 am_q9 am_q741) (am_o7 (p := 250) (by decide +kernel)) rfl ⟨rfl, rfl⟩ (by decide +kernel) ⟨Nat.le_of_ble_eq_true rfl, Nat.le_of_ble_eq_true rfl⟩ rfl hl.1 rfl (Nat.le_of_ble_eq_true rfl) ⟨Nat.zero_le _, Nat.zero_le _⟩ dX6_haste_32) hH (fun H locs hH => ?_)
          refine lv_iconst (v := -1) hx hb dX6_haste_35 (by decide) ?_
          refine lv_ixor hx hb dX6_haste_36 ?_
          refine lv_iand hx hb dX6_haste_37 ?_
          obtain ⟨x2_15, hx2_15, hf⟩ := am_v_some hf
          refine am_topi hx2_15 ?_
          refine lv_istore_n (lv' := [(2, .int x2_15), (0, .ref (G.1 + 257)), (1, .int a1), (3, .int x3)]) hx hb dX6_haste_38 rfl hl (by decide) rfl (fun ls hl => ?_)
          obtain ⟨x3_16, hx3_16, hf⟩ := am_v_some hf
          refine lv_iinc (v := x3_16) (lv' := [(3, .int x3_16), (2, .int x2_15), (0, .ref (G.1 + 257)), (1, .int a1)]) hx hb dX6_haste_39 hl (k := 3) rfl (by rw [hx3_16]; rfl) (by decide) rfl (fun ls hl => ?_)
          refine lv_goto (tgt := 10) hx hb dX6_haste_42 (by decide) ?_
          obtain rfl := Option.some.inj hf
          exact ih1 x2_15 x3_16 w_12 H locs ls hk1 hH (lv_sub hl [2, 3, 1, 0] rfl)
        · have hf := (if_pos hc_11).symm.trans hf
          obtain ⟨y_17, hf, hzy_17⟩ := am_x_some hf
          rw [hzy_17] at hk1
          have hf := hf.trans (congrArg some (show y_17 = (rr, ww) from hk1))
          refine lv_iload_n hx hb dX6_haste_24 rfl (lv_at hl 3 rfl) ?_
          exact am_reti hx hb hr hlocks hH hf dX6_haste_25
  refine am_enter (lv := [(0, .ref (G.1 + 257)), (1, .int a1)]) (Nat.le_of_ble_eq_true rfl) rfl (fun ls hl => ?_)
  unfold f_X6_haste at hf
  refine am_start hH (fun H locs hH => ?_)
  refine lv_aload_n hx hb dX6_haste_0 rfl (lv_at hl 0 rfl) ?_
  refine am_get hx hb hts hK hown hH (am_o6 (p := 257) (by decide +kernel)) rfl am_inX6 1 (by decide) am_q315 (v := .ref (G.1 + 250)) rfl dX6_haste_1 ?_
  refine am_get hx hb hts hK hown hH (am_o7 (p := 250) (by decide +kernel)) rfl am_inX7 6 (by decide) am_q270 (v := .int (w.1 250 6)) rfl dX6_haste_4 ?_
  obtain ⟨x2_18, hx2_18, hf⟩ := am_v_some hf
  refine am_topi hx2_18 ?_
  refine lv_istore_n (lv' := [(2, .int x2_18), (0, .ref (G.1 + 257)), (1, .int a1)]) hx hb dX6_haste_7 rfl hl (by decide) rfl (fun ls hl => ?_)
  refine lv_iconst (v := 0) hx hb dX6_haste_8 (by decide) ?_
  refine lv_istore_n (lv' := [(3, .int (0 : Int32)), (2, .int x2_18), (0, .ref (G.1 + 257)), (1, .int a1)]) hx hb dX6_haste_9 rfl hl (by decide) rfl (fun ls hl => ?_)
  exact P10 am_fuel x2_18 (0 : Int32) w H locs ls hf hH (lv_sub hl [2, 3, 1, 0] rfl)

def f_X11_user_17 (a1 : Int32) (a2 : Int32) (w : am_S) : Option (Int32 × am_S) :=
  none
def f_X11_user (a1 : Int32) (a2 : Int32) (w : am_S) : Option (Int32 × am_S) :=
  am_b2 (f_X11_noUser a1 w) fun r_27 w_25 => if r_27 = 0 then (if a2 < 0 then (f_X11_user_17 a1 a2 w_25) else (if a2 ≤ (5 : Int32) then ((if a2 = (0 : Int32) then (am_chk a1 10 (some (w_25.1 13 a1.toNatClampNeg, w_25))) else (if a2 = (1 : Int32) then (am_chk a1 10 (some (w_25.1 14 a1.toNatClampNeg, w_25))) else (if a2 = (2 : Int32) then (am_chk a1 10 (some (w_25.1 15 a1.toNatClampNeg, w_25))) else (if a2 = (3 : Int32) then (am_chk a1 10 (am_b2 (f_J13_bitCount_95d88 (w_25.2.1 25 a1.toNatClampNeg) w_25) fun r_42 w_40 => some (r_42, w_40))) else (if a2 = (4 : Int32) then (am_chk a1 10 (some (w_25.1 24 a1.toNatClampNeg, w_25))) else (am_b1 (f_X7_lookAt 23 w_25) fun w_44 => am_b2 (f_X6_haste a1 w_44) fun r_48 w_46 => some (r_48, w_46)))))))) else (f_X11_user_17 a1 a2 w_25))) else (f_X11_user_17 a1 a2 w_25)
set_option maxRecDepth 100000 in
set_option maxHeartbeats 4000000 in
theorem k_X11_user {G : am_G} {l : Launch} {a1 : Int32} {a2 : Int32}  {w : am_S} {rr : Int32} {ww : am_S} (hf : f_X11_user a1 a2 w = some (rr, ww)) : am_Mi G l yX11_user (Cond.code yX11_user cX11_user 3 (some .int) :: am_T) { frames := 4, cells := 0, slots := 0, locals := 256 } [.ref (G.1 + 0), .int a1, .int a2] w rr ww := by
  refine Met.ofW (cc := cX11_user) (maxL := 3) (ret := (some .int)) (by decide) rfl ?_
  intro p e s m args below meth c s₁ B hml hv
  obtain ⟨rfl, hx, hb, hr, hts, hown, hlocks, hK, hE, hH⟩ := am_begin B hv
  have hown : s.vm.findClass RX11 = some m.cls := hown
  show W p l e { frames := 4, cells := 0, slots := 0, locals := 256 } s m _ below meth c s.heap [] 0 0 _ _
  have P17 : ∀ (w : am_S) (H : Heap) (locs : List Loc) (ls : Array Slot), f_X11_user_17 a1 a2 w = some (rr, ww) → am_H G w s H locs → lv_has ls 3 [] → W p l e { frames := 4, cells := 0, slots := 0, locals := 256 } s m [.ref (G.1 + 0), .int a1, .int a2].toArray below meth c H locs 0 0 (MQ below (va_Qi (fun (x : Int32) (u : am_S) => x = rr ∧ u = ww) (am_U G) (am_A G)) [.ref (G.1 + 0), .int a1, .int a2].toArray s 0 0 (am_A G)) (F0 m 17 ls []) := by
    intro w H locs ls hf hH hl
    unfold f_X11_user_17 at hf
    cases hf
  refine am_enter (lv := [(0, .ref (G.1 + 0)), (1, .int a1), (2, .int a2)]) (Nat.le_of_ble_eq_true rfl) rfl (fun ls hl => ?_)
  unfold f_X11_user at hf
  refine am_start hH (fun H locs hH => ?_)
  refine lv_aload_n hx hb dX11_user_0 rfl (lv_at hl 0 rfl) ?_
  refine lv_iload_n hx hb dX11_user_1 rfl (lv_at hl 1 rfl) ?_
  obtain ⟨r_27, w_25, hq_26, hf⟩ := am_b2_some hf
  refine am_calli (r := r_27) (w' := w_25) (am_runV (n := 1) (As := [.int a1]) (rest := []) ⟨hx, hb, hml, hown, hts⟩ hK hE hH (k_X11_noUser hq_26) (am_gV am_q641 am_q643 am_qs12 am_q1 am_q644) (am_o11 (p := 0) (by decide +kernel)) rfl ⟨rfl, rfl⟩ (by decide +kernel) ⟨Nat.le_of_ble_eq_true rfl, Nat.le_of_ble_eq_true rfl⟩ rfl hl.1 rfl (Nat.le_of_ble_eq_true rfl) ⟨Nat.zero_le _, Nat.zero_le _⟩ dX11_user_2) hH (fun H locs hH => ?_)
  refine lv_if_ne (tgt := 17) hx hb dX11_user_5 (by decide) (fun hc_28 => ?_) (fun hc_28 => ?_)
  · have hf := (if_neg hc_28).symm.trans hf
    exact P17 w_25 H locs ls hf hH (lv_sub hl [] rfl)
  · have hf := (if_pos hc_28).symm.trans hf
    refine lv_iload_n hx hb dX11_user_8 rfl (lv_at hl 2 rfl) ?_
    refine lv_if_lt (tgt := 17) hx hb dX11_user_9 (by decide) (fun hc_29 => ?_) (fun hc_29 => ?_)
    · have hf := (if_pos hc_29).symm.trans hf
      exact P17 w_25 H locs ls hf hH (lv_sub hl [] rfl)
    · have hf := (if_neg hc_29).symm.trans hf
      refine lv_iload_n hx hb dX11_user_12 rfl (lv_at hl 2 rfl) ?_
      refine lv_iconst (v := 5) hx hb dX11_user_13 (by decide) ?_
      refine lv_icmp_le (tgt := 25) hx hb dX11_user_14 (by decide) (fun hc_30 => ?_) (fun hc_30 => ?_)
      · have hf := (if_pos hc_30).symm.trans hf
        refine lv_iload_n hx hb dX11_user_25 rfl (lv_at hl 2 rfl) ?_
        by_cases he_31 : a2 = (0 : Int32)
        · have hf := (if_pos he_31).symm.trans hf
          refine lv_tableIn (off := 34) (tgt := 60) hx hb dX11_user_26 (by rw [he_31]; decide) (by rw [he_31]; decide) (by rw [he_31]; rfl) (by decide) ?_
          refine lv_aload_n hx hb dX11_user_60 rfl (lv_at hl 0 rfl) ?_
          refine am_get hx hb hts hK hown hH (am_o11 (p := 0) (by decide +kernel)) rfl am_inX11 2 (by decide) am_q333 (v := .ref (G.1 + 11)) rfl dX11_user_61 ?_
          refine am_get hx hb hts hK hown hH (am_o1 (p := 11) (by decide +kernel)) rfl am_inX1 1 (by decide) am_q74 (v := .ref (G.1 + 13)) rfl dX11_user_64 ?_
          refine lv_iload_n hx hb dX11_user_67 rfl (lv_at hl 1 rfl) ?_
          obtain ⟨hi_36, hf⟩ := am_chk_some hf
          refine am_iald hx hb hK hH (am_ai_of (N := 10) (by decide +kernel)) hi_36 dX11_user_68 ?_
          exact am_reti hx hb hr hlocks hH hf dX11_user_69
        have hf := (if_neg he_31).symm.trans hf
        by_cases he_32 : a2 = (1 : Int32)
        · have hf := (if_pos he_32).symm.trans hf
          refine lv_tableIn (off := 44) (tgt := 70) hx hb dX11_user_26 (by rw [he_32]; decide) (by rw [he_32]; decide) (by rw [he_32]; rfl) (by decide) ?_
          refine lv_aload_n hx hb dX11_user_70 rfl (lv_at hl 0 rfl) ?_
          refine am_get hx hb hts hK hown hH (am_o11 (p := 0) (by decide +kernel)) rfl am_inX11 2 (by decide) am_q333 (v := .ref (G.1 + 11)) rfl dX11_user_71 ?_
          refine am_get hx hb hts hK hown hH (am_o1 (p := 11) (by decide +kernel)) rfl am_inX1 2 (by decide) am_q77 (v := .ref (G.1 + 14)) rfl dX11_user_74 ?_
          refine lv_iload_n hx hb dX11_user_77 rfl (lv_at hl 1 rfl) ?_
          obtain ⟨hi_37, hf⟩ := am_chk_some hf
          refine am_iald hx hb hK hH (am_ai_of (N := 10) (by decide +kernel)) hi_37 dX11_user_78 ?_
          exact am_reti hx hb hr hlocks hH hf dX11_user_79
        have hf := (if_neg he_32).symm.trans hf
        by_cases he_33 : a2 = (2 : Int32)
        · have hf := (if_pos he_33).symm.trans hf
          refine lv_tableIn (off := 54) (tgt := 80) hx hb dX11_user_26 (by rw [he_33]; decide) (by rw [he_33]; decide) (by rw [he_33]; rfl) (by decide) ?_
          refine lv_aload_n hx hb dX11_user_80 rfl (lv_at hl 0 rfl) ?_
          refine am_get hx hb hts hK hown hH (am_o11 (p := 0) (by decide +kernel)) rfl am_inX11 2 (by decide) am_q333 (v := .ref (G.1 + 11)) rfl dX11_user_81 ?_
          refine am_get hx hb hts hK hown hH (am_o1 (p := 11) (by decide +kernel)) rfl am_inX1 3 (by decide) am_q80 (v := .ref (G.1 + 15)) rfl dX11_user_84 ?_
          refine lv_iload_n hx hb dX11_user_87 rfl (lv_at hl 1 rfl) ?_
          obtain ⟨hi_38, hf⟩ := am_chk_some hf
          refine am_iald hx hb hK hH (am_ai_of (N := 10) (by decide +kernel)) hi_38 dX11_user_88 ?_
          exact am_reti hx hb hr hlocks hH hf dX11_user_89
        have hf := (if_neg he_33).symm.trans hf
        by_cases he_34 : a2 = (3 : Int32)
        · have hf := (if_pos he_34).symm.trans hf
          refine lv_tableIn (off := 64) (tgt := 90) hx hb dX11_user_26 (by rw [he_34]; decide) (by rw [he_34]; decide) (by rw [he_34]; rfl) (by decide) ?_
          refine lv_aload_n hx hb dX11_user_90 rfl (lv_at hl 0 rfl) ?_
          refine am_get hx hb hts hK hown hH (am_o11 (p := 0) (by decide +kernel)) rfl am_inX11 5 (by decide) am_q336 (v := .ref (G.1 + 23)) rfl dX11_user_91 ?_
          refine am_get hx hb hts hK hown hH (am_o9 (p := 23) (by decide +kernel)) rfl am_inX9 1 (by decide) am_q179 (v := .ref (G.1 + 25)) rfl dX11_user_94 ?_
          refine lv_iload_n hx hb dX11_user_97 rfl (lv_at hl 1 rfl) ?_
          obtain ⟨hi_39, hf⟩ := am_chk_some hf
          refine am_lald hx hb hK hH (am_al_of (N := 10) (by decide +kernel)) hi_39 dX11_user_98 ?_
          obtain ⟨r_42, w_40, hq_41, hf⟩ := am_b2_some hf
          refine am_calli (r := r_42) (w' := w_40) (am_runS (n := 1) (As := [.long (w_25.2.1 25 a1.toNatClampNeg)]) (rest := []) ⟨hx, hb, hml, hown, hts⟩ hK hE hH (k_J13_bitCount_95d88 hq_41) (am_gS am_q988 am_q850 am_q28 am_q851) ⟨rfl, rfl⟩ (by decide +kernel) ⟨Nat.le_of_ble_eq_true rfl, Nat.le_of_ble_eq_true rfl⟩ rfl hl.1 rfl (Nat.le_of_ble_eq_true rfl) ⟨Nat.zero_le _, Nat.zero_le _⟩ dX11_user_99) hH (fun H locs hH => ?_)
          exact am_reti hx hb hr hlocks hH hf dX11_user_102
        have hf := (if_neg he_34).symm.trans hf
        by_cases he_35 : a2 = (4 : Int32)
        · have hf := (if_pos he_35).symm.trans hf
          refine lv_tableIn (off := 77) (tgt := 103) hx hb dX11_user_26 (by rw [he_35]; decide) (by rw [he_35]; decide) (by rw [he_35]; rfl) (by decide) ?_
          refine lv_aload_n hx hb dX11_user_103 rfl (lv_at hl 0 rfl) ?_
          refine am_get hx hb hts hK hown hH (am_o11 (p := 0) (by decide +kernel)) rfl am_inX11 5 (by decide) am_q336 (v := .ref (G.1 + 23)) rfl dX11_user_104 ?_
          refine am_get hx hb hts hK hown hH (am_o9 (p := 23) (by decide +kernel)) rfl am_inX9 0 (by decide) am_q176 (v := .ref (G.1 + 24)) rfl dX11_user_107 ?_
          refine lv_iload_n hx hb dX11_user_110 rfl (lv_at hl 1 rfl) ?_
          obtain ⟨hi_43, hf⟩ := am_chk_some hf
          refine am_iald hx hb hK hH (am_ai_of (N := 10) (by decide +kernel)) hi_43 dX11_user_111 ?_
          exact am_reti hx hb hr hlocks hH hf dX11_user_112
        have hf := (if_neg he_35).symm.trans hf
        have nhe_31 := am_tne (k := 0) (0 : Int32) (by decide) he_31
        have nhe_32 := am_tne (k := 1) (1 : Int32) (by decide) he_32
        have nhe_33 := am_tne (k := 2) (2 : Int32) (by decide) he_33
        have nhe_34 := am_tne (k := 3) (3 : Int32) (by decide) he_34
        have nhe_35 := am_tne (k := 4) (4 : Int32) (by decide) he_35
        refine lv_tableOut (tgt := 113) hx hb dX11_user_26 (by omega) (by decide) ?_
        refine lv_aload_n hx hb dX11_user_113 rfl (lv_at hl 0 rfl) ?_
        refine am_get hx hb hts hK hown hH (am_o11 (p := 0) (by decide +kernel)) rfl am_inX11 13 (by decide) am_q344 (v := .ref (G.1 + 250)) rfl dX11_user_114 ?_
        refine lv_aload_n hx hb dX11_user_117 rfl (lv_at hl 0 rfl) ?_
        refine am_get hx hb hts hK hown hH (am_o11 (p := 0) (by decide +kernel)) rfl am_inX11 5 (by decide) am_q336 (v := .ref (G.1 + 23)) rfl dX11_user_118 ?_
        obtain ⟨w_44, hq_45, hf⟩ := am_b1_some hf
        refine am_callv (w' := w_44) (am_runV (n := 1) (As := [.ref (G.1 + 23)]) (rest := []) ⟨hx, hb, hml, hown, hts⟩ hK hE hH (k_X7_lookAt (by decide +kernel) hq_45) (am_gV am_q670 am_q671 am_q672 am_q9 am_q673) (am_o7 (p := 250) (by decide +kernel)) rfl ⟨rfl, rfl⟩ (by decide +kernel) ⟨Nat.le_of_ble_eq_true rfl, Nat.le_of_ble_eq_true rfl⟩ rfl hl.1 rfl (Nat.le_of_ble_eq_true rfl) ⟨Nat.zero_le _, Nat.zero_le _⟩ dX11_user_121) hH (fun H locs hH => ?_)
        refine lv_aload_n hx hb dX11_user_124 rfl (lv_at hl 0 rfl) ?_
        refine am_get hx hb hts hK hown hH (am_o11 (p := 0) (by decide +kernel)) rfl am_inX11 15 (by decide) am_q346 (v := .ref (G.1 + 257)) rfl dX11_user_125 ?_
        refine lv_iload_n hx hb dX11_user_128 rfl (lv_at hl 1 rfl) ?_
        obtain ⟨r_48, w_46, hq_47, hf⟩ := am_b2_some hf
        refine am_calli (r := r_48) (w' := w_46) (am_runV (n := 1) (As := [.int a1]) (rest := []) ⟨hx, hb, hml, hown, hts⟩ hK hE hH (k_X6_haste hq_47) (am_gV am_q1309 am_q1310 am_q1311 am_q11 am_q1312) (am_o6 (p := 257) (by decide +kernel)) rfl ⟨rfl, rfl⟩ (by decide +kernel) ⟨Nat.le_of_ble_eq_true rfl, Nat.le_of_ble_eq_true rfl⟩ rfl hl.1 rfl (Nat.le_of_ble_eq_true rfl) ⟨Nat.zero_le _, Nat.zero_le _⟩ dX11_user_129) hH (fun H locs hH => ?_)
        exact am_reti hx hb hr hlocks hH hf dX11_user_132
      · have hf := (if_neg hc_30).symm.trans hf
        exact P17 w_25 H locs ls hf hH (lv_sub hl [] rfl)

def f_X11_weight_31 (a1 : Int32) (s0 : Int32) (w : am_S) : Option (Int32 × am_S) :=
  some (s0, w)
def f_X11_weight_18 (a1 : Int32) (w : am_S) : Option (Int32 × am_S) :=
  f_X11_weight_31 a1 (-1 : Int32) w
def f_X11_weight (a1 : Int32) (w : am_S) : Option (Int32 × am_S) :=
  am_b2 (f_X11_noField w) fun r_10 w_8 => if r_10 = 0 then (if a1 < (1 : Int32) then (f_X11_weight_18 a1 w_8) else (if a1 ≤ (6 : Int32) then (am_chk a1 7 (f_X11_weight_31 a1 (w_8.1 18 a1.toNatClampNeg) w_8)) else (f_X11_weight_18 a1 w_8))) else (f_X11_weight_18 a1 w_8)
set_option maxRecDepth 100000 in
set_option maxHeartbeats 4000000 in
theorem k_X11_weight {G : am_G} {l : Launch} {a1 : Int32}  {w : am_S} {rr : Int32} {ww : am_S} (hf : f_X11_weight a1 w = some (rr, ww)) : am_Mi G l yX11_weight (Cond.code yX11_weight cX11_weight 2 (some .int) :: am_T) { frames := 1, cells := 0, slots := 0, locals := 64 } [.ref (G.1 + 0), .int a1] w rr ww := by
  refine Met.ofW (cc := cX11_weight) (maxL := 2) (ret := (some .int)) (by decide) rfl ?_
  intro p e s m args below meth c s₁ B hml hv
  obtain ⟨rfl, hx, hb, hr, hts, hown, hlocks, hK, hE, hH⟩ := am_begin B hv
  have hown : s.vm.findClass RX11 = some m.cls := hown
  show W p l e { frames := 1, cells := 0, slots := 0, locals := 64 } s m _ below meth c s.heap [] 0 0 _ _
  have P31 : ∀ (s0 : Int32) (w : am_S) (H : Heap) (locs : List Loc) (ls : Array Slot), f_X11_weight_31 a1 s0 w = some (rr, ww) → am_H G w s H locs → lv_has ls 2 [] → W p l e { frames := 1, cells := 0, slots := 0, locals := 64 } s m [.ref (G.1 + 0), .int a1].toArray below meth c H locs 0 0 (MQ below (va_Qi (fun (x : Int32) (u : am_S) => x = rr ∧ u = ww) (am_U G) (am_A G)) [.ref (G.1 + 0), .int a1].toArray s 0 0 (am_A G)) (F0 m 31 ls [.int s0]) := by
    intro s0 w H locs ls hf hH hl
    unfold f_X11_weight_31 at hf
    exact am_reti hx hb hr hlocks hH hf dX11_weight_31
  have P18 : ∀ (w : am_S) (H : Heap) (locs : List Loc) (ls : Array Slot), f_X11_weight_18 a1 w = some (rr, ww) → am_H G w s H locs → lv_has ls 2 [] → W p l e { frames := 1, cells := 0, slots := 0, locals := 64 } s m [.ref (G.1 + 0), .int a1].toArray below meth c H locs 0 0 (MQ below (va_Qi (fun (x : Int32) (u : am_S) => x = rr ∧ u = ww) (am_U G) (am_A G)) [.ref (G.1 + 0), .int a1].toArray s 0 0 (am_A G)) (F0 m 18 ls []) := by
    intro w H locs ls hf hH hl
    unfold f_X11_weight_18 at hf
    refine lv_iconst (v := -1) hx hb dX11_weight_18 (by decide) ?_
    refine lv_goto (tgt := 31) hx hb dX11_weight_19 (by decide) ?_
    exact P31 (-1 : Int32) w H locs ls hf hH (lv_sub hl [] rfl)
  refine am_enter (lv := [(0, .ref (G.1 + 0)), (1, .int a1)]) (Nat.le_of_ble_eq_true rfl) rfl (fun ls hl => ?_)
  unfold f_X11_weight at hf
  refine am_start hH (fun H locs hH => ?_)
  refine lv_aload_n hx hb dX11_weight_0 rfl (lv_at hl 0 rfl) ?_
  obtain ⟨r_10, w_8, hq_9, hf⟩ := am_b2_some hf
  refine am_calli (r := r_10) (w' := w_8) (am_runV (n := 0) (As := []) (rest := []) ⟨hx, hb, hml, hown, hts⟩ hK hE hH (k_X11_noField hq_9) (am_gV am_q625 am_q627 am_qs11 am_q1 am_q628) (am_o11 (p := 0) (by decide +kernel)) rfl ⟨rfl, rfl⟩ (by decide +kernel) ⟨Nat.le_of_ble_eq_true rfl, Nat.le_of_ble_eq_true rfl⟩ rfl hl.1 rfl (Nat.le_of_ble_eq_true rfl) ⟨Nat.zero_le _, Nat.zero_le _⟩ dX11_weight_1) hH (fun H locs hH => ?_)
  refine lv_if_ne (tgt := 18) hx hb dX11_weight_4 (by decide) (fun hc_11 => ?_) (fun hc_11 => ?_)
  · have hf := (if_neg hc_11).symm.trans hf
    exact P18 w_8 H locs ls hf hH (lv_sub hl [] rfl)
  · have hf := (if_pos hc_11).symm.trans hf
    refine lv_iload_n hx hb dX11_weight_7 rfl (lv_at hl 1 rfl) ?_
    refine lv_iconst (v := 1) hx hb dX11_weight_8 (by decide) ?_
    refine lv_icmp_lt (tgt := 18) hx hb dX11_weight_9 (by decide) (fun hc_12 => ?_) (fun hc_12 => ?_)
    · have hf := (if_pos hc_12).symm.trans hf
      exact P18 w_8 H locs ls hf hH (lv_sub hl [] rfl)
    · have hf := (if_neg hc_12).symm.trans hf
      refine lv_iload_n hx hb dX11_weight_12 rfl (lv_at hl 1 rfl) ?_
      refine lv_bipush (v := 6) hx hb dX11_weight_13 (by decide) ?_
      refine lv_icmp_le (tgt := 22) hx hb dX11_weight_15 (by decide) (fun hc_13 => ?_) (fun hc_13 => ?_)
      · have hf := (if_pos hc_13).symm.trans hf
        refine lv_aload_n hx hb dX11_weight_22 rfl (lv_at hl 0 rfl) ?_
        refine am_get hx hb hts hK hown hH (am_o11 (p := 0) (by decide +kernel)) rfl am_inX11 2 (by decide) am_q333 (v := .ref (G.1 + 11)) rfl dX11_weight_23 ?_
        refine am_get hx hb hts hK hown hH (am_o1 (p := 11) (by decide +kernel)) rfl am_inX1 6 (by decide) am_q88 (v := .ref (G.1 + 18)) rfl dX11_weight_26 ?_
        refine lv_iload_n hx hb dX11_weight_29 rfl (lv_at hl 1 rfl) ?_
        obtain ⟨hi_14, hf⟩ := am_chk_some hf
        refine am_iald hx hb hK hH (am_ai_of (N := 7) (by decide +kernel)) hi_14 dX11_weight_30 ?_
        exact P31 (w_8.1 18 a1.toNatClampNeg) w_8 H locs ls hf hH (lv_sub hl [] rfl)
      · have hf := (if_neg hc_13).symm.trans hf
        exact P18 w_8 H locs ls hf hH (lv_sub hl [] rfl)

def f_X11_liveOneYear_147  (w : am_S) : Option am_S :=
  some w
def f_X11_liveOneYear_101  (x2 : Int32) (s0 : Int32) (w : am_S) : Option am_S :=
  am_b2 (f_X11_attempt s0 x2 (-1 : Int32) (0 : Int64) w) fun r_41 w_39 => f_X11_liveOneYear_147 w_39
def f_X11_liveOneYear  (w : am_S) : Option am_S :=
  am_b2 (f_X0_cast 249 (8 : Int32) w) fun r_44 w_42 => if (2 : Int32) ≤ r_44 then (if r_44 = (2 : Int32) then (am_b2 (f_X11_attempt (1 : Int32) (-1 : Int32) (-1 : Int32) (0 : Int64) w_42) fun r_73 w_71 => f_X11_liveOneYear_147 w_71) else (if r_44 = (7 : Int32) then (am_b2 (f_X0_cast 249 (30 : Int32) w_42) fun r_67 w_65 => am_b2 (f_X11_attempt (5 : Int32) r_67 (-1 : Int32) (0 : Int64) w_65) fun r_70 w_68 => f_X11_liveOneYear_147 w_68) else (am_b2 (f_X0_cast 249 (w_42.1 11 11) w_42) fun r_50 w_48 => if (5 : Int32) ≤ r_44 then (am_b2 (f_X1_reachFrom 11 r_50 w_48) fun r_54 w_52 => am_b2 (f_X1_reachTo 11 r_50 w_52) fun r_57 w_55 => am_b2 (f_X0_cast 249 (r_57 - r_54) w_55) fun r_60 w_58 => am_b2 (f_X11_attempt (4 : Int32) r_50 (r_54 + r_60) (0 : Int64) w_58) fun r_63 w_61 => f_X11_liveOneYear_147 w_61) else (if r_44 = (3 : Int32) then (f_X11_liveOneYear_101 r_50 (2 : Int32) w_48) else (f_X11_liveOneYear_101 r_50 (3 : Int32) w_48))))) else (am_b2 (f_X11_attempt (0 : Int32) (-1 : Int32) (-1 : Int32) (0 : Int64) w_42) fun r_76 w_74 => f_X11_liveOneYear_147 w_74)
set_option maxRecDepth 100000 in
set_option maxHeartbeats 4000000 in
theorem k_X11_liveOneYear {G : am_G} {l : Launch}   {w : am_S} {ww : am_S} (hf : f_X11_liveOneYear  w = some ww) : am_Mv G l yX11_liveOneYear (Cond.code yX11_liveOneYear cX11_liveOneYear 4 none :: am_T) { frames := 6, cells := 0, slots := 0, locals := 384 } [.ref (G.1 + 0)] w ww := by
  refine Met.ofW (cc := cX11_liveOneYear) (maxL := 4) (ret := none) (by decide) rfl ?_
  intro p e s m args below meth c s₁ B hml hv
  obtain ⟨rfl, hx, hb, hr, hts, hown, hlocks, hK, hE, hH⟩ := am_begin B hv
  have hown : s.vm.findClass RX11 = some m.cls := hown
  show W p l e { frames := 6, cells := 0, slots := 0, locals := 384 } s m _ below meth c s.heap [] 0 0 _ _
  have P147 : ∀ (w : am_S) (H : Heap) (locs : List Loc) (ls : Array Slot), f_X11_liveOneYear_147 w = some ww → am_H G w s H locs → lv_has ls 4 [] → W p l e { frames := 6, cells := 0, slots := 0, locals := 384 } s m [.ref (G.1 + 0)].toArray below meth c H locs 0 0 (MQ below (va_Qv (fun (u : am_S) => u = ww) (am_U G) (am_A G)) [.ref (G.1 + 0)].toArray s 0 0 (am_A G)) (F0 m 147 ls []) := by
    intro w H locs ls hf hH hl
    unfold f_X11_liveOneYear_147 at hf
    exact am_retv hx hb hr hlocks hH hf dX11_liveOneYear_147
  have P101 : ∀ (x2 : Int32) (s0 : Int32) (w : am_S) (H : Heap) (locs : List Loc) (ls : Array Slot), f_X11_liveOneYear_101 x2 s0 w = some ww → am_H G w s H locs → lv_has ls 4 [(2, .int x2)] → W p l e { frames := 6, cells := 0, slots := 0, locals := 384 } s m [.ref (G.1 + 0)].toArray below meth c H locs 0 0 (MQ below (va_Qv (fun (u : am_S) => u = ww) (am_U G) (am_A G)) [.ref (G.1 + 0)].toArray s 0 0 (am_A G)) (F0 m 101 ls [.int s0, .ref (G.1 + 0)]) := by
    intro x2 s0 w H locs ls hf hH hl
    unfold f_X11_liveOneYear_101 at hf
    refine lv_iload_n hx hb dX11_liveOneYear_101 rfl (lv_at hl 0 rfl) ?_
    refine lv_iconst (v := -1) hx hb dX11_liveOneYear_102 (by decide) ?_
    refine lv_lconst (v := 0) hx hb dX11_liveOneYear_103 (by decide) ?_
    obtain ⟨r_41, w_39, hq_40, hf⟩ := am_b2_some hf
    refine am_calli (r := r_41) (w' := w_39) (am_runV (n := 4) (As := [.int s0, .int x2, .int (-1 : Int32), .long (0 : Int64)]) (rest := []) ⟨hx, hb, hml, hown, hts⟩ hK hE hH (k_X11_attempt hq_40) (am_gV am_q729 am_q731 am_qs17 am_q1 am_q732) (am_o11 (p := 0) (by decide +kernel)) rfl ⟨rfl, rfl⟩ (by decide +kernel) ⟨Nat.le_of_ble_eq_true rfl, Nat.le_of_ble_eq_true rfl⟩ rfl hl.1 rfl (Nat.le_of_ble_eq_true rfl) ⟨Nat.zero_le _, Nat.zero_le _⟩ dX11_liveOneYear_104) hH (fun H locs hH => ?_)
    refine lv_pop hx hb dX11_liveOneYear_107 rfl ?_
    refine lv_goto (tgt := 147) hx hb dX11_liveOneYear_108 (by decide) ?_
    exact P147 w_39 H locs ls hf hH (lv_sub hl [] rfl)
  refine am_enter (lv := [(0, .ref (G.1 + 0))]) (Nat.le_of_ble_eq_true rfl) rfl (fun ls hl => ?_)
  unfold f_X11_liveOneYear at hf
  refine am_start hH (fun H locs hH => ?_)
  refine lv_aload_n hx hb dX11_liveOneYear_0 rfl (lv_at hl 0 rfl) ?_
  refine am_get hx hb hts hK hown hH (am_o11 (p := 0) (by decide +kernel)) rfl am_inX11 12 (by decide) am_q343 (v := .ref (G.1 + 249)) rfl dX11_liveOneYear_1 ?_
  refine lv_bipush (v := 8) hx hb dX11_liveOneYear_4 (by decide) ?_
  obtain ⟨r_44, w_42, hq_43, hf⟩ := am_b2_some hf
  refine am_calli (r := r_44) (w' := w_42) (am_runV (n := 1) (As := [.int (8 : Int32)]) (rest := []) ⟨hx, hb, hml, hown, hts⟩ hK hE hH (k_X0_cast (by decide +kernel) hq_43) (am_gV am_q908 am_q835 am_q836 am_q8 am_q837) (am_o0 (p := 249) (by decide +kernel)) rfl ⟨rfl, rfl⟩ (by decide +kernel) ⟨Nat.le_of_ble_eq_true rfl, Nat.le_of_ble_eq_true rfl⟩ rfl hl.1 rfl (Nat.le_of_ble_eq_true rfl) ⟨Nat.zero_le _, Nat.zero_le _⟩ dX11_liveOneYear_6) hH (fun H locs hH => ?_)
  refine lv_istore_n (lv' := [(1, .int r_44), (0, .ref (G.1 + 0))]) hx hb dX11_liveOneYear_9 rfl hl (by decide) rfl (fun ls hl => ?_)
  refine lv_iload_n hx hb dX11_liveOneYear_10 rfl (lv_at hl 0 rfl) ?_
  refine lv_iconst (v := 2) hx hb dX11_liveOneYear_11 (by decide) ?_
  refine lv_icmp_ge (tgt := 27) hx hb dX11_liveOneYear_12 (by decide) (fun hc_45 => ?_) (fun hc_45 => ?_)
  · have hf := (if_pos hc_45).symm.trans hf
    refine lv_iload_n hx hb dX11_liveOneYear_27 rfl (lv_at hl 0 rfl) ?_
    refine lv_iconst (v := 2) hx hb dX11_liveOneYear_28 (by decide) ?_
    refine lv_icmp_ne (tgt := 44) hx hb dX11_liveOneYear_29 (by decide) (fun hc_46 => ?_) (fun hc_46 => ?_)
    · have hf := (if_neg hc_46).symm.trans hf
      refine lv_iload_n hx hb dX11_liveOneYear_44 rfl (lv_at hl 0 rfl) ?_
      refine lv_bipush (v := 7) hx hb dX11_liveOneYear_45 (by decide) ?_
      refine lv_icmp_ne (tgt := 70) hx hb dX11_liveOneYear_47 (by decide) (fun hc_47 => ?_) (fun hc_47 => ?_)
      · have hf := (if_neg hc_47).symm.trans hf
        refine lv_aload_n hx hb dX11_liveOneYear_70 rfl (lv_at hl 1 rfl) ?_
        refine am_get hx hb hts hK hown hH (am_o11 (p := 0) (by decide +kernel)) rfl am_inX11 12 (by decide) am_q343 (v := .ref (G.1 + 249)) rfl dX11_liveOneYear_71 ?_
        refine lv_aload_n hx hb dX11_liveOneYear_74 rfl (lv_at hl 1 rfl) ?_
        refine am_get hx hb hts hK hown hH (am_o11 (p := 0) (by decide +kernel)) rfl am_inX11 2 (by decide) am_q333 (v := .ref (G.1 + 11)) rfl dX11_liveOneYear_75 ?_
        refine am_get hx hb hts hK hown hH (am_o1 (p := 11) (by decide +kernel)) rfl am_inX1 11 (by decide) am_q106 (v := .int (w_42.1 11 11)) rfl dX11_liveOneYear_78 ?_
        obtain ⟨r_50, w_48, hq_49, hf⟩ := am_b2_some hf
        refine am_calli (r := r_50) (w' := w_48) (am_runV (n := 1) (As := [.int (w_42.1 11 11)]) (rest := []) ⟨hx, hb, hml, hown, hts⟩ hK hE hH (k_X0_cast (by decide +kernel) hq_49) (am_gV am_q908 am_q835 am_q836 am_q8 am_q837) (am_o0 (p := 249) (by decide +kernel)) rfl ⟨rfl, rfl⟩ (by decide +kernel) ⟨Nat.le_of_ble_eq_true rfl, Nat.le_of_ble_eq_true rfl⟩ rfl hl.1 rfl (Nat.le_of_ble_eq_true rfl) ⟨Nat.zero_le _, Nat.zero_le _⟩ dX11_liveOneYear_81) hH (fun H locs hH => ?_)
        refine lv_istore_n (lv' := [(2, .int r_50), (1, .int r_44), (0, .ref (G.1 + 0))]) hx hb dX11_liveOneYear_84 rfl hl (by decide) rfl (fun ls hl => ?_)
        refine lv_iload_n hx hb dX11_liveOneYear_85 rfl (lv_at hl 1 rfl) ?_
        refine lv_iconst (v := 5) hx hb dX11_liveOneYear_86 (by decide) ?_
        refine lv_icmp_ge (tgt := 111) hx hb dX11_liveOneYear_87 (by decide) (fun hc_51 => ?_) (fun hc_51 => ?_)
        · have hf := (if_pos hc_51).symm.trans hf
          refine lv_aload_n hx hb dX11_liveOneYear_111 rfl (lv_at hl 2 rfl) ?_
          refine am_get hx hb hts hK hown hH (am_o11 (p := 0) (by decide +kernel)) rfl am_inX11 2 (by decide) am_q333 (v := .ref (G.1 + 11)) rfl dX11_liveOneYear_112 ?_
          refine lv_iload_n hx hb dX11_liveOneYear_115 rfl (lv_at hl 0 rfl) ?_
          obtain ⟨r_54, w_52, hq_53, hf⟩ := am_b2_some hf
          refine am_calli (r := r_54) (w' := w_52) (am_runV (n := 1) (As := [.int r_50]) (rest := []) ⟨hx, hb, hml, hown, hts⟩ hK hE hH (k_X1_reachFrom (by decide +kernel) hq_53) (am_gV am_q909 am_q601 am_q602 am_q3 am_q603) (am_o1 (p := 11) (by decide +kernel)) rfl ⟨rfl, rfl⟩ (by decide +kernel) ⟨Nat.le_of_ble_eq_true rfl, Nat.le_of_ble_eq_true rfl⟩ rfl hl.1 rfl (Nat.le_of_ble_eq_true rfl) ⟨Nat.zero_le _, Nat.zero_le _⟩ dX11_liveOneYear_116) hH (fun H locs hH => ?_)
          refine lv_istore_n (lv' := [(3, .int r_54), (2, .int r_50), (1, .int r_44), (0, .ref (G.1 + 0))]) hx hb dX11_liveOneYear_119 rfl hl (by decide) rfl (fun ls hl => ?_)
          refine lv_aload_n hx hb dX11_liveOneYear_120 rfl (lv_at hl 3 rfl) ?_
          refine lv_iconst (v := 4) hx hb dX11_liveOneYear_121 (by decide) ?_
          refine lv_iload_n hx hb dX11_liveOneYear_122 rfl (lv_at hl 1 rfl) ?_
          refine lv_iload_n hx hb dX11_liveOneYear_123 rfl (lv_at hl 0 rfl) ?_
          refine lv_aload_n hx hb dX11_liveOneYear_124 rfl (lv_at hl 3 rfl) ?_
          refine am_get hx hb hts hK hown hH (am_o11 (p := 0) (by decide +kernel)) rfl am_inX11 12 (by decide) am_q343 (v := .ref (G.1 + 249)) rfl dX11_liveOneYear_125 ?_
          refine lv_aload_n hx hb dX11_liveOneYear_128 rfl (lv_at hl 3 rfl) ?_
          refine am_get hx hb hts hK hown hH (am_o11 (p := 0) (by decide +kernel)) rfl am_inX11 2 (by decide) am_q333 (v := .ref (G.1 + 11)) rfl dX11_liveOneYear_129 ?_
          refine lv_iload_n hx hb dX11_liveOneYear_132 rfl (lv_at hl 1 rfl) ?_
          obtain ⟨r_57, w_55, hq_56, hf⟩ := am_b2_some hf
          refine am_calli (r := r_57) (w' := w_55) (am_runV (n := 1) (As := [.int r_50]) (rest := [.ref (G.1 + 249), .int r_54, .int r_50, .int (4 : Int32), .ref (G.1 + 0)]) ⟨hx, hb, hml, hown, hts⟩ hK hE hH (k_X1_reachTo (by decide +kernel) hq_56) (am_gV am_q910 am_q676 am_q677 am_q3 am_q678) (am_o1 (p := 11) (by decide +kernel)) rfl ⟨rfl, rfl⟩ (by decide +kernel) ⟨Nat.le_of_ble_eq_true rfl, Nat.le_of_ble_eq_true rfl⟩ rfl hl.1 rfl (Nat.le_of_ble_eq_true rfl) ⟨Nat.zero_le _, Nat.zero_le _⟩ dX11_liveOneYear_133) hH (fun H locs hH => ?_)
          refine lv_iload_n hx hb dX11_liveOneYear_136 rfl (lv_at hl 0 rfl) ?_
          refine lv_isub hx hb dX11_liveOneYear_137 ?_
          obtain ⟨r_60, w_58, hq_59, hf⟩ := am_b2_some hf
          refine am_calli (r := r_60) (w' := w_58) (am_runV (n := 1) (As := [.int (r_57 - r_54)]) (rest := [.int r_54, .int r_50, .int (4 : Int32), .ref (G.1 + 0)]) ⟨hx, hb, hml, hown, hts⟩ hK hE hH (k_X0_cast (by decide +kernel) hq_59) (am_gV am_q908 am_q835 am_q836 am_q8 am_q837) (am_o0 (p := 249) (by decide +kernel)) rfl ⟨rfl, rfl⟩ (by decide +kernel) ⟨Nat.le_of_ble_eq_true rfl, Nat.le_of_ble_eq_true rfl⟩ rfl hl.1 rfl (Nat.le_of_ble_eq_true rfl) ⟨Nat.zero_le _, Nat.zero_le _⟩ dX11_liveOneYear_138) hH (fun H locs hH => ?_)
          refine lv_iadd hx hb dX11_liveOneYear_141 ?_
          refine lv_lconst (v := 0) hx hb dX11_liveOneYear_142 (by decide) ?_
          obtain ⟨r_63, w_61, hq_62, hf⟩ := am_b2_some hf
          refine am_calli (r := r_63) (w' := w_61) (am_runV (n := 4) (As := [.int (4 : Int32), .int r_50, .int (r_54 + r_60), .long (0 : Int64)]) (rest := []) ⟨hx, hb, hml, hown, hts⟩ hK hE hH (k_X11_attempt hq_62) (am_gV am_q729 am_q731 am_qs17 am_q1 am_q732) (am_o11 (p := 0) (by decide +kernel)) rfl ⟨rfl, rfl⟩ (by decide +kernel) ⟨Nat.le_of_ble_eq_true rfl, Nat.le_of_ble_eq_true rfl⟩ rfl hl.1 rfl (Nat.le_of_ble_eq_true rfl) ⟨Nat.zero_le _, Nat.zero_le _⟩ dX11_liveOneYear_143) hH (fun H locs hH => ?_)
          refine lv_pop hx hb dX11_liveOneYear_146 rfl ?_
          exact P147 w_61 H locs ls hf hH (lv_sub hl [] rfl)
        · have hf := (if_neg hc_51).symm.trans hf
          refine lv_aload_n hx hb dX11_liveOneYear_90 rfl (lv_at hl 2 rfl) ?_
          refine lv_iload_n hx hb dX11_liveOneYear_91 rfl (lv_at hl 1 rfl) ?_
          refine lv_iconst (v := 3) hx hb dX11_liveOneYear_92 (by decide) ?_
          refine lv_icmp_ne (tgt := 100) hx hb dX11_liveOneYear_93 (by decide) (fun hc_64 => ?_) (fun hc_64 => ?_)
          · have hf := (if_neg hc_64).symm.trans hf
            refine lv_iconst (v := 3) hx hb dX11_liveOneYear_100 (by decide) ?_
            exact P101 r_50 (3 : Int32) w_48 H locs ls hf hH (lv_sub hl [0] rfl)
          · have hf := (if_pos hc_64).symm.trans hf
            refine lv_iconst (v := 2) hx hb dX11_liveOneYear_96 (by decide) ?_
            refine lv_goto (tgt := 101) hx hb dX11_liveOneYear_97 (by decide) ?_
            exact P101 r_50 (2 : Int32) w_48 H locs ls hf hH (lv_sub hl [0] rfl)
      · have hf := (if_pos hc_47).symm.trans hf
        refine lv_aload_n hx hb dX11_liveOneYear_50 rfl (lv_at hl 1 rfl) ?_
        refine lv_iconst (v := 5) hx hb dX11_liveOneYear_51 (by decide) ?_
        refine lv_aload_n hx hb dX11_liveOneYear_52 rfl (lv_at hl 1 rfl) ?_
        refine am_get hx hb hts hK hown hH (am_o11 (p := 0) (by decide +kernel)) rfl am_inX11 12 (by decide) am_q343 (v := .ref (G.1 + 249)) rfl dX11_liveOneYear_53 ?_
        refine lv_bipush (v := 30) hx hb dX11_liveOneYear_56 (by decide) ?_
        obtain ⟨r_67, w_65, hq_66, hf⟩ := am_b2_some hf
        refine am_calli (r := r_67) (w' := w_65) (am_runV (n := 1) (As := [.int (30 : Int32)]) (rest := [.int (5 : Int32), .ref (G.1 + 0)]) ⟨hx, hb, hml, hown, hts⟩ hK hE hH (k_X0_cast (by decide +kernel) hq_66) (am_gV am_q908 am_q835 am_q836 am_q8 am_q837) (am_o0 (p := 249) (by decide +kernel)) rfl ⟨rfl, rfl⟩ (by decide +kernel) ⟨Nat.le_of_ble_eq_true rfl, Nat.le_of_ble_eq_true rfl⟩ rfl hl.1 rfl (Nat.le_of_ble_eq_true rfl) ⟨Nat.zero_le _, Nat.zero_le _⟩ dX11_liveOneYear_58) hH (fun H locs hH => ?_)
        refine lv_iconst (v := -1) hx hb dX11_liveOneYear_61 (by decide) ?_
        refine lv_lconst (v := 0) hx hb dX11_liveOneYear_62 (by decide) ?_
        obtain ⟨r_70, w_68, hq_69, hf⟩ := am_b2_some hf
        refine am_calli (r := r_70) (w' := w_68) (am_runV (n := 4) (As := [.int (5 : Int32), .int r_67, .int (-1 : Int32), .long (0 : Int64)]) (rest := []) ⟨hx, hb, hml, hown, hts⟩ hK hE hH (k_X11_attempt hq_69) (am_gV am_q729 am_q731 am_qs17 am_q1 am_q732) (am_o11 (p := 0) (by decide +kernel)) rfl ⟨rfl, rfl⟩ (by decide +kernel) ⟨Nat.le_of_ble_eq_true rfl, Nat.le_of_ble_eq_true rfl⟩ rfl hl.1 rfl (Nat.le_of_ble_eq_true rfl) ⟨Nat.zero_le _, Nat.zero_le _⟩ dX11_liveOneYear_63) hH (fun H locs hH => ?_)
        refine lv_pop hx hb dX11_liveOneYear_66 rfl ?_
        refine lv_goto (tgt := 147) hx hb dX11_liveOneYear_67 (by decide) ?_
        exact P147 w_68 H locs ls hf hH (lv_sub hl [] rfl)
    · have hf := (if_pos hc_46).symm.trans hf
      refine lv_aload_n hx hb dX11_liveOneYear_32 rfl (lv_at hl 1 rfl) ?_
      refine lv_iconst (v := 1) hx hb dX11_liveOneYear_33 (by decide) ?_
      refine lv_iconst (v := -1) hx hb dX11_liveOneYear_34 (by decide) ?_
      refine lv_iconst (v := -1) hx hb dX11_liveOneYear_35 (by decide) ?_
      refine lv_lconst (v := 0) hx hb dX11_liveOneYear_36 (by decide) ?_
      obtain ⟨r_73, w_71, hq_72, hf⟩ := am_b2_some hf
      refine am_calli (r := r_73) (w' := w_71) (am_runV (n := 4) (As := [.int (1 : Int32), .int (-1 : Int32), .int (-1 : Int32), .long (0 : Int64)]) (rest := []) ⟨hx, hb, hml, hown, hts⟩ hK hE hH (k_X11_attempt hq_72) (am_gV am_q729 am_q731 am_qs17 am_q1 am_q732) (am_o11 (p := 0) (by decide +kernel)) rfl ⟨rfl, rfl⟩ (by decide +kernel) ⟨Nat.le_of_ble_eq_true rfl, Nat.le_of_ble_eq_true rfl⟩ rfl hl.1 rfl (Nat.le_of_ble_eq_true rfl) ⟨Nat.zero_le _, Nat.zero_le _⟩ dX11_liveOneYear_37) hH (fun H locs hH => ?_)
      refine lv_pop hx hb dX11_liveOneYear_40 rfl ?_
      refine lv_goto (tgt := 147) hx hb dX11_liveOneYear_41 (by decide) ?_
      exact P147 w_71 H locs ls hf hH (lv_sub hl [] rfl)
  · have hf := (if_neg hc_45).symm.trans hf
    refine lv_aload_n hx hb dX11_liveOneYear_15 rfl (lv_at hl 1 rfl) ?_
    refine lv_iconst (v := 0) hx hb dX11_liveOneYear_16 (by decide) ?_
    refine lv_iconst (v := -1) hx hb dX11_liveOneYear_17 (by decide) ?_
    refine lv_iconst (v := -1) hx hb dX11_liveOneYear_18 (by decide) ?_
    refine lv_lconst (v := 0) hx hb dX11_liveOneYear_19 (by decide) ?_
    obtain ⟨r_76, w_74, hq_75, hf⟩ := am_b2_some hf
    refine am_calli (r := r_76) (w' := w_74) (am_runV (n := 4) (As := [.int (0 : Int32), .int (-1 : Int32), .int (-1 : Int32), .long (0 : Int64)]) (rest := []) ⟨hx, hb, hml, hown, hts⟩ hK hE hH (k_X11_attempt hq_75) (am_gV am_q729 am_q731 am_qs17 am_q1 am_q732) (am_o11 (p := 0) (by decide +kernel)) rfl ⟨rfl, rfl⟩ (by decide +kernel) ⟨Nat.le_of_ble_eq_true rfl, Nat.le_of_ble_eq_true rfl⟩ rfl hl.1 rfl (Nat.le_of_ble_eq_true rfl) ⟨Nat.zero_le _, Nat.zero_le _⟩ dX11_liveOneYear_20) hH (fun H locs hH => ?_)
    refine lv_pop hx hb dX11_liveOneYear_23 rfl ?_
    refine lv_goto (tgt := 147) hx hb dX11_liveOneYear_24 (by decide) ?_
    exact P147 w_74 H locs ls hf hH (lv_sub hl [] rfl)

def f_X11_years_18 (a1 : Int32) (a2 : Int64) (w : am_S) : Option (Int32 × am_S) :=
  some ((-1 : Int32), w)
def f_X11_years_31b (a1 : Int32) (a2 : Int64) (x4 : Int32) (w : am_S) : Option ((Int32 × am_S) ⊕ (Int32 × am_S)) :=
  if a1 ≤ x4 then (am_x (am_b2 (f_X9_knownCount 23 w) fun r_20 w_18 => some (r_20, w_18))) else (am_b1 (f_X11_liveOneYear w) fun w_21 => am_v (x4 + (1 : Int32)) fun (x4_23 : Int32) => some (.inr (x4_23, w_21)))
def f_X11_years_31 (a1 : Int32) (a2 : Int64) (x4 : Int32) (w : am_S) : Option (Int32 × am_S) :=
  am_loop (fun (st : (Int32 × am_S)) => f_X11_years_31b a1 a2 st.1 st.2) am_fuel (x4, w)
def f_X11_years (a1 : Int32) (a2 : Int64) (w : am_S) : Option (Int32 × am_S) :=
  am_b2 (f_X11_noField w) fun r_26 w_24 => if r_26 = 0 then (if a1 < (1 : Int32) then (f_X11_years_18 a1 a2 w_24) else (if a1 ≤ (40 : Int32) then (am_b1 (f_X0_begin 249 a2 w_24) fun w_30 => f_X11_years_31 a1 a2 (0 : Int32) w_30) else (f_X11_years_18 a1 a2 w_24))) else (f_X11_years_18 a1 a2 w_24)
set_option maxRecDepth 100000 in
set_option maxHeartbeats 4000000 in
theorem k_X11_years {G : am_G} {l : Launch} {a1 : Int32} {a2 : Int64}  {w : am_S} {rr : Int32} {ww : am_S} (hf : f_X11_years a1 a2 w = some (rr, ww)) : am_Mi G l yX11_years (Cond.code yX11_years cX11_years 5 (some .int) :: am_T) { frames := 7, cells := 0, slots := 0, locals := 448 } [.ref (G.1 + 0), .int a1, .long a2] w rr ww := by
  refine Met.ofW (cc := cX11_years) (maxL := 5) (ret := (some .int)) (by decide) rfl ?_
  intro p e s m args below meth c s₁ B hml hv
  obtain ⟨rfl, hx, hb, hr, hts, hown, hlocks, hK, hE, hH⟩ := am_begin B hv
  have hown : s.vm.findClass RX11 = some m.cls := hown
  show W p l e { frames := 7, cells := 0, slots := 0, locals := 448 } s m _ below meth c s.heap [] 0 0 _ _
  have P18 : ∀ (w : am_S) (H : Heap) (locs : List Loc) (ls : Array Slot), f_X11_years_18 a1 a2 w = some (rr, ww) → am_H G w s H locs → lv_has ls 5 [] → W p l e { frames := 7, cells := 0, slots := 0, locals := 448 } s m [.ref (G.1 + 0), .int a1, .long a2].toArray below meth c H locs 0 0 (MQ below (va_Qi (fun (x : Int32) (u : am_S) => x = rr ∧ u = ww) (am_U G) (am_A G)) [.ref (G.1 + 0), .int a1, .long a2].toArray s 0 0 (am_A G)) (F0 m 18 ls []) := by
    intro w H locs ls hf hH hl
    unfold f_X11_years_18 at hf
    refine lv_iconst (v := -1) hx hb dX11_years_18 (by decide) ?_
    exact am_reti hx hb hr hlocks hH hf dX11_years_19
  have P31 : ∀ (n1 : Nat) (x4 : Int32) (w : am_S) (H : Heap) (locs : List Loc) (ls : Array Slot), am_loop (fun (st : (Int32 × am_S)) => f_X11_years_31b a1 a2 st.1 st.2) n1 (x4, w) = some (rr, ww) → am_H G w s H locs → lv_has ls 5 [(0, .ref (G.1 + 0)), (1, .int a1), (4, .int x4)] → W p l e { frames := 7, cells := 0, slots := 0, locals := 448 } s m [.ref (G.1 + 0), .int a1, .long a2].toArray below meth c H locs 0 0 (MQ below (va_Qi (fun (x : Int32) (u : am_S) => x = rr ∧ u = ww) (am_U G) (am_A G)) [.ref (G.1 + 0), .int a1, .long a2].toArray s 0 0 (am_A G)) (F0 m 31 ls []) := by
    intro n1
    induction n1 with
    | zero =>
      intro x4 w H locs ls hf hH hl
      exact (am_loop_zero hf).elim
    | succ n1 ih1 =>
      intro x4 w H locs ls hf hH hl
      obtain ⟨z1, hf, hk1⟩ := am_loop_succ hf
      have hf : f_X11_years_31b a1 a2 x4 w = some z1 := hf
      unfold f_X11_years_31b at hf
      refine lv_iload hx hb dX11_years_31 (lv_at hl 2 rfl) ?_
      refine lv_iload_n hx hb dX11_years_33 rfl (lv_at hl 1 rfl) ?_
      refine lv_icmp_ge (tgt := 47) hx hb dX11_years_34 (by decide) (fun hc_16 => ?_) (fun hc_16 => ?_)
      · have hf := (if_pos hc_16).symm.trans hf
        obtain ⟨y_17, hf, hzy_17⟩ := am_x_some hf
        rw [hzy_17] at hk1
        have hf := hf.trans (congrArg some (show y_17 = (rr, ww) from hk1))
        refine lv_aload_n hx hb dX11_years_47 rfl (lv_at hl 0 rfl) ?_
        refine am_get hx hb hts hK hown hH (am_o11 (p := 0) (by decide +kernel)) rfl am_inX11 5 (by decide) am_q336 (v := .ref (G.1 + 23)) rfl dX11_years_48 ?_
        obtain ⟨r_20, w_18, hq_19, hf⟩ := am_b2_some hf
        refine am_calli (r := r_20) (w' := w_18) (am_runV (n := 0) (As := []) (rest := []) ⟨hx, hb, hml, hown, hts⟩ hK hE hH (k_X9_knownCount (by decide +kernel) hq_19) (am_gV am_q858 am_q807 am_q808 am_q5 am_q809) (am_o9 (p := 23) (by decide +kernel)) rfl ⟨rfl, rfl⟩ (by decide +kernel) ⟨Nat.le_of_ble_eq_true rfl, Nat.le_of_ble_eq_true rfl⟩ rfl hl.1 rfl (Nat.le_of_ble_eq_true rfl) ⟨Nat.zero_le _, Nat.zero_le _⟩ dX11_years_51) hH (fun H locs hH => ?_)
        exact am_reti hx hb hr hlocks hH hf dX11_years_54
      · have hf := (if_neg hc_16).symm.trans hf
        refine lv_aload_n hx hb dX11_years_37 rfl (lv_at hl 0 rfl) ?_
        obtain ⟨w_21, hq_22, hf⟩ := am_b1_some hf
        refine am_callv (w' := w_21) (am_runV (n := 0) (As := []) (rest := []) ⟨hx, hb, hml, hown, hts⟩ hK hE hH (k_X11_liveOneYear hq_22) (am_gV am_q904 am_q906 am_qs33 am_q1 am_q907) (am_o11 (p := 0) (by decide +kernel)) rfl ⟨rfl, rfl⟩ (by decide +kernel) ⟨Nat.le_of_ble_eq_true rfl, Nat.le_of_ble_eq_true rfl⟩ rfl hl.1 rfl (Nat.le_of_ble_eq_true rfl) ⟨Nat.zero_le _, Nat.zero_le _⟩ dX11_years_38) hH (fun H locs hH => ?_)
        obtain ⟨x4_23, hx4_23, hf⟩ := am_v_some hf
        refine lv_iinc (v := x4_23) (lv' := [(4, .int x4_23), (0, .ref (G.1 + 0)), (1, .int a1)]) hx hb dX11_years_41 hl (k := 2) rfl (by rw [hx4_23]; rfl) (by decide) rfl (fun ls hl => ?_)
        refine lv_goto (tgt := 31) hx hb dX11_years_44 (by decide) ?_
        obtain rfl := Option.some.inj hf
        exact ih1 x4_23 w_21 H locs ls hk1 hH (lv_sub hl [1, 2, 0] rfl)
  refine am_enter (lv := [(0, .ref (G.1 + 0)), (1, .int a1), (2, .long a2)]) (Nat.le_of_ble_eq_true rfl) rfl (fun ls hl => ?_)
  unfold f_X11_years at hf
  refine am_start hH (fun H locs hH => ?_)
  refine lv_aload_n hx hb dX11_years_0 rfl (lv_at hl 0 rfl) ?_
  obtain ⟨r_26, w_24, hq_25, hf⟩ := am_b2_some hf
  refine am_calli (r := r_26) (w' := w_24) (am_runV (n := 0) (As := []) (rest := []) ⟨hx, hb, hml, hown, hts⟩ hK hE hH (k_X11_noField hq_25) (am_gV am_q625 am_q627 am_qs11 am_q1 am_q628) (am_o11 (p := 0) (by decide +kernel)) rfl ⟨rfl, rfl⟩ (by decide +kernel) ⟨Nat.le_of_ble_eq_true rfl, Nat.le_of_ble_eq_true rfl⟩ rfl hl.1 rfl (Nat.le_of_ble_eq_true rfl) ⟨Nat.zero_le _, Nat.zero_le _⟩ dX11_years_1) hH (fun H locs hH => ?_)
  refine lv_if_ne (tgt := 18) hx hb dX11_years_4 (by decide) (fun hc_27 => ?_) (fun hc_27 => ?_)
  · have hf := (if_neg hc_27).symm.trans hf
    exact P18 w_24 H locs ls hf hH (lv_sub hl [] rfl)
  · have hf := (if_pos hc_27).symm.trans hf
    refine lv_iload_n hx hb dX11_years_7 rfl (lv_at hl 1 rfl) ?_
    refine lv_iconst (v := 1) hx hb dX11_years_8 (by decide) ?_
    refine lv_icmp_lt (tgt := 18) hx hb dX11_years_9 (by decide) (fun hc_28 => ?_) (fun hc_28 => ?_)
    · have hf := (if_pos hc_28).symm.trans hf
      exact P18 w_24 H locs ls hf hH (lv_sub hl [] rfl)
    · have hf := (if_neg hc_28).symm.trans hf
      refine lv_iload_n hx hb dX11_years_12 rfl (lv_at hl 1 rfl) ?_
      refine lv_bipush (v := 40) hx hb dX11_years_13 (by decide) ?_
      refine lv_icmp_le (tgt := 20) hx hb dX11_years_15 (by decide) (fun hc_29 => ?_) (fun hc_29 => ?_)
      · have hf := (if_pos hc_29).symm.trans hf
        refine lv_aload_n hx hb dX11_years_20 rfl (lv_at hl 0 rfl) ?_
        refine am_get hx hb hts hK hown hH (am_o11 (p := 0) (by decide +kernel)) rfl am_inX11 12 (by decide) am_q343 (v := .ref (G.1 + 249)) rfl dX11_years_21 ?_
        refine lv_lload_n hx hb dX11_years_24 rfl (lv_at hl 2 rfl) ?_
        obtain ⟨w_30, hq_31, hf⟩ := am_b1_some hf
        refine am_callv (w' := w_30) (am_runV (n := 1) (As := [.long a2]) (rest := []) ⟨hx, hb, hml, hown, hts⟩ hK hE hH (k_X0_begin (by decide +kernel) hq_31) (am_gV am_q903 am_q827 am_q828 am_q8 am_q829) (am_o0 (p := 249) (by decide +kernel)) rfl ⟨rfl, rfl⟩ (by decide +kernel) ⟨Nat.le_of_ble_eq_true rfl, Nat.le_of_ble_eq_true rfl⟩ rfl hl.1 rfl (Nat.le_of_ble_eq_true rfl) ⟨Nat.zero_le _, Nat.zero_le _⟩ dX11_years_25) hH (fun H locs hH => ?_)
        refine lv_iconst (v := 0) hx hb dX11_years_28 (by decide) ?_
        refine lv_istore (lv' := [(4, .int (0 : Int32)), (0, .ref (G.1 + 0)), (1, .int a1), (2, .long a2)]) hx hb dX11_years_29 hl (by decide) rfl (fun ls hl => ?_)
        exact P31 am_fuel (0 : Int32) w_30 H locs ls hf hH (lv_sub hl [1, 2, 0] rfl)
      · have hf := (if_neg hc_29).symm.trans hf
        exact P18 w_24 H locs ls hf hH (lv_sub hl [] rfl)

def f_X12_isField_12  (s0 : Int32) (w : am_S) : Option (Int32 × am_S) :=
  am_nar .boolean s0 (some (s0, w))
def f_X12_isField  (w : am_S) : Option (Int32 × am_S) :=
  if (w.1 271 13) ≤ 0 then (f_X12_isField_12 (0 : Int32) w) else (f_X12_isField_12 (1 : Int32) w)
set_option maxRecDepth 100000 in
set_option maxHeartbeats 4000000 in
theorem k_X12_isField {G : am_G} {l : Launch}   {w : am_S} {rr : Int32} {ww : am_S} (hf : f_X12_isField  w = some (rr, ww)) : am_Mi G l yX12_isField (Cond.code yX12_isField cX12_isField 1 (some .boolean) :: am_T) { frames := 0, cells := 0, slots := 0, locals := 0 } [.ref (G.1 + 271)] w rr ww := by
  refine Met.ofW (cc := cX12_isField) (maxL := 1) (ret := (some .boolean)) (by decide) rfl ?_
  intro p e s m args below meth c s₁ B hml hv
  obtain ⟨rfl, hx, hb, hr, hts, hown, hlocks, hK, hE, hH⟩ := am_begin B hv
  have hown : s.vm.findClass RX12 = some m.cls := hown
  show W p l e { frames := 0, cells := 0, slots := 0, locals := 0 } s m _ below meth c s.heap [] 0 0 _ _
  have P12 : ∀ (s0 : Int32) (w : am_S) (H : Heap) (locs : List Loc) (ls : Array Slot), f_X12_isField_12 s0 w = some (rr, ww) → am_H G w s H locs → lv_has ls 1 [] → W p l e { frames := 0, cells := 0, slots := 0, locals := 0 } s m [.ref (G.1 + 271)].toArray below meth c H locs 0 0 (MQ below (va_Qi (fun (x : Int32) (u : am_S) => x = rr ∧ u = ww) (am_U G) (am_A G)) [.ref (G.1 + 271)].toArray s 0 0 (am_A G)) (F0 m 12 ls [.int s0]) := by
    intro s0 w H locs ls hf hH hl
    unfold f_X12_isField_12 at hf
    obtain ⟨hr_2, hf⟩ := am_nar_some hf
    exact am_retz hx hb hr hr_2.1 hlocks hH hf dX12_isField_12
  refine am_enter (lv := [(0, .ref (G.1 + 271))]) (Nat.le_of_ble_eq_true rfl) rfl (fun ls hl => ?_)
  unfold f_X12_isField at hf
  refine am_start hH (fun H locs hH => ?_)
  refine lv_aload_n hx hb dX12_isField_0 rfl (lv_at hl 0 rfl) ?_
  refine am_get hx hb hts hK hown hH (am_o12 (p := 271) (by decide +kernel)) rfl am_inX12 13 (by decide) am_q1332 (v := .int (w.1 271 13)) rfl dX12_isField_1 ?_
  refine lv_if_le (tgt := 11) hx hb dX12_isField_4 (by decide) (fun hc_3 => ?_) (fun hc_3 => ?_)
  · have hf := (if_pos hc_3).symm.trans hf
    refine lv_iconst (v := 0) hx hb dX12_isField_11 (by decide) ?_
    exact P12 (0 : Int32) w H locs ls hf hH (lv_sub hl [] rfl)
  · have hf := (if_neg hc_3).symm.trans hf
    refine lv_iconst (v := 1) hx hb dX12_isField_7 (by decide) ?_
    refine lv_goto (tgt := 12) hx hb dX12_isField_8 (by decide) ?_
    exact P12 (1 : Int32) w H locs ls hf hH (lv_sub hl [] rfl)

def f_X12_in_15 (a0 : Int32) (a1 : Int32) (a2 : Int32) (s0 : Int32) (w : am_S) : Option (Int32 × am_S) :=
  am_nar .boolean s0 (some (s0, w))
def f_X12_in_14 (a0 : Int32) (a1 : Int32) (a2 : Int32) (w : am_S) : Option (Int32 × am_S) :=
  f_X12_in_15 a0 a1 a2 (0 : Int32) w
def f_X12_in (a0 : Int32) (a1 : Int32) (a2 : Int32) (w : am_S) : Option (Int32 × am_S) :=
  if a0 < a1 then (f_X12_in_14 a0 a1 a2 w) else (if a2 < a0 then (f_X12_in_14 a0 a1 a2 w) else (f_X12_in_15 a0 a1 a2 (1 : Int32) w))
set_option maxRecDepth 100000 in
set_option maxHeartbeats 4000000 in
theorem k_X12_in {G : am_G} {l : Launch} {a0 : Int32} {a1 : Int32} {a2 : Int32}  {w : am_S} {rr : Int32} {ww : am_S} (hf : f_X12_in a0 a1 a2 w = some (rr, ww)) : am_Mi G l yX12_in (Cond.code yX12_in cX12_in 3 (some .boolean) :: am_T) { frames := 0, cells := 0, slots := 0, locals := 0 } [.int a0, .int a1, .int a2] w rr ww := by
  refine Met.ofW (cc := cX12_in) (maxL := 3) (ret := (some .boolean)) (by decide) rfl ?_
  intro p e s m args below meth c s₁ B hml hv
  obtain ⟨rfl, hx, hb, hr, hts, hown, hlocks, hK, hE, hH⟩ := am_begin B hv
  have hown : s.vm.findClass RX12 = some m.cls := hown
  show W p l e { frames := 0, cells := 0, slots := 0, locals := 0 } s m _ below meth c s.heap [] 0 0 _ _
  have P15 : ∀ (s0 : Int32) (w : am_S) (H : Heap) (locs : List Loc) (ls : Array Slot), f_X12_in_15 a0 a1 a2 s0 w = some (rr, ww) → am_H G w s H locs → lv_has ls 3 [] → W p l e { frames := 0, cells := 0, slots := 0, locals := 0 } s m [.int a0, .int a1, .int a2].toArray below meth c H locs 0 0 (MQ below (va_Qi (fun (x : Int32) (u : am_S) => x = rr ∧ u = ww) (am_U G) (am_A G)) [.int a0, .int a1, .int a2].toArray s 0 0 (am_A G)) (F0 m 15 ls [.int s0]) := by
    intro s0 w H locs ls hf hH hl
    unfold f_X12_in_15 at hf
    obtain ⟨hr_3, hf⟩ := am_nar_some hf
    exact am_retz hx hb hr hr_3.1 hlocks hH hf dX12_in_15
  have P14 : ∀ (w : am_S) (H : Heap) (locs : List Loc) (ls : Array Slot), f_X12_in_14 a0 a1 a2 w = some (rr, ww) → am_H G w s H locs → lv_has ls 3 [] → W p l e { frames := 0, cells := 0, slots := 0, locals := 0 } s m [.int a0, .int a1, .int a2].toArray below meth c H locs 0 0 (MQ below (va_Qi (fun (x : Int32) (u : am_S) => x = rr ∧ u = ww) (am_U G) (am_A G)) [.int a0, .int a1, .int a2].toArray s 0 0 (am_A G)) (F0 m 14 ls []) := by
    intro w H locs ls hf hH hl
    unfold f_X12_in_14 at hf
    refine lv_iconst (v := 0) hx hb dX12_in_14 (by decide) ?_
    exact P15 (0 : Int32) w H locs ls hf hH (lv_sub hl [] rfl)
  refine am_enter (lv := [(0, .int a0), (1, .int a1), (2, .int a2)]) (Nat.le_of_ble_eq_true rfl) rfl (fun ls hl => ?_)
  unfold f_X12_in at hf
  refine am_start hH (fun H locs hH => ?_)
  refine lv_iload_n hx hb dX12_in_0 rfl (lv_at hl 0 rfl) ?_
  refine lv_iload_n hx hb dX12_in_1 rfl (lv_at hl 1 rfl) ?_
  refine lv_icmp_lt (tgt := 14) hx hb dX12_in_2 (by decide) (fun hc_4 => ?_) (fun hc_4 => ?_)
  · have hf := (if_pos hc_4).symm.trans hf
    exact P14 w H locs ls hf hH (lv_sub hl [] rfl)
  · have hf := (if_neg hc_4).symm.trans hf
    refine lv_iload_n hx hb dX12_in_5 rfl (lv_at hl 0 rfl) ?_
    refine lv_iload_n hx hb dX12_in_6 rfl (lv_at hl 2 rfl) ?_
    refine lv_icmp_gt (tgt := 14) hx hb dX12_in_7 (by decide) (fun hc_5 => ?_) (fun hc_5 => ?_)
    · have hf := (if_pos hc_5).symm.trans hf
      exact P14 w H locs ls hf hH (lv_sub hl [] rfl)
    · have hf := (if_neg hc_5).symm.trans hf
      refine lv_iconst (v := 1) hx hb dX12_in_10 (by decide) ?_
      refine lv_goto (tgt := 15) hx hb dX12_in_11 (by decide) ?_
      exact P15 (1 : Int32) w H locs ls hf hH (lv_sub hl [] rfl)

def f_X12_putAside_2b  (x1 : Int32) (w : am_S) : Option (am_S ⊕ (Int32 × am_S)) :=
  if (31 : Int32) ≤ x1 then (am_x (some w)) else (am_chk x1 245 (am_chk x1 31 (am_v (am_pi w 286 x1.toNatClampNeg (w.1 281 x1.toNatClampNeg)) fun (w_10 : am_S) => am_v (x1 + (1 : Int32)) fun (x1_11 : Int32) => some (.inr (x1_11, w_10)))))
def f_X12_putAside_2  (x1 : Int32) (w : am_S) : Option am_S :=
  am_loop (fun (st : (Int32 × am_S)) => f_X12_putAside_2b st.1 st.2) am_fuel (x1, w)
def f_X12_putAside  (w : am_S) : Option am_S :=
  f_X12_putAside_2 (0 : Int32) w
set_option maxRecDepth 100000 in
set_option maxHeartbeats 4000000 in
theorem k_X12_putAside {G : am_G} {l : Launch}   {w : am_S} {ww : am_S} (hf : f_X12_putAside  w = some ww) : am_Mv G l yX12_putAside (Cond.code yX12_putAside cX12_putAside 2 none :: am_T) { frames := 0, cells := 0, slots := 0, locals := 0 } [.ref (G.1 + 271)] w ww := by
  refine Met.ofW (cc := cX12_putAside) (maxL := 2) (ret := none) (by decide) rfl ?_
  intro p e s m args below meth c s₁ B hml hv
  obtain ⟨rfl, hx, hb, hr, hts, hown, hlocks, hK, hE, hH⟩ := am_begin B hv
  have hown : s.vm.findClass RX12 = some m.cls := hown
  show W p l e { frames := 0, cells := 0, slots := 0, locals := 0 } s m _ below meth c s.heap [] 0 0 _ _
  have P2 : ∀ (n1 : Nat) (x1 : Int32) (w : am_S) (H : Heap) (locs : List Loc) (ls : Array Slot), am_loop (fun (st : (Int32 × am_S)) => f_X12_putAside_2b st.1 st.2) n1 (x1, w) = some ww → am_H G w s H locs → lv_has ls 2 [(0, .ref (G.1 + 271)), (1, .int x1)] → W p l e { frames := 0, cells := 0, slots := 0, locals := 0 } s m [.ref (G.1 + 271)].toArray below meth c H locs 0 0 (MQ below (va_Qv (fun (u : am_S) => u = ww) (am_U G) (am_A G)) [.ref (G.1 + 271)].toArray s 0 0 (am_A G)) (F0 m 2 ls []) := by
    intro n1
    induction n1 with
    | zero =>
      intro x1 w H locs ls hf hH hl
      exact (am_loop_zero hf).elim
    | succ n1 ih1 =>
      intro x1 w H locs ls hf hH hl
      obtain ⟨z1, hf, hk1⟩ := am_loop_succ hf
      have hf : f_X12_putAside_2b x1 w = some z1 := hf
      unfold f_X12_putAside_2b at hf
      refine lv_iload_n hx hb dX12_putAside_2 rfl (lv_at hl 1 rfl) ?_
      refine lv_bipush (v := 31) hx hb dX12_putAside_3 (by decide) ?_
      refine lv_icmp_ge (tgt := 26) hx hb dX12_putAside_5 (by decide) (fun hc_6 => ?_) (fun hc_6 => ?_)
      · have hf := (if_pos hc_6).symm.trans hf
        obtain ⟨y_7, hf, hzy_7⟩ := am_x_some hf
        rw [hzy_7] at hk1
        have hf := hf.trans (congrArg some (show y_7 = ww from hk1))
        exact am_retv hx hb hr hlocks hH hf dX12_putAside_26
      · have hf := (if_neg hc_6).symm.trans hf
        refine lv_aload_n hx hb dX12_putAside_8 rfl (lv_at hl 0 rfl) ?_
        refine am_get hx hb hts hK hown hH (am_o12 (p := 271) (by decide +kernel)) rfl am_inX12 25 (by decide) am_q1344 (v := .ref (G.1 + 286)) rfl dX12_putAside_9 ?_
        refine lv_iload_n hx hb dX12_putAside_12 rfl (lv_at hl 1 rfl) ?_
        refine lv_aload_n hx hb dX12_putAside_13 rfl (lv_at hl 0 rfl) ?_
        refine am_get hx hb hts hK hown hH (am_o12 (p := 271) (by decide +kernel)) rfl am_inX12 17 (by decide) am_q1336 (v := .ref (G.1 + 281)) rfl dX12_putAside_14 ?_
        refine lv_iload_n hx hb dX12_putAside_17 rfl (lv_at hl 1 rfl) ?_
        obtain ⟨hi_8, hf⟩ := am_chk_some hf
        refine am_iald hx hb hK hH (am_ai_of (N := 245) (by decide +kernel)) hi_8 dX12_putAside_18 ?_
        obtain ⟨hi_9, hf⟩ := am_chk_some hf
        obtain ⟨w_10, hw_10, hf⟩ := am_v_some hf
        refine am_iast hx hb hK hH (am_ai_of (N := 31) (by decide +kernel)) hi_9 dX12_putAside_19 (fun H locs hH => ?_)
        rw [← hw_10] at hH
        obtain ⟨x1_11, hx1_11, hf⟩ := am_v_some hf
        refine lv_iinc (v := x1_11) (lv' := [(1, .int x1_11), (0, .ref (G.1 + 271))]) hx hb dX12_putAside_20 hl (k := 1) rfl (by rw [hx1_11]; rfl) (by decide) rfl (fun ls hl => ?_)
        refine lv_goto (tgt := 2) hx hb dX12_putAside_23 (by decide) ?_
        obtain rfl := Option.some.inj hf
        exact ih1 x1_11 w_10 H locs ls hk1 hH (lv_sub hl [1, 0] rfl)
  refine am_enter (lv := [(0, .ref (G.1 + 271))]) (Nat.le_of_ble_eq_true rfl) rfl (fun ls hl => ?_)
  unfold f_X12_putAside at hf
  refine am_start hH (fun H locs hH => ?_)
  refine lv_iconst (v := 0) hx hb dX12_putAside_0 (by decide) ?_
  refine lv_istore_n (lv' := [(1, .int (0 : Int32)), (0, .ref (G.1 + 271))]) hx hb dX12_putAside_1 rfl hl (by decide) rfl (fun ls hl => ?_)
  exact P2 am_fuel (0 : Int32) w H locs ls hf hH (lv_sub hl [1, 0] rfl)

def f_X12_isUnknown_16 (a1 : Int32) (s0 : Int32) (w : am_S) : Option (Int32 × am_S) :=
  am_nar .boolean s0 (some (s0, w))
def f_X12_isUnknown (a1 : Int32) (w : am_S) : Option (Int32 × am_S) :=
  am_chk ((0 : Int32) + a1) 245 (if (w.1 281 ((0 : Int32) + a1).toNatClampNeg) = 0 then (f_X12_isUnknown_16 a1 (1 : Int32) w) else (f_X12_isUnknown_16 a1 (0 : Int32) w))
set_option maxRecDepth 100000 in
set_option maxHeartbeats 4000000 in
theorem k_X12_isUnknown {G : am_G} {l : Launch} {a1 : Int32}  {w : am_S} {rr : Int32} {ww : am_S} (hf : f_X12_isUnknown a1 w = some (rr, ww)) : am_Mi G l yX12_isUnknown (Cond.code yX12_isUnknown cX12_isUnknown 2 (some .boolean) :: am_T) { frames := 0, cells := 0, slots := 0, locals := 0 } [.ref (G.1 + 271), .int a1] w rr ww := by
  refine Met.ofW (cc := cX12_isUnknown) (maxL := 2) (ret := (some .boolean)) (by decide) rfl ?_
  intro p e s m args below meth c s₁ B hml hv
  obtain ⟨rfl, hx, hb, hr, hts, hown, hlocks, hK, hE, hH⟩ := am_begin B hv
  have hown : s.vm.findClass RX12 = some m.cls := hown
  show W p l e { frames := 0, cells := 0, slots := 0, locals := 0 } s m _ below meth c s.heap [] 0 0 _ _
  have P16 : ∀ (s0 : Int32) (w : am_S) (H : Heap) (locs : List Loc) (ls : Array Slot), f_X12_isUnknown_16 a1 s0 w = some (rr, ww) → am_H G w s H locs → lv_has ls 2 [] → W p l e { frames := 0, cells := 0, slots := 0, locals := 0 } s m [.ref (G.1 + 271), .int a1].toArray below meth c H locs 0 0 (MQ below (va_Qi (fun (x : Int32) (u : am_S) => x = rr ∧ u = ww) (am_U G) (am_A G)) [.ref (G.1 + 271), .int a1].toArray s 0 0 (am_A G)) (F0 m 16 ls [.int s0]) := by
    intro s0 w H locs ls hf hH hl
    unfold f_X12_isUnknown_16 at hf
    obtain ⟨hr_3, hf⟩ := am_nar_some hf
    exact am_retz hx hb hr hr_3.1 hlocks hH hf dX12_isUnknown_16
  refine am_enter (lv := [(0, .ref (G.1 + 271)), (1, .int a1)]) (Nat.le_of_ble_eq_true rfl) rfl (fun ls hl => ?_)
  unfold f_X12_isUnknown at hf
  refine am_start hH (fun H locs hH => ?_)
  refine lv_aload_n hx hb dX12_isUnknown_0 rfl (lv_at hl 0 rfl) ?_
  refine am_get hx hb hts hK hown hH (am_o12 (p := 271) (by decide +kernel)) rfl am_inX12 17 (by decide) am_q1336 (v := .ref (G.1 + 281)) rfl dX12_isUnknown_1 ?_
  refine lv_iconst (v := 0) hx hb dX12_isUnknown_4 (by decide) ?_
  refine lv_iload_n hx hb dX12_isUnknown_5 rfl (lv_at hl 1 rfl) ?_
  refine lv_iadd hx hb dX12_isUnknown_6 ?_
  obtain ⟨hi_4, hf⟩ := am_chk_some hf
  refine am_iald hx hb hK hH (am_ai_of (N := 245) (by decide +kernel)) hi_4 dX12_isUnknown_7 ?_
  refine lv_if_ne (tgt := 15) hx hb dX12_isUnknown_8 (by decide) (fun hc_5 => ?_) (fun hc_5 => ?_)
  · have hf := (if_neg hc_5).symm.trans hf
    refine lv_iconst (v := 0) hx hb dX12_isUnknown_15 (by decide) ?_
    exact P16 (0 : Int32) w H locs ls hf hH (lv_sub hl [] rfl)
  · have hf := (if_pos hc_5).symm.trans hf
    refine lv_iconst (v := 1) hx hb dX12_isUnknown_11 (by decide) ?_
    refine lv_goto (tgt := 16) hx hb dX12_isUnknown_12 (by decide) ?_
    exact P16 (1 : Int32) w H locs ls hf hH (lv_sub hl [] rfl)

def f_X12_knownSet_28  (x2 : Int32) (s0 : Int32) (s1 : Int32) (w : am_S) : Option ((Int32 × am_S) ⊕ (Int32 × Int32 × am_S)) :=
  am_v (s1 ||| s0) fun (x1_8 : Int32) => am_v (x2 + (1 : Int32)) fun (x2_9 : Int32) => some (.inr (x1_8, x2_9, w))
def f_X12_knownSet_4b  (x1 : Int32) (x2 : Int32) (w : am_S) : Option ((Int32 × am_S) ⊕ (Int32 × Int32 × am_S)) :=
  if (w.1 271 13) ≤ x2 then (am_x (some (x1, w))) else (am_b2 (f_X12_isUnknown x2 w) fun r_14 w_12 => if r_14 = 0 then (f_X12_knownSet_28 x2 ((1 : Int32) <<< (x2 &&& 31)) x1 w_12) else (f_X12_knownSet_28 x2 (0 : Int32) x1 w_12))
def f_X12_knownSet_4  (x1 : Int32) (x2 : Int32) (w : am_S) : Option (Int32 × am_S) :=
  am_loop (fun (st : (Int32 × Int32 × am_S)) => f_X12_knownSet_4b st.1 st.2.1 st.2.2) am_fuel (x1, x2, w)
def f_X12_knownSet  (w : am_S) : Option (Int32 × am_S) :=
  f_X12_knownSet_4 (0 : Int32) (0 : Int32) w
set_option maxRecDepth 100000 in
set_option maxHeartbeats 4000000 in
theorem k_X12_knownSet {G : am_G} {l : Launch}   {w : am_S} {rr : Int32} {ww : am_S} (hf : f_X12_knownSet  w = some (rr, ww)) : am_Mi G l yX12_knownSet (Cond.code yX12_knownSet cX12_knownSet 3 (some .int) :: am_T) { frames := 1, cells := 0, slots := 0, locals := 64 } [.ref (G.1 + 271)] w rr ww := by
  refine Met.ofW (cc := cX12_knownSet) (maxL := 3) (ret := (some .int)) (by decide) rfl ?_
  intro p e s m args below meth c s₁ B hml hv
  obtain ⟨rfl, hx, hb, hr, hts, hown, hlocks, hK, hE, hH⟩ := am_begin B hv
  have hown : s.vm.findClass RX12 = some m.cls := hown
  show W p l e { frames := 1, cells := 0, slots := 0, locals := 64 } s m _ below meth c s.heap [] 0 0 _ _
  have P4 : ∀ (n1 : Nat) (x1 : Int32) (x2 : Int32) (w : am_S) (H : Heap) (locs : List Loc) (ls : Array Slot), am_loop (fun (st : (Int32 × Int32 × am_S)) => f_X12_knownSet_4b st.1 st.2.1 st.2.2) n1 (x1, x2, w) = some (rr, ww) → am_H G w s H locs → lv_has ls 3 [(0, .ref (G.1 + 271)), (1, .int x1), (2, .int x2)] → W p l e { frames := 1, cells := 0, slots := 0, locals := 64 } s m [.ref (G.1 + 271)].toArray below meth c H locs 0 0 (MQ below (va_Qi (fun (x : Int32) (u : am_S) => x = rr ∧ u = ww) (am_U G) (am_A G)) [.ref (G.1 + 271)].toArray s 0 0 (am_A G)) (F0 m 4 ls []) := by
    intro n1
    induction n1 with
    | zero =>
      intro x1 x2 w H locs ls hf hH hl
      exact (am_loop_zero hf).elim
    | succ n1 ih1 =>
      intro x1 x2 w H locs ls hf hH hl
      obtain ⟨z1, hf, hk1⟩ := am_loop_succ hf
      have hf : f_X12_knownSet_4b x1 x2 w = some z1 := hf
      have P28 : ∀ (x2 : Int32) (s0 : Int32) (s1 : Int32) (w : am_S) (z1 : ((Int32 × am_S) ⊕ (Int32 × Int32 × am_S))) (H : Heap) (locs : List Loc) (ls : Array Slot), f_X12_knownSet_28 x2 s0 s1 w = some z1 → am_lk (fun (st : (Int32 × Int32 × am_S)) => f_X12_knownSet_4b st.1 st.2.1 st.2.2) n1 (rr, ww) z1 → am_H G w s H locs → lv_has ls 3 [(0, .ref (G.1 + 271)), (2, .int x2)] → W p l e { frames := 1, cells := 0, slots := 0, locals := 64 } s m [.ref (G.1 + 271)].toArray below meth c H locs 0 0 (MQ below (va_Qi (fun (x : Int32) (u : am_S) => x = rr ∧ u = ww) (am_U G) (am_A G)) [.ref (G.1 + 271)].toArray s 0 0 (am_A G)) (F0 m 28 ls [.int s0, .int s1]) := by
        intro x2 s0 s1 w z1 H locs ls hf hk1 hH hl
        unfold f_X12_knownSet_28 at hf
        refine lv_ior hx hb dX12_knownSet_28 ?_
        obtain ⟨x1_8, hx1_8, hf⟩ := am_v_some hf
        refine am_topi hx1_8 ?_
        refine lv_istore_n (lv' := [(1, .int x1_8), (0, .ref (G.1 + 271)), (2, .int x2)]) hx hb dX12_knownSet_29 rfl hl (by decide) rfl (fun ls hl => ?_)
        obtain ⟨x2_9, hx2_9, hf⟩ := am_v_some hf
        refine lv_iinc (v := x2_9) (lv' := [(2, .int x2_9), (1, .int x1_8), (0, .ref (G.1 + 271))]) hx hb dX12_knownSet_30 hl (k := 2) rfl (by rw [hx2_9]; rfl) (by decide) rfl (fun ls hl => ?_)
        refine lv_goto (tgt := 4) hx hb dX12_knownSet_33 (by decide) ?_
        obtain rfl := Option.some.inj hf
        exact ih1 x1_8 x2_9 w H locs ls hk1 hH (lv_sub hl [2, 1, 0] rfl)
      unfold f_X12_knownSet_4b at hf
      refine lv_iload_n hx hb dX12_knownSet_4 rfl (lv_at hl 2 rfl) ?_
      refine lv_aload_n hx hb dX12_knownSet_5 rfl (lv_at hl 0 rfl) ?_
      refine am_get hx hb hts hK hown hH (am_o12 (p := 271) (by decide +kernel)) rfl am_inX12 13 (by decide) am_q1332 (v := .int (w.1 271 13)) rfl dX12_knownSet_6 ?_
      refine lv_icmp_ge (tgt := 36) hx hb dX12_knownSet_9 (by decide) (fun hc_10 => ?_) (fun hc_10 => ?_)
      · have hf := (if_pos hc_10).symm.trans hf
        obtain ⟨y_11, hf, hzy_11⟩ := am_x_some hf
        rw [hzy_11] at hk1
        have hf := hf.trans (congrArg some (show y_11 = (rr, ww) from hk1))
        refine lv_iload_n hx hb dX12_knownSet_36 rfl (lv_at hl 1 rfl) ?_
        exact am_reti hx hb hr hlocks hH hf dX12_knownSet_37
      · have hf := (if_neg hc_10).symm.trans hf
        refine lv_iload_n hx hb dX12_knownSet_12 rfl (lv_at hl 1 rfl) ?_
        refine lv_aload_n hx hb dX12_knownSet_13 rfl (lv_at hl 0 rfl) ?_
        refine lv_iload_n hx hb dX12_knownSet_14 rfl (lv_at hl 2 rfl) ?_
        obtain ⟨r_14, w_12, hq_13, hf⟩ := am_b2_some hf
        refine am_calli (r := r_14) (w' := w_12) (am_runV (n := 1) (As := [.int x2]) (rest := [.int x1]) ⟨hx, hb, hml, hown, hts⟩ hK hE hH (k_X12_isUnknown hq_13) (am_gV am_q1534 am_q1536 am_qs64 am_q13 am_q1537) (am_o12 (p := 271) (by decide +kernel)) rfl ⟨rfl, rfl⟩ (by decide +kernel) ⟨Nat.le_of_ble_eq_true rfl, Nat.le_of_ble_eq_true rfl⟩ rfl hl.1 rfl (Nat.le_of_ble_eq_true rfl) ⟨Nat.zero_le _, Nat.zero_le _⟩ dX12_knownSet_15) hH (fun H locs hH => ?_)
        refine lv_if_eq (tgt := 25) hx hb dX12_knownSet_18 (by decide) (fun hc_15 => ?_) (fun hc_15 => ?_)
        · have hf := (if_pos hc_15).symm.trans hf
          refine lv_iconst (v := 1) hx hb dX12_knownSet_25 (by decide) ?_
          refine lv_iload_n hx hb dX12_knownSet_26 rfl (lv_at hl 2 rfl) ?_
          refine lv_ishl hx hb dX12_knownSet_27 ?_
          exact P28 x2 ((1 : Int32) <<< (x2 &&& 31)) x1 w_12 z1 H locs ls hf hk1 hH (lv_sub hl [0, 2] rfl)
        · have hf := (if_neg hc_15).symm.trans hf
          refine lv_iconst (v := 0) hx hb dX12_knownSet_21 (by decide) ?_
          refine lv_goto (tgt := 28) hx hb dX12_knownSet_22 (by decide) ?_
          exact P28 x2 (0 : Int32) x1 w_12 z1 H locs ls hf hk1 hH (lv_sub hl [0, 2] rfl)
  refine am_enter (lv := [(0, .ref (G.1 + 271))]) (Nat.le_of_ble_eq_true rfl) rfl (fun ls hl => ?_)
  unfold f_X12_knownSet at hf
  refine am_start hH (fun H locs hH => ?_)
  refine lv_iconst (v := 0) hx hb dX12_knownSet_0 (by decide) ?_
  refine lv_istore_n (lv' := [(1, .int (0 : Int32)), (0, .ref (G.1 + 271))]) hx hb dX12_knownSet_1 rfl hl (by decide) rfl (fun ls hl => ?_)
  refine lv_iconst (v := 0) hx hb dX12_knownSet_2 (by decide) ?_
  refine lv_istore_n (lv' := [(2, .int (0 : Int32)), (1, .int (0 : Int32)), (0, .ref (G.1 + 271))]) hx hb dX12_knownSet_3 rfl hl (by decide) rfl (fun ls hl => ?_)
  exact P4 am_fuel (0 : Int32) (0 : Int32) w H locs ls hf hH (lv_sub hl [2, 1, 0] rfl)

def f_X12_bringBack_2b  (x1 : Int32) (w : am_S) : Option (am_S ⊕ (Int32 × am_S)) :=
  if (31 : Int32) ≤ x1 then (am_x (some w)) else (am_chk x1 31 (am_chk x1 245 (am_v (am_pi w 281 x1.toNatClampNeg (w.1 286 x1.toNatClampNeg)) fun (w_10 : am_S) => am_v (x1 + (1 : Int32)) fun (x1_11 : Int32) => some (.inr (x1_11, w_10)))))
def f_X12_bringBack_2  (x1 : Int32) (w : am_S) : Option am_S :=
  am_loop (fun (st : (Int32 × am_S)) => f_X12_bringBack_2b st.1 st.2) am_fuel (x1, w)
def f_X12_bringBack  (w : am_S) : Option am_S :=
  f_X12_bringBack_2 (0 : Int32) w
set_option maxRecDepth 100000 in
set_option maxHeartbeats 4000000 in
theorem k_X12_bringBack {G : am_G} {l : Launch}   {w : am_S} {ww : am_S} (hf : f_X12_bringBack  w = some ww) : am_Mv G l yX12_bringBack (Cond.code yX12_bringBack cX12_bringBack 2 none :: am_T) { frames := 0, cells := 0, slots := 0, locals := 0 } [.ref (G.1 + 271)] w ww := by
  refine Met.ofW (cc := cX12_bringBack) (maxL := 2) (ret := none) (by decide) rfl ?_
  intro p e s m args below meth c s₁ B hml hv
  obtain ⟨rfl, hx, hb, hr, hts, hown, hlocks, hK, hE, hH⟩ := am_begin B hv
  have hown : s.vm.findClass RX12 = some m.cls := hown
  show W p l e { frames := 0, cells := 0, slots := 0, locals := 0 } s m _ below meth c s.heap [] 0 0 _ _
  have P2 : ∀ (n1 : Nat) (x1 : Int32) (w : am_S) (H : Heap) (locs : List Loc) (ls : Array Slot), am_loop (fun (st : (Int32 × am_S)) => f_X12_bringBack_2b st.1 st.2) n1 (x1, w) = some ww → am_H G w s H locs → lv_has ls 2 [(0, .ref (G.1 + 271)), (1, .int x1)] → W p l e { frames := 0, cells := 0, slots := 0, locals := 0 } s m [.ref (G.1 + 271)].toArray below meth c H locs 0 0 (MQ below (va_Qv (fun (u : am_S) => u = ww) (am_U G) (am_A G)) [.ref (G.1 + 271)].toArray s 0 0 (am_A G)) (F0 m 2 ls []) := by
    intro n1
    induction n1 with
    | zero =>
      intro x1 w H locs ls hf hH hl
      exact (am_loop_zero hf).elim
    | succ n1 ih1 =>
      intro x1 w H locs ls hf hH hl
      obtain ⟨z1, hf, hk1⟩ := am_loop_succ hf
      have hf : f_X12_bringBack_2b x1 w = some z1 := hf
      unfold f_X12_bringBack_2b at hf
      refine lv_iload_n hx hb dX12_bringBack_2 rfl (lv_at hl 1 rfl) ?_
      refine lv_bipush (v := 31) hx hb dX12_bringBack_3 (by decide) ?_
      refine lv_icmp_ge (tgt := 26) hx hb dX12_bringBack_5 (by decide) (fun hc_6 => ?_) (fun hc_6 => ?_)
      · have hf := (if_pos hc_6).symm.trans hf
        obtain ⟨y_7, hf, hzy_7⟩ := am_x_some hf
        rw [hzy_7] at hk1
        have hf := hf.trans (congrArg some (show y_7 = ww from hk1))
        exact am_retv hx hb hr hlocks hH hf dX12_bringBack_26
      · have hf := (if_neg hc_6).symm.trans hf
        refine lv_aload_n hx hb dX12_bringBack_8 rfl (lv_at hl 0 rfl) ?_
        refine am_get hx hb hts hK hown hH (am_o12 (p := 271) (by decide +kernel)) rfl am_inX12 17 (by decide) am_q1336 (v := .ref (G.1 + 281)) rfl dX12_bringBack_9 ?_
        refine lv_iload_n hx hb dX12_bringBack_12 rfl (lv_at hl 1 rfl) ?_
        refine lv_aload_n hx hb dX12_bringBack_13 rfl (lv_at hl 0 rfl) ?_
        refine am_get hx hb hts hK hown hH (am_o12 (p := 271) (by decide +kernel)) rfl am_inX12 25 (by decide) am_q1344 (v := .ref (G.1 + 286)) rfl dX12_bringBack_14 ?_
        refine lv_iload_n hx hb dX12_bringBack_17 rfl (lv_at hl 1 rfl) ?_
        obtain ⟨hi_8, hf⟩ := am_chk_some hf
        refine am_iald hx hb hK hH (am_ai_of (N := 31) (by decide +kernel)) hi_8 dX12_bringBack_18 ?_
        obtain ⟨hi_9, hf⟩ := am_chk_some hf
        obtain ⟨w_10, hw_10, hf⟩ := am_v_some hf
        refine am_iast hx hb hK hH (am_ai_of (N := 245) (by decide +kernel)) hi_9 dX12_bringBack_19 (fun H locs hH => ?_)
        rw [← hw_10] at hH
        obtain ⟨x1_11, hx1_11, hf⟩ := am_v_some hf
        refine lv_iinc (v := x1_11) (lv' := [(1, .int x1_11), (0, .ref (G.1 + 271))]) hx hb dX12_bringBack_20 hl (k := 1) rfl (by rw [hx1_11]; rfl) (by decide) rfl (fun ls hl => ?_)
        refine lv_goto (tgt := 2) hx hb dX12_bringBack_23 (by decide) ?_
        obtain rfl := Option.some.inj hf
        exact ih1 x1_11 w_10 H locs ls hk1 hH (lv_sub hl [1, 0] rfl)
  refine am_enter (lv := [(0, .ref (G.1 + 271))]) (Nat.le_of_ble_eq_true rfl) rfl (fun ls hl => ?_)
  unfold f_X12_bringBack at hf
  refine am_start hH (fun H locs hH => ?_)
  refine lv_iconst (v := 0) hx hb dX12_bringBack_0 (by decide) ?_
  refine lv_istore_n (lv' := [(1, .int (0 : Int32)), (0, .ref (G.1 + 271))]) hx hb dX12_bringBack_1 rfl hl (by decide) rfl (fun ls hl => ?_)
  exact P2 am_fuel (0 : Int32) w H locs ls hf hH (lv_sub hl [1, 0] rfl)

def f_X12_slotMany_24  (s0 : Int32) (w : am_S) : Option (Int32 × am_S) :=
  some (s0, w)
def f_X12_slotMany  (w : am_S) : Option (Int32 × am_S) :=
  am_b2 (f_X12_isField w) fun r_9 w_7 => if r_9 = 0 then (f_X12_slotMany_24 (0 : Int32) w_7) else (am_chk (0 : Int32) 4 (am_chk (1 : Int32) 4 (f_X12_slotMany_24 ((w_7.1 276 (0 : Int32).toNatClampNeg) * (w_7.1 276 (1 : Int32).toNatClampNeg)) w_7)))
set_option maxRecDepth 100000 in
set_option maxHeartbeats 4000000 in
theorem k_X12_slotMany {G : am_G} {l : Launch}   {w : am_S} {rr : Int32} {ww : am_S} (hf : f_X12_slotMany  w = some (rr, ww)) : am_Mi G l yX12_slotMany (Cond.code yX12_slotMany cX12_slotMany 1 (some .int) :: am_T) { frames := 1, cells := 0, slots := 0, locals := 64 } [.ref (G.1 + 271)] w rr ww := by
  refine Met.ofW (cc := cX12_slotMany) (maxL := 1) (ret := (some .int)) (by decide) rfl ?_
  intro p e s m args below meth c s₁ B hml hv
  obtain ⟨rfl, hx, hb, hr, hts, hown, hlocks, hK, hE, hH⟩ := am_begin B hv
  have hown : s.vm.findClass RX12 = some m.cls := hown
  show W p l e { frames := 1, cells := 0, slots := 0, locals := 64 } s m _ below meth c s.heap [] 0 0 _ _
  have P24 : ∀ (s0 : Int32) (w : am_S) (H : Heap) (locs : List Loc) (ls : Array Slot), f_X12_slotMany_24 s0 w = some (rr, ww) → am_H G w s H locs → lv_has ls 1 [] → W p l e { frames := 1, cells := 0, slots := 0, locals := 64 } s m [.ref (G.1 + 271)].toArray below meth c H locs 0 0 (MQ below (va_Qi (fun (x : Int32) (u : am_S) => x = rr ∧ u = ww) (am_U G) (am_A G)) [.ref (G.1 + 271)].toArray s 0 0 (am_A G)) (F0 m 24 ls [.int s0]) := by
    intro s0 w H locs ls hf hH hl
    unfold f_X12_slotMany_24 at hf
    exact am_reti hx hb hr hlocks hH hf dX12_slotMany_24
  refine am_enter (lv := [(0, .ref (G.1 + 271))]) (Nat.le_of_ble_eq_true rfl) rfl (fun ls hl => ?_)
  unfold f_X12_slotMany at hf
  refine am_start hH (fun H locs hH => ?_)
  refine lv_aload_n hx hb dX12_slotMany_0 rfl (lv_at hl 0 rfl) ?_
  obtain ⟨r_9, w_7, hq_8, hf⟩ := am_b2_some hf
  refine am_calli (r := r_9) (w' := w_7) (am_runV (n := 0) (As := []) (rest := []) ⟨hx, hb, hml, hown, hts⟩ hK hE hH (k_X12_isField hq_8) (am_gV am_q1514 am_q1516 am_qs59 am_q13 am_q1517) (am_o12 (p := 271) (by decide +kernel)) rfl ⟨rfl, rfl⟩ (by decide +kernel) ⟨Nat.le_of_ble_eq_true rfl, Nat.le_of_ble_eq_true rfl⟩ rfl hl.1 rfl (Nat.le_of_ble_eq_true rfl) ⟨Nat.zero_le _, Nat.zero_le _⟩ dX12_slotMany_1) hH (fun H locs hH => ?_)
  refine lv_if_eq (tgt := 23) hx hb dX12_slotMany_4 (by decide) (fun hc_10 => ?_) (fun hc_10 => ?_)
  · have hf := (if_pos hc_10).symm.trans hf
    refine lv_iconst (v := 0) hx hb dX12_slotMany_23 (by decide) ?_
    exact P24 (0 : Int32) w_7 H locs ls hf hH (lv_sub hl [] rfl)
  · have hf := (if_neg hc_10).symm.trans hf
    refine lv_aload_n hx hb dX12_slotMany_7 rfl (lv_at hl 0 rfl) ?_
    refine am_get hx hb hts hK hown hH (am_o12 (p := 271) (by decide +kernel)) rfl am_inX12 10 (by decide) am_q1329 (v := .ref (G.1 + 276)) rfl dX12_slotMany_8 ?_
    refine lv_iconst (v := 0) hx hb dX12_slotMany_11 (by decide) ?_
    obtain ⟨hi_11, hf⟩ := am_chk_some hf
    refine am_iald hx hb hK hH (am_ai_of (N := 4) (by decide +kernel)) hi_11 dX12_slotMany_12 ?_
    refine lv_aload_n hx hb dX12_slotMany_13 rfl (lv_at hl 0 rfl) ?_
    refine am_get hx hb hts hK hown hH (am_o12 (p := 271) (by decide +kernel)) rfl am_inX12 10 (by decide) am_q1329 (v := .ref (G.1 + 276)) rfl dX12_slotMany_14 ?_
    refine lv_iconst (v := 1) hx hb dX12_slotMany_17 (by decide) ?_
    obtain ⟨hi_12, hf⟩ := am_chk_some hf
    refine am_iald hx hb hK hH (am_ai_of (N := 4) (by decide +kernel)) hi_12 dX12_slotMany_18 ?_
    refine lv_imul hx hb dX12_slotMany_19 ?_
    refine lv_goto (tgt := 24) hx hb dX12_slotMany_20 (by decide) ?_
    exact P24 ((w_7.1 276 (0 : Int32).toNatClampNeg) * (w_7.1 276 (1 : Int32).toNatClampNeg)) w_7 H locs ls hf hH (lv_sub hl [] rfl)

def f_X12_has_14 (a0 : Int32) (a1 : Int32) (s0 : Int32) (w : am_S) : Option (Int32 × am_S) :=
  am_nar .boolean s0 (some (s0, w))
def f_X12_has (a0 : Int32) (a1 : Int32) (w : am_S) : Option (Int32 × am_S) :=
  if ((a0 >>> (a1 &&& 31)) &&& (1 : Int32)) = (1 : Int32) then (f_X12_has_14 a0 a1 (1 : Int32) w) else (f_X12_has_14 a0 a1 (0 : Int32) w)
set_option maxRecDepth 100000 in
set_option maxHeartbeats 4000000 in
theorem k_X12_has {G : am_G} {l : Launch} {a0 : Int32} {a1 : Int32}  {w : am_S} {rr : Int32} {ww : am_S} (hf : f_X12_has a0 a1 w = some (rr, ww)) : am_Mi G l yX12_has (Cond.code yX12_has cX12_has 2 (some .boolean) :: am_T) { frames := 0, cells := 0, slots := 0, locals := 0 } [.int a0, .int a1] w rr ww := by
  refine Met.ofW (cc := cX12_has) (maxL := 2) (ret := (some .boolean)) (by decide) rfl ?_
  intro p e s m args below meth c s₁ B hml hv
  obtain ⟨rfl, hx, hb, hr, hts, hown, hlocks, hK, hE, hH⟩ := am_begin B hv
  have hown : s.vm.findClass RX12 = some m.cls := hown
  show W p l e { frames := 0, cells := 0, slots := 0, locals := 0 } s m _ below meth c s.heap [] 0 0 _ _
  have P14 : ∀ (s0 : Int32) (w : am_S) (H : Heap) (locs : List Loc) (ls : Array Slot), f_X12_has_14 a0 a1 s0 w = some (rr, ww) → am_H G w s H locs → lv_has ls 2 [] → W p l e { frames := 0, cells := 0, slots := 0, locals := 0 } s m [.int a0, .int a1].toArray below meth c H locs 0 0 (MQ below (va_Qi (fun (x : Int32) (u : am_S) => x = rr ∧ u = ww) (am_U G) (am_A G)) [.int a0, .int a1].toArray s 0 0 (am_A G)) (F0 m 14 ls [.int s0]) := by
    intro s0 w H locs ls hf hH hl
    unfold f_X12_has_14 at hf
    obtain ⟨hr_2, hf⟩ := am_nar_some hf
    exact am_retz hx hb hr hr_2.1 hlocks hH hf dX12_has_14
  refine am_enter (lv := [(0, .int a0), (1, .int a1)]) (Nat.le_of_ble_eq_true rfl) rfl (fun ls hl => ?_)
  unfold f_X12_has at hf
  refine am_start hH (fun H locs hH => ?_)
  refine lv_iload_n hx hb dX12_has_0 rfl (lv_at hl 0 rfl) ?_
  refine lv_iload_n hx hb dX12_has_1 rfl (lv_at hl 1 rfl) ?_
  refine lv_ishr hx hb dX12_has_2 ?_
  refine lv_iconst (v := 1) hx hb dX12_has_3 (by decide) ?_
  refine lv_iand hx hb dX12_has_4 ?_
  refine lv_iconst (v := 1) hx hb dX12_has_5 (by decide) ?_
  refine lv_icmp_ne (tgt := 13) hx hb dX12_has_6 (by decide) (fun hc_3 => ?_) (fun hc_3 => ?_)
  · have hf := (if_neg hc_3).symm.trans hf
    refine lv_iconst (v := 0) hx hb dX12_has_13 (by decide) ?_
    exact P14 (0 : Int32) w H locs ls hf hH (lv_sub hl [] rfl)
  · have hf := (if_pos hc_3).symm.trans hf
    refine lv_iconst (v := 1) hx hb dX12_has_9 (by decide) ?_
    refine lv_goto (tgt := 14) hx hb dX12_has_10 (by decide) ?_
    exact P14 (1 : Int32) w H locs ls hf hH (lv_sub hl [] rfl)

def f_X12_hasCopy_17 (a1 : Int32) (a2 : Int32) (s0 : Int32) (w : am_S) : Option (Int32 × am_S) :=
  am_chk (s0 + a1) 245 (am_b2 (f_X12_has (w.1 281 (s0 + a1).toNatClampNeg) (a2 - a2 / (24 : Int32) * (24 : Int32)) w) fun r_10 w_8 => am_nar .boolean r_10 (some (r_10, w_8)))
def f_X12_hasCopy (a1 : Int32) (a2 : Int32) (w : am_S) : Option (Int32 × am_S) :=
  if (24 : Int32) ≤ a2 then (f_X12_hasCopy_17 a1 a2 (20 : Int32) w) else (f_X12_hasCopy_17 a1 a2 (10 : Int32) w)
set_option maxRecDepth 100000 in
set_option maxHeartbeats 4000000 in
theorem k_X12_hasCopy {G : am_G} {l : Launch} {a1 : Int32} {a2 : Int32}  {w : am_S} {rr : Int32} {ww : am_S} (hf : f_X12_hasCopy a1 a2 w = some (rr, ww)) : am_Mi G l yX12_hasCopy (Cond.code yX12_hasCopy cX12_hasCopy 3 (some .boolean) :: am_T) { frames := 1, cells := 0, slots := 0, locals := 64 } [.ref (G.1 + 271), .int a1, .int a2] w rr ww := by
  refine Met.ofW (cc := cX12_hasCopy) (maxL := 3) (ret := (some .boolean)) (by decide) rfl ?_
  intro p e s m args below meth c s₁ B hml hv
  obtain ⟨rfl, hx, hb, hr, hts, hown, hlocks, hK, hE, hH⟩ := am_begin B hv
  have hown : s.vm.findClass RX12 = some m.cls := hown
  show W p l e { frames := 1, cells := 0, slots := 0, locals := 64 } s m _ below meth c s.heap [] 0 0 _ _
  have P17 : ∀ (s0 : Int32) (w : am_S) (H : Heap) (locs : List Loc) (ls : Array Slot), f_X12_hasCopy_17 a1 a2 s0 w = some (rr, ww) → am_H G w s H locs → lv_has ls 3 [(1, .int a1), (2, .int a2)] → W p l e { frames := 1, cells := 0, slots := 0, locals := 64 } s m [.ref (G.1 + 271), .int a1, .int a2].toArray below meth c H locs 0 0 (MQ below (va_Qi (fun (x : Int32) (u : am_S) => x = rr ∧ u = ww) (am_U G) (am_A G)) [.ref (G.1 + 271), .int a1, .int a2].toArray s 0 0 (am_A G)) (F0 m 17 ls [.int s0, .ref (G.1 + 281)]) := by
    intro s0 w H locs ls hf hH hl
    unfold f_X12_hasCopy_17 at hf
    refine lv_iload_n hx hb dX12_hasCopy_17 rfl (lv_at hl 0 rfl) ?_
    refine lv_iadd hx hb dX12_hasCopy_18 ?_
    obtain ⟨hi_7, hf⟩ := am_chk_some hf
    refine am_iald hx hb hK hH (am_ai_of (N := 245) (by decide +kernel)) hi_7 dX12_hasCopy_19 ?_
    refine lv_iload_n hx hb dX12_hasCopy_20 rfl (lv_at hl 1 rfl) ?_
    refine lv_bipush (v := 24) hx hb dX12_hasCopy_21 (by decide) ?_
    refine lv_irem hx hb dX12_hasCopy_23 (by decide) ?_
    obtain ⟨r_10, w_8, hq_9, hf⟩ := am_b2_some hf
    refine am_calli (r := r_10) (w' := w_8) (am_runS (n := 2) (As := [.int (w.1 281 (s0 + a1).toNatClampNeg), .int (a2 - a2 / (24 : Int32) * (24 : Int32))]) (rest := []) ⟨hx, hb, hml, hown, hts⟩ hK hE hH (k_X12_has hq_9) (am_gS am_q1454 am_q1455 am_q13 am_q1456) ⟨rfl, rfl⟩ (by decide +kernel) ⟨Nat.le_of_ble_eq_true rfl, Nat.le_of_ble_eq_true rfl⟩ rfl hl.1 rfl (Nat.le_of_ble_eq_true rfl) ⟨Nat.zero_le _, Nat.zero_le _⟩ dX12_hasCopy_24) hH (fun H locs hH => ?_)
    obtain ⟨hr_11, hf⟩ := am_nar_some hf
    exact am_retz hx hb hr hr_11.1 hlocks hH hf dX12_hasCopy_27
  refine am_enter (lv := [(0, .ref (G.1 + 271)), (1, .int a1), (2, .int a2)]) (Nat.le_of_ble_eq_true rfl) rfl (fun ls hl => ?_)
  unfold f_X12_hasCopy at hf
  refine am_start hH (fun H locs hH => ?_)
  refine lv_aload_n hx hb dX12_hasCopy_0 rfl (lv_at hl 0 rfl) ?_
  refine am_get hx hb hts hK hown hH (am_o12 (p := 271) (by decide +kernel)) rfl am_inX12 17 (by decide) am_q1336 (v := .ref (G.1 + 281)) rfl dX12_hasCopy_1 ?_
  refine lv_iload_n hx hb dX12_hasCopy_4 rfl (lv_at hl 2 rfl) ?_
  refine lv_bipush (v := 24) hx hb dX12_hasCopy_5 (by decide) ?_
  refine lv_icmp_ge (tgt := 15) hx hb dX12_hasCopy_7 (by decide) (fun hc_12 => ?_) (fun hc_12 => ?_)
  · have hf := (if_pos hc_12).symm.trans hf
    refine lv_bipush (v := 20) hx hb dX12_hasCopy_15 (by decide) ?_
    exact P17 (20 : Int32) w H locs ls hf hH (lv_sub hl [1, 2] rfl)
  · have hf := (if_neg hc_12).symm.trans hf
    refine lv_bipush (v := 10) hx hb dX12_hasCopy_10 (by decide) ?_
    refine lv_goto (tgt := 17) hx hb dX12_hasCopy_12 (by decide) ?_
    exact P17 (10 : Int32) w H locs ls hf hH (lv_sub hl [1, 2] rfl)

def f_X12_dinAt_58 (a1 : Int32) (a2 : Int32) (x3 : UInt32) (x4 : Int32) (w : am_S) : Option ((UInt32 × am_S) ⊕ (UInt32 × Int32 × am_S)) :=
  am_v (x4 + (1 : Int32)) fun (x4_18 : Int32) => some (.inr (x3, x4_18, w))
def f_X12_dinAt_14b (a1 : Int32) (a2 : Int32) (x3 : UInt32) (x4 : Int32) (w : am_S) : Option ((UInt32 × am_S) ⊕ (UInt32 × Int32 × am_S)) :=
  if (w.1 271 13) ≤ x4 then (am_x (some (x3, w))) else (if x4 = a1 then (f_X12_dinAt_58 a1 a2 x3 x4 w) else (am_b2 (f_X12_isUnknown x4 w) fun r_24 w_22 => if r_24 = 0 then (f_X12_dinAt_58 a1 a2 x3 x4 w_22) else (am_b2 (f_X12_hasCopy x4 a2 w_22) fun r_28 w_26 => if r_28 = 0 then (f_X12_dinAt_58 a1 a2 x3 x4 w_26) else (am_chk x4 10 (am_n32 (FP.fadd x3 (w_26.2.2 283 x4.toNatClampNeg)) (am_v (FP.fadd x3 (w_26.2.2 283 x4.toNatClampNeg)) fun (x3_32 : UInt32) => f_X12_dinAt_58 a1 a2 x3_32 x4 w_26))))))
def f_X12_dinAt_14 (a1 : Int32) (a2 : Int32) (x3 : UInt32) (x4 : Int32) (w : am_S) : Option (UInt32 × am_S) :=
  am_loop (fun (st : (UInt32 × Int32 × am_S)) => f_X12_dinAt_14b a1 a2 st.1 st.2.1 st.2.2) am_fuel (x3, x4, w)
def f_X12_dinAt (a1 : Int32) (a2 : Int32) (w : am_S) : Option (UInt32 × am_S) :=
  am_chk (3 : Int32) 4 (am_n32 (FP.fdiv (FP.i2f (w.1 276 (3 : Int32).toNatClampNeg)) (1092616192 : UInt32)) (am_v (FP.fdiv (FP.i2f (w.1 276 (3 : Int32).toNatClampNeg)) (1092616192 : UInt32)) fun (x3_35 : UInt32) => f_X12_dinAt_14 a1 a2 x3_35 (0 : Int32) w))
set_option maxRecDepth 100000 in
set_option maxHeartbeats 4000000 in
theorem k_X12_dinAt {G : am_G} {l : Launch} {a1 : Int32} {a2 : Int32}  {w : am_S} {rr : UInt32} {ww : am_S} (hf : f_X12_dinAt a1 a2 w = some (rr, ww)) : am_Mf G l yX12_dinAt (Cond.code yX12_dinAt cX12_dinAt 5 (some .float) :: am_T) { frames := 2, cells := 0, slots := 0, locals := 128 } [.ref (G.1 + 271), .int a1, .int a2] w rr ww := by
  refine Met.ofW (cc := cX12_dinAt) (maxL := 5) (ret := (some .float)) (by decide) rfl ?_
  intro p e s m args below meth c s₁ B hml hv
  obtain ⟨rfl, hx, hb, hr, hts, hown, hlocks, hK, hE, hH⟩ := am_begin B hv
  have hown : s.vm.findClass RX12 = some m.cls := hown
  show W p l e { frames := 2, cells := 0, slots := 0, locals := 128 } s m _ below meth c s.heap [] 0 0 _ _
  have P14 : ∀ (n1 : Nat) (x3 : UInt32) (x4 : Int32) (w : am_S) (H : Heap) (locs : List Loc) (ls : Array Slot), am_loop (fun (st : (UInt32 × Int32 × am_S)) => f_X12_dinAt_14b a1 a2 st.1 st.2.1 st.2.2) n1 (x3, x4, w) = some (rr, ww) → am_H G w s H locs → lv_has ls 5 [(0, .ref (G.1 + 271)), (1, .int a1), (2, .int a2), (3, .float x3), (4, .int x4)] → W p l e { frames := 2, cells := 0, slots := 0, locals := 128 } s m [.ref (G.1 + 271), .int a1, .int a2].toArray below meth c H locs 0 0 (MQ below (va_Qf (fun (x : UInt32) (u : am_S) => x = rr ∧ u = ww) (am_U G) (am_A G)) [.ref (G.1 + 271), .int a1, .int a2].toArray s 0 0 (am_A G)) (F0 m 14 ls []) := by
    intro n1
    induction n1 with
    | zero =>
      intro x3 x4 w H locs ls hf hH hl
      exact (am_loop_zero hf).elim
    | succ n1 ih1 =>
      intro x3 x4 w H locs ls hf hH hl
      obtain ⟨z1, hf, hk1⟩ := am_loop_succ hf
      have hf : f_X12_dinAt_14b a1 a2 x3 x4 w = some z1 := hf
      have P58 : ∀ (x3 : UInt32) (x4 : Int32) (w : am_S) (z1 : ((UInt32 × am_S) ⊕ (UInt32 × Int32 × am_S))) (H : Heap) (locs : List Loc) (ls : Array Slot), f_X12_dinAt_58 a1 a2 x3 x4 w = some z1 → am_lk (fun (st : (UInt32 × Int32 × am_S)) => f_X12_dinAt_14b a1 a2 st.1 st.2.1 st.2.2) n1 (rr, ww) z1 → am_H G w s H locs → lv_has ls 5 [(0, .ref (G.1 + 271)), (1, .int a1), (2, .int a2), (3, .float x3), (4, .int x4)] → W p l e { frames := 2, cells := 0, slots := 0, locals := 128 } s m [.ref (G.1 + 271), .int a1, .int a2].toArray below meth c H locs 0 0 (MQ below (va_Qf (fun (x : UInt32) (u : am_S) => x = rr ∧ u = ww) (am_U G) (am_A G)) [.ref (G.1 + 271), .int a1, .int a2].toArray s 0 0 (am_A G)) (F0 m 58 ls []) := by
        intro x3 x4 w z1 H locs ls hf hk1 hH hl
        unfold f_X12_dinAt_58 at hf
        obtain ⟨x4_18, hx4_18, hf⟩ := am_v_some hf
        refine lv_iinc (v := x4_18) (lv' := [(4, .int x4_18), (0, .ref (G.1 + 271)), (1, .int a1), (2, .int a2), (3, .float x3)]) hx hb dX12_dinAt_58 hl (k := 4) rfl (by rw [hx4_18]; rfl) (by decide) rfl (fun ls hl => ?_)
        refine lv_goto (tgt := 14) hx hb dX12_dinAt_61 (by decide) ?_
        obtain rfl := Option.some.inj hf
        exact ih1 x3 x4_18 w H locs ls hk1 hH (lv_sub hl [1, 2, 3, 4, 0] rfl)
      unfold f_X12_dinAt_14b at hf
      refine lv_iload hx hb dX12_dinAt_14 (lv_at hl 4 rfl) ?_
      refine lv_aload_n hx hb dX12_dinAt_16 rfl (lv_at hl 0 rfl) ?_
      refine am_get hx hb hts hK hown hH (am_o12 (p := 271) (by decide +kernel)) rfl am_inX12 13 (by decide) am_q1332 (v := .int (w.1 271 13)) rfl dX12_dinAt_17 ?_
      refine lv_icmp_ge (tgt := 64) hx hb dX12_dinAt_20 (by decide) (fun hc_19 => ?_) (fun hc_19 => ?_)
      · have hf := (if_pos hc_19).symm.trans hf
        obtain ⟨y_20, hf, hzy_20⟩ := am_x_some hf
        rw [hzy_20] at hk1
        have hf := hf.trans (congrArg some (show y_20 = (rr, ww) from hk1))
        refine lv_fload_n hx hb dX12_dinAt_64 rfl (lv_at hl 3 rfl) ?_
        exact am_retf hx hb hr hlocks hH hf dX12_dinAt_65
      · have hf := (if_neg hc_19).symm.trans hf
        refine lv_iload hx hb dX12_dinAt_23 (lv_at hl 4 rfl) ?_
        refine lv_iload_n hx hb dX12_dinAt_25 rfl (lv_at hl 1 rfl) ?_
        refine lv_icmp_eq (tgt := 58) hx hb dX12_dinAt_26 (by decide) (fun hc_21 => ?_) (fun hc_21 => ?_)
        · have hf := (if_pos hc_21).symm.trans hf
          exact P58 x3 x4 w z1 H locs ls hf hk1 hH (lv_sub hl [0, 1, 2, 3, 4] rfl)
        · have hf := (if_neg hc_21).symm.trans hf
          refine lv_aload_n hx hb dX12_dinAt_29 rfl (lv_at hl 0 rfl) ?_
          refine lv_iload hx hb dX12_dinAt_30 (lv_at hl 4 rfl) ?_
          obtain ⟨r_24, w_22, hq_23, hf⟩ := am_b2_some hf
          refine am_calli (r := r_24) (w' := w_22) (am_runV (n := 1) (As := [.int x4]) (rest := []) ⟨hx, hb, hml, hown, hts⟩ hK hE hH (k_X12_isUnknown hq_23) (am_gV am_q1534 am_q1536 am_qs64 am_q13 am_q1537) (am_o12 (p := 271) (by decide +kernel)) rfl ⟨rfl, rfl⟩ (by decide +kernel) ⟨Nat.le_of_ble_eq_true rfl, Nat.le_of_ble_eq_true rfl⟩ rfl hl.1 rfl (Nat.le_of_ble_eq_true rfl) ⟨Nat.zero_le _, Nat.zero_le _⟩ dX12_dinAt_32) hH (fun H locs hH => ?_)
          refine lv_if_eq (tgt := 58) hx hb dX12_dinAt_35 (by decide) (fun hc_25 => ?_) (fun hc_25 => ?_)
          · have hf := (if_pos hc_25).symm.trans hf
            exact P58 x3 x4 w_22 z1 H locs ls hf hk1 hH (lv_sub hl [0, 1, 2, 3, 4] rfl)
          · have hf := (if_neg hc_25).symm.trans hf
            refine lv_aload_n hx hb dX12_dinAt_38 rfl (lv_at hl 0 rfl) ?_
            refine lv_iload hx hb dX12_dinAt_39 (lv_at hl 4 rfl) ?_
            refine lv_iload_n hx hb dX12_dinAt_41 rfl (lv_at hl 2 rfl) ?_
            obtain ⟨r_28, w_26, hq_27, hf⟩ := am_b2_some hf
            refine am_calli (r := r_28) (w' := w_26) (am_runV (n := 2) (As := [.int x4, .int a2]) (rest := []) ⟨hx, hb, hml, hown, hts⟩ hK hE hH (k_X12_hasCopy hq_27) (am_gV am_q1538 am_q1540 am_qs65 am_q13 am_q1541) (am_o12 (p := 271) (by decide +kernel)) rfl ⟨rfl, rfl⟩ (by decide +kernel) ⟨Nat.le_of_ble_eq_true rfl, Nat.le_of_ble_eq_true rfl⟩ rfl hl.1 rfl (Nat.le_of_ble_eq_true rfl) ⟨Nat.zero_le _, Nat.zero_le _⟩ dX12_dinAt_42) hH (fun H locs hH => ?_)
            refine lv_if_eq (tgt := 58) hx hb dX12_dinAt_45 (by decide) (fun hc_29 => ?_) (fun hc_29 => ?_)
            · have hf := (if_pos hc_29).symm.trans hf
              exact P58 x3 x4 w_26 z1 H locs ls hf hk1 hH (lv_sub hl [0, 1, 2, 3, 4] rfl)
            · have hf := (if_neg hc_29).symm.trans hf
              refine lv_fload_n hx hb dX12_dinAt_48 rfl (lv_at hl 3 rfl) ?_
              refine lv_aload_n hx hb dX12_dinAt_49 rfl (lv_at hl 0 rfl) ?_
              refine am_get hx hb hts hK hown hH (am_o12 (p := 271) (by decide +kernel)) rfl am_inX12 19 (by decide) am_q1338 (v := .ref (G.1 + 283)) rfl dX12_dinAt_50 ?_
              refine lv_iload hx hb dX12_dinAt_53 (lv_at hl 4 rfl) ?_
              obtain ⟨hi_30, hf⟩ := am_chk_some hf
              refine am_fald hx hb hK hH (am_af_of (N := 10) (by decide +kernel)) hi_30 dX12_dinAt_55 ?_
              obtain ⟨hn_31, hf⟩ := am_n32_some hf
              refine lv_fadd hx hb dX12_dinAt_56 hn_31 ?_
              obtain ⟨x3_32, hx3_32, hf⟩ := am_v_some hf
              refine am_topf hx3_32 ?_
              refine lv_fstore_n (lv' := [(3, .float x3_32), (0, .ref (G.1 + 271)), (1, .int a1), (2, .int a2), (4, .int x4)]) hx hb dX12_dinAt_57 rfl hl (by decide) rfl (fun ls hl => ?_)
              exact P58 x3_32 x4 w_26 z1 H locs ls hf hk1 hH (lv_sub hl [1, 2, 3, 0, 4] rfl)
  refine am_enter (lv := [(0, .ref (G.1 + 271)), (1, .int a1), (2, .int a2)]) (Nat.le_of_ble_eq_true rfl) rfl (fun ls hl => ?_)
  unfold f_X12_dinAt at hf
  refine am_start hH (fun H locs hH => ?_)
  refine lv_aload_n hx hb dX12_dinAt_0 rfl (lv_at hl 0 rfl) ?_
  refine am_get hx hb hts hK hown hH (am_o12 (p := 271) (by decide +kernel)) rfl am_inX12 10 (by decide) am_q1329 (v := .ref (G.1 + 276)) rfl dX12_dinAt_1 ?_
  refine lv_iconst (v := 3) hx hb dX12_dinAt_4 (by decide) ?_
  obtain ⟨hi_33, hf⟩ := am_chk_some hf
  refine am_iald hx hb hK hH (am_ai_of (N := 4) (by decide +kernel)) hi_33 dX12_dinAt_5 ?_
  refine lv_i2f hx hb dX12_dinAt_6 ?_
  refine lv_ldcf (v := 1092616192) hx hb hown (hts _ am_q1497) dX12_dinAt_7 ?_
  obtain ⟨hn_34, hf⟩ := am_n32_some hf
  refine lv_fdiv hx hb dX12_dinAt_9 hn_34 ?_
  obtain ⟨x3_35, hx3_35, hf⟩ := am_v_some hf
  refine am_topf hx3_35 ?_
  refine lv_fstore_n (lv' := [(3, .float x3_35), (0, .ref (G.1 + 271)), (1, .int a1), (2, .int a2)]) hx hb dX12_dinAt_10 rfl hl (by decide) rfl (fun ls hl => ?_)
  refine lv_iconst (v := 0) hx hb dX12_dinAt_11 (by decide) ?_
  refine lv_istore (lv' := [(4, .int (0 : Int32)), (3, .float x3_35), (0, .ref (G.1 + 271)), (1, .int a1), (2, .int a2)]) hx hb dX12_dinAt_12 hl (by decide) rfl (fun ls hl => ?_)
  exact P14 am_fuel x3_35 (0 : Int32) w H locs ls hf hH (lv_sub hl [2, 3, 4, 1, 0] rfl)

def f_X12_bar (a1 : Int32) (a2 : Int32) (w : am_S) : Option (UInt32 × am_S) :=
  am_chk (30 : Int32) 245 (am_n32 (FP.fdiv (FP.i2f (w.1 281 (30 : Int32).toNatClampNeg)) (1092616192 : UInt32)) (am_v (FP.fdiv (FP.i2f (w.1 281 (30 : Int32).toNatClampNeg)) (1092616192 : UInt32)) fun (x3_10 : UInt32) => am_b2 (f_X12_dinAt a1 a2 w) fun r_13 w_11 => am_n32 (FP.fmul x3_10 r_13) (some (FP.fmul x3_10 r_13, w_11))))
set_option maxRecDepth 100000 in
set_option maxHeartbeats 4000000 in
theorem k_X12_bar {G : am_G} {l : Launch} {a1 : Int32} {a2 : Int32}  {w : am_S} {rr : UInt32} {ww : am_S} (hf : f_X12_bar a1 a2 w = some (rr, ww)) : am_Mf G l yX12_bar (Cond.code yX12_bar cX12_bar 4 (some .float) :: am_T) { frames := 3, cells := 0, slots := 0, locals := 192 } [.ref (G.1 + 271), .int a1, .int a2] w rr ww := by
  refine Met.ofW (cc := cX12_bar) (maxL := 4) (ret := (some .float)) (by decide) rfl ?_
  intro p e s m args below meth c s₁ B hml hv
  obtain ⟨rfl, hx, hb, hr, hts, hown, hlocks, hK, hE, hH⟩ := am_begin B hv
  have hown : s.vm.findClass RX12 = some m.cls := hown
  show W p l e { frames := 3, cells := 0, slots := 0, locals := 192 } s m _ below meth c s.heap [] 0 0 _ _
  refine am_enter (lv := [(0, .ref (G.1 + 271)), (1, .int a1), (2, .int a2)]) (Nat.le_of_ble_eq_true rfl) rfl (fun ls hl => ?_)
  unfold f_X12_bar at hf
  refine am_start hH (fun H locs hH => ?_)
  refine lv_aload_n hx hb dX12_bar_0 rfl (lv_at hl 0 rfl) ?_
  refine am_get hx hb hts hK hown hH (am_o12 (p := 271) (by decide +kernel)) rfl am_inX12 17 (by decide) am_q1336 (v := .ref (G.1 + 281)) rfl dX12_bar_1 ?_
  refine lv_bipush (v := 30) hx hb dX12_bar_4 (by decide) ?_
  obtain ⟨hi_8, hf⟩ := am_chk_some hf
  refine am_iald hx hb hK hH (am_ai_of (N := 245) (by decide +kernel)) hi_8 dX12_bar_6 ?_
  refine lv_i2f hx hb dX12_bar_7 ?_
  refine lv_ldcf (v := 1092616192) hx hb hown (hts _ am_q1497) dX12_bar_8 ?_
  obtain ⟨hn_9, hf⟩ := am_n32_some hf
  refine lv_fdiv hx hb dX12_bar_10 hn_9 ?_
  obtain ⟨x3_10, hx3_10, hf⟩ := am_v_some hf
  refine am_topf hx3_10 ?_
  refine lv_fstore_n (lv' := [(3, .float x3_10), (0, .ref (G.1 + 271)), (1, .int a1), (2, .int a2)]) hx hb dX12_bar_11 rfl hl (by decide) rfl (fun ls hl => ?_)
  refine lv_fload_n hx hb dX12_bar_12 rfl (lv_at hl 0 rfl) ?_
  refine lv_aload_n hx hb dX12_bar_13 rfl (lv_at hl 1 rfl) ?_
  refine lv_iload_n hx hb dX12_bar_14 rfl (lv_at hl 2 rfl) ?_
  refine lv_iload_n hx hb dX12_bar_15 rfl (lv_at hl 3 rfl) ?_
  obtain ⟨r_13, w_11, hq_12, hf⟩ := am_b2_some hf
  refine am_callf (r := r_13) (w' := w_11) (am_runV (n := 2) (As := [.int a1, .int a2]) (rest := [.float x3_10]) ⟨hx, hb, hml, hown, hts⟩ hK hE hH (k_X12_dinAt hq_12) (am_gV am_q1550 am_q1552 am_qs68 am_q13 am_q1553) (am_o12 (p := 271) (by decide +kernel)) rfl ⟨rfl, rfl⟩ (by decide +kernel) ⟨Nat.le_of_ble_eq_true rfl, Nat.le_of_ble_eq_true rfl⟩ rfl hl.1 rfl (Nat.le_of_ble_eq_true rfl) ⟨Nat.zero_le _, Nat.zero_le _⟩ dX12_bar_16) hH (fun H locs hH => ?_)
  obtain ⟨hn_14, hf⟩ := am_n32_some hf
  refine lv_fmul hx hb dX12_bar_19 hn_14 ?_
  exact am_retf hx hb hr hlocks hH hf dX12_bar_20

def f_X12_unknownIn_37 (a1 : Int32) (x3 : Int32) (s0 : Int32) (s1 : Int32) (w : am_S) : Option ((Int32 × am_S) ⊕ (Int32 × Int32 × am_S)) :=
  am_v (s1 ||| s0) fun (x2_12 : Int32) => am_v (x3 + (1 : Int32)) fun (x3_13 : Int32) => some (.inr (x2_12, x3_13, w))
def f_X12_unknownIn_36 (a1 : Int32) (x3 : Int32) (s0 : Int32) (w : am_S) : Option ((Int32 × am_S) ⊕ (Int32 × Int32 × am_S)) :=
  f_X12_unknownIn_37 a1 x3 (0 : Int32) s0 w
def f_X12_unknownIn_4b (a1 : Int32) (x2 : Int32) (x3 : Int32) (w : am_S) : Option ((Int32 × am_S) ⊕ (Int32 × Int32 × am_S)) :=
  if (w.1 271 13) ≤ x3 then (am_x (some (x2, w))) else (am_b2 (f_X12_isUnknown x3 w) fun r_18 w_16 => if r_18 = 0 then (f_X12_unknownIn_36 a1 x3 x2 w_16) else (am_b2 (f_X12_hasCopy x3 a1 w_16) fun r_22 w_20 => if r_22 = 0 then (f_X12_unknownIn_36 a1 x3 x2 w_20) else (f_X12_unknownIn_37 a1 x3 ((1 : Int32) <<< (x3 &&& 31)) x2 w_20)))
def f_X12_unknownIn_4 (a1 : Int32) (x2 : Int32) (x3 : Int32) (w : am_S) : Option (Int32 × am_S) :=
  am_loop (fun (st : (Int32 × Int32 × am_S)) => f_X12_unknownIn_4b a1 st.1 st.2.1 st.2.2) am_fuel (x2, x3, w)
def f_X12_unknownIn (a1 : Int32) (w : am_S) : Option (Int32 × am_S) :=
  f_X12_unknownIn_4 a1 (0 : Int32) (0 : Int32) w
set_option maxRecDepth 100000 in
set_option maxHeartbeats 4000000 in
theorem k_X12_unknownIn {G : am_G} {l : Launch} {a1 : Int32}  {w : am_S} {rr : Int32} {ww : am_S} (hf : f_X12_unknownIn a1 w = some (rr, ww)) : am_Mi G l yX12_unknownIn (Cond.code yX12_unknownIn cX12_unknownIn 4 (some .int) :: am_T) { frames := 2, cells := 0, slots := 0, locals := 128 } [.ref (G.1 + 271), .int a1] w rr ww := by
  refine Met.ofW (cc := cX12_unknownIn) (maxL := 4) (ret := (some .int)) (by decide) rfl ?_
  intro p e s m args below meth c s₁ B hml hv
  obtain ⟨rfl, hx, hb, hr, hts, hown, hlocks, hK, hE, hH⟩ := am_begin B hv
  have hown : s.vm.findClass RX12 = some m.cls := hown
  show W p l e { frames := 2, cells := 0, slots := 0, locals := 128 } s m _ below meth c s.heap [] 0 0 _ _
  have P4 : ∀ (n1 : Nat) (x2 : Int32) (x3 : Int32) (w : am_S) (H : Heap) (locs : List Loc) (ls : Array Slot), am_loop (fun (st : (Int32 × Int32 × am_S)) => f_X12_unknownIn_4b a1 st.1 st.2.1 st.2.2) n1 (x2, x3, w) = some (rr, ww) → am_H G w s H locs → lv_has ls 4 [(0, .ref (G.1 + 271)), (1, .int a1), (2, .int x2), (3, .int x3)] → W p l e { frames := 2, cells := 0, slots := 0, locals := 128 } s m [.ref (G.1 + 271), .int a1].toArray below meth c H locs 0 0 (MQ below (va_Qi (fun (x : Int32) (u : am_S) => x = rr ∧ u = ww) (am_U G) (am_A G)) [.ref (G.1 + 271), .int a1].toArray s 0 0 (am_A G)) (F0 m 4 ls []) := by
    intro n1
    induction n1 with
    | zero =>
      intro x2 x3 w H locs ls hf hH hl
      exact (am_loop_zero hf).elim
    | succ n1 ih1 =>
      intro x2 x3 w H locs ls hf hH hl
      obtain ⟨z1, hf, hk1⟩ := am_loop_succ hf
      have hf : f_X12_unknownIn_4b a1 x2 x3 w = some z1 := hf
      have P37 : ∀ (x3 : Int32) (s0 : Int32) (s1 : Int32) (w : am_S) (z1 : ((Int32 × am_S) ⊕ (Int32 × Int32 × am_S))) (H : Heap) (locs : List Loc) (ls : Array Slot), f_X12_unknownIn_37 a1 x3 s0 s1 w = some z1 → am_lk (fun (st : (Int32 × Int32 × am_S)) => f_X12_unknownIn_4b a1 st.1 st.2.1 st.2.2) n1 (rr, ww) z1 → am_H G w s H locs → lv_has ls 4 [(0, .ref (G.1 + 271)), (1, .int a1), (3, .int x3)] → W p l e { frames := 2, cells := 0, slots := 0, locals := 128 } s m [.ref (G.1 + 271), .int a1].toArray below meth c H locs 0 0 (MQ below (va_Qi (fun (x : Int32) (u : am_S) => x = rr ∧ u = ww) (am_U G) (am_A G)) [.ref (G.1 + 271), .int a1].toArray s 0 0 (am_A G)) (F0 m 37 ls [.int s0, .int s1]) := by
        intro x3 s0 s1 w z1 H locs ls hf hk1 hH hl
        unfold f_X12_unknownIn_37 at hf
        refine lv_ior hx hb dX12_unknownIn_37 ?_
        obtain ⟨x2_12, hx2_12, hf⟩ := am_v_some hf
        refine am_topi hx2_12 ?_
        refine lv_istore_n (lv' := [(2, .int x2_12), (0, .ref (G.1 + 271)), (1, .int a1), (3, .int x3)]) hx hb dX12_unknownIn_38 rfl hl (by decide) rfl (fun ls hl => ?_)
        obtain ⟨x3_13, hx3_13, hf⟩ := am_v_some hf
        refine lv_iinc (v := x3_13) (lv' := [(3, .int x3_13), (2, .int x2_12), (0, .ref (G.1 + 271)), (1, .int a1)]) hx hb dX12_unknownIn_39 hl (k := 3) rfl (by rw [hx3_13]; rfl) (by decide) rfl (fun ls hl => ?_)
        refine lv_goto (tgt := 4) hx hb dX12_unknownIn_42 (by decide) ?_
        obtain rfl := Option.some.inj hf
        exact ih1 x2_12 x3_13 w H locs ls hk1 hH (lv_sub hl [2, 3, 1, 0] rfl)
      have P36 : ∀ (x3 : Int32) (s0 : Int32) (w : am_S) (z1 : ((Int32 × am_S) ⊕ (Int32 × Int32 × am_S))) (H : Heap) (locs : List Loc) (ls : Array Slot), f_X12_unknownIn_36 a1 x3 s0 w = some z1 → am_lk (fun (st : (Int32 × Int32 × am_S)) => f_X12_unknownIn_4b a1 st.1 st.2.1 st.2.2) n1 (rr, ww) z1 → am_H G w s H locs → lv_has ls 4 [(0, .ref (G.1 + 271)), (1, .int a1), (3, .int x3)] → W p l e { frames := 2, cells := 0, slots := 0, locals := 128 } s m [.ref (G.1 + 271), .int a1].toArray below meth c H locs 0 0 (MQ below (va_Qi (fun (x : Int32) (u : am_S) => x = rr ∧ u = ww) (am_U G) (am_A G)) [.ref (G.1 + 271), .int a1].toArray s 0 0 (am_A G)) (F0 m 36 ls [.int s0]) := by
        intro x3 s0 w z1 H locs ls hf hk1 hH hl
        unfold f_X12_unknownIn_36 at hf
        refine lv_iconst (v := 0) hx hb dX12_unknownIn_36 (by decide) ?_
        exact P37 x3 (0 : Int32) s0 w z1 H locs ls hf hk1 hH (lv_sub hl [0, 1, 2] rfl)
      unfold f_X12_unknownIn_4b at hf
      refine lv_iload_n hx hb dX12_unknownIn_4 rfl (lv_at hl 3 rfl) ?_
      refine lv_aload_n hx hb dX12_unknownIn_5 rfl (lv_at hl 0 rfl) ?_
      refine am_get hx hb hts hK hown hH (am_o12 (p := 271) (by decide +kernel)) rfl am_inX12 13 (by decide) am_q1332 (v := .int (w.1 271 13)) rfl dX12_unknownIn_6 ?_
      refine lv_icmp_ge (tgt := 45) hx hb dX12_unknownIn_9 (by decide) (fun hc_14 => ?_) (fun hc_14 => ?_)
      · have hf := (if_pos hc_14).symm.trans hf
        obtain ⟨y_15, hf, hzy_15⟩ := am_x_some hf
        rw [hzy_15] at hk1
        have hf := hf.trans (congrArg some (show y_15 = (rr, ww) from hk1))
        refine lv_iload_n hx hb dX12_unknownIn_45 rfl (lv_at hl 2 rfl) ?_
        exact am_reti hx hb hr hlocks hH hf dX12_unknownIn_46
      · have hf := (if_neg hc_14).symm.trans hf
        refine lv_iload_n hx hb dX12_unknownIn_12 rfl (lv_at hl 2 rfl) ?_
        refine lv_aload_n hx hb dX12_unknownIn_13 rfl (lv_at hl 0 rfl) ?_
        refine lv_iload_n hx hb dX12_unknownIn_14 rfl (lv_at hl 3 rfl) ?_
        obtain ⟨r_18, w_16, hq_17, hf⟩ := am_b2_some hf
        refine am_calli (r := r_18) (w' := w_16) (am_runV (n := 1) (As := [.int x3]) (rest := [.int x2]) ⟨hx, hb, hml, hown, hts⟩ hK hE hH (k_X12_isUnknown hq_17) (am_gV am_q1534 am_q1536 am_qs64 am_q13 am_q1537) (am_o12 (p := 271) (by decide +kernel)) rfl ⟨rfl, rfl⟩ (by decide +kernel) ⟨Nat.le_of_ble_eq_true rfl, Nat.le_of_ble_eq_true rfl⟩ rfl hl.1 rfl (Nat.le_of_ble_eq_true rfl) ⟨Nat.zero_le _, Nat.zero_le _⟩ dX12_unknownIn_15) hH (fun H locs hH => ?_)
        refine lv_if_eq (tgt := 36) hx hb dX12_unknownIn_18 (by decide) (fun hc_19 => ?_) (fun hc_19 => ?_)
        · have hf := (if_pos hc_19).symm.trans hf
          exact P36 x3 x2 w_16 z1 H locs ls hf hk1 hH (lv_sub hl [0, 1, 3] rfl)
        · have hf := (if_neg hc_19).symm.trans hf
          refine lv_aload_n hx hb dX12_unknownIn_21 rfl (lv_at hl 0 rfl) ?_
          refine lv_iload_n hx hb dX12_unknownIn_22 rfl (lv_at hl 3 rfl) ?_
          refine lv_iload_n hx hb dX12_unknownIn_23 rfl (lv_at hl 1 rfl) ?_
          obtain ⟨r_22, w_20, hq_21, hf⟩ := am_b2_some hf
          refine am_calli (r := r_22) (w' := w_20) (am_runV (n := 2) (As := [.int x3, .int a1]) (rest := [.int x2]) ⟨hx, hb, hml, hown, hts⟩ hK hE hH (k_X12_hasCopy hq_21) (am_gV am_q1538 am_q1540 am_qs65 am_q13 am_q1541) (am_o12 (p := 271) (by decide +kernel)) rfl ⟨rfl, rfl⟩ (by decide +kernel) ⟨Nat.le_of_ble_eq_true rfl, Nat.le_of_ble_eq_true rfl⟩ rfl hl.1 rfl (Nat.le_of_ble_eq_true rfl) ⟨Nat.zero_le _, Nat.zero_le _⟩ dX12_unknownIn_24) hH (fun H locs hH => ?_)
          refine lv_if_eq (tgt := 36) hx hb dX12_unknownIn_27 (by decide) (fun hc_23 => ?_) (fun hc_23 => ?_)
          · have hf := (if_pos hc_23).symm.trans hf
            exact P36 x3 x2 w_20 z1 H locs ls hf hk1 hH (lv_sub hl [0, 1, 3] rfl)
          · have hf := (if_neg hc_23).symm.trans hf
            refine lv_iconst (v := 1) hx hb dX12_unknownIn_30 (by decide) ?_
            refine lv_iload_n hx hb dX12_unknownIn_31 rfl (lv_at hl 3 rfl) ?_
            refine lv_ishl hx hb dX12_unknownIn_32 ?_
            refine lv_goto (tgt := 37) hx hb dX12_unknownIn_33 (by decide) ?_
            exact P37 x3 ((1 : Int32) <<< (x3 &&& 31)) x2 w_20 z1 H locs ls hf hk1 hH (lv_sub hl [0, 1, 3] rfl)
  refine am_enter (lv := [(0, .ref (G.1 + 271)), (1, .int a1)]) (Nat.le_of_ble_eq_true rfl) rfl (fun ls hl => ?_)
  unfold f_X12_unknownIn at hf
  refine am_start hH (fun H locs hH => ?_)
  refine lv_iconst (v := 0) hx hb dX12_unknownIn_0 (by decide) ?_
  refine lv_istore_n (lv' := [(2, .int (0 : Int32)), (0, .ref (G.1 + 271)), (1, .int a1)]) hx hb dX12_unknownIn_1 rfl hl (by decide) rfl (fun ls hl => ?_)
  refine lv_iconst (v := 0) hx hb dX12_unknownIn_2 (by decide) ?_
  refine lv_istore_n (lv' := [(3, .int (0 : Int32)), (2, .int (0 : Int32)), (0, .ref (G.1 + 271)), (1, .int a1)]) hx hb dX12_unknownIn_3 rfl hl (by decide) rfl (fun ls hl => ?_)
  exact P4 am_fuel (0 : Int32) (0 : Int32) w H locs ls hf hH (lv_sub hl [2, 3, 1, 0] rfl)

def f_X12_isClear_30 (a1 : Int32) (a2 : Int32) (w : am_S) : Option (Int32 × am_S) :=
  some ((0 : Int32), w)
def f_X12_isClear_82 (a1 : Int32) (a2 : Int32) (s0 : Int32) (w : am_S) : Option (Int32 × am_S) :=
  am_nar .boolean s0 (some (s0, w))
def f_X12_isClear (a1 : Int32) (a2 : Int32) (w : am_S) : Option (Int32 × am_S) :=
  am_b2 (f_X12_isUnknown a1 w) fun r_24 w_22 => if r_24 = 0 then (f_X12_isClear_30 a1 a2 w_22) else (am_b2 (f_X12_hasCopy a1 a2 w_22) fun r_28 w_26 => if r_28 = 0 then (f_X12_isClear_30 a1 a2 w_26) else (if (lg_cmp ((am_lshr (w_26.2.1 271 20) a2) &&& (1 : Int64)) (1 : Int64)) = 0 then (f_X12_isClear_30 a1 a2 w_26) else (am_chk (30 : Int32) 245 (if (w_26.1 281 (30 : Int32).toNatClampNeg) = 0 then (am_b2 (f_X12_unknownIn a2 w_26) fun r_40 w_38 => if r_40 = ((1 : Int32) <<< (a1 &&& 31)) then (f_X12_isClear_82 a1 a2 (1 : Int32) w_38) else (f_X12_isClear_82 a1 a2 (0 : Int32) w_38)) else (am_chk a1 10 (am_b2 (f_X12_bar a1 a2 w_26) fun r_36 w_34 => if (Op.cmpValue (FP.fcmp (w_26.2.2 283 a1.toNatClampNeg) r_36) .l) < 0 then (f_X12_isClear_82 a1 a2 (0 : Int32) w_34) else (f_X12_isClear_82 a1 a2 (1 : Int32) w_34)))))))
set_option maxRecDepth 100000 in
set_option maxHeartbeats 4000000 in
theorem k_X12_isClear {G : am_G} {l : Launch} {a1 : Int32} {a2 : Int32}  {w : am_S} {rr : Int32} {ww : am_S} (hf : f_X12_isClear a1 a2 w = some (rr, ww)) : am_Mi G l yX12_isClear (Cond.code yX12_isClear cX12_isClear 3 (some .boolean) :: am_T) { frames := 4, cells := 0, slots := 0, locals := 256 } [.ref (G.1 + 271), .int a1, .int a2] w rr ww := by
  refine Met.ofW (cc := cX12_isClear) (maxL := 3) (ret := (some .boolean)) (by decide) rfl ?_
  intro p e s m args below meth c s₁ B hml hv
  obtain ⟨rfl, hx, hb, hr, hts, hown, hlocks, hK, hE, hH⟩ := am_begin B hv
  have hown : s.vm.findClass RX12 = some m.cls := hown
  show W p l e { frames := 4, cells := 0, slots := 0, locals := 256 } s m _ below meth c s.heap [] 0 0 _ _
  have P30 : ∀ (w : am_S) (H : Heap) (locs : List Loc) (ls : Array Slot), f_X12_isClear_30 a1 a2 w = some (rr, ww) → am_H G w s H locs → lv_has ls 3 [] → W p l e { frames := 4, cells := 0, slots := 0, locals := 256 } s m [.ref (G.1 + 271), .int a1, .int a2].toArray below meth c H locs 0 0 (MQ below (va_Qi (fun (x : Int32) (u : am_S) => x = rr ∧ u = ww) (am_U G) (am_A G)) [.ref (G.1 + 271), .int a1, .int a2].toArray s 0 0 (am_A G)) (F0 m 30 ls []) := by
    intro w H locs ls hf hH hl
    unfold f_X12_isClear_30 at hf
    refine lv_iconst (v := 0) hx hb dX12_isClear_30 (by decide) ?_
    exact am_retz hx hb hr rfl hlocks hH hf dX12_isClear_31
  have P82 : ∀ (s0 : Int32) (w : am_S) (H : Heap) (locs : List Loc) (ls : Array Slot), f_X12_isClear_82 a1 a2 s0 w = some (rr, ww) → am_H G w s H locs → lv_has ls 3 [] → W p l e { frames := 4, cells := 0, slots := 0, locals := 256 } s m [.ref (G.1 + 271), .int a1, .int a2].toArray below meth c H locs 0 0 (MQ below (va_Qi (fun (x : Int32) (u : am_S) => x = rr ∧ u = ww) (am_U G) (am_A G)) [.ref (G.1 + 271), .int a1, .int a2].toArray s 0 0 (am_A G)) (F0 m 82 ls [.int s0]) := by
    intro s0 w H locs ls hf hH hl
    unfold f_X12_isClear_82 at hf
    obtain ⟨hr_21, hf⟩ := am_nar_some hf
    exact am_retz hx hb hr hr_21.1 hlocks hH hf dX12_isClear_82
  refine am_enter (lv := [(0, .ref (G.1 + 271)), (1, .int a1), (2, .int a2)]) (Nat.le_of_ble_eq_true rfl) rfl (fun ls hl => ?_)
  unfold f_X12_isClear at hf
  refine am_start hH (fun H locs hH => ?_)
  refine lv_aload_n hx hb dX12_isClear_0 rfl (lv_at hl 0 rfl) ?_
  refine lv_iload_n hx hb dX12_isClear_1 rfl (lv_at hl 1 rfl) ?_
  obtain ⟨r_24, w_22, hq_23, hf⟩ := am_b2_some hf
  refine am_calli (r := r_24) (w' := w_22) (am_runV (n := 1) (As := [.int a1]) (rest := []) ⟨hx, hb, hml, hown, hts⟩ hK hE hH (k_X12_isUnknown hq_23) (am_gV am_q1534 am_q1536 am_qs64 am_q13 am_q1537) (am_o12 (p := 271) (by decide +kernel)) rfl ⟨rfl, rfl⟩ (by decide +kernel) ⟨Nat.le_of_ble_eq_true rfl, Nat.le_of_ble_eq_true rfl⟩ rfl hl.1 rfl (Nat.le_of_ble_eq_true rfl) ⟨Nat.zero_le _, Nat.zero_le _⟩ dX12_isClear_2) hH (fun H locs hH => ?_)
  refine lv_if_eq (tgt := 30) hx hb dX12_isClear_5 (by decide) (fun hc_25 => ?_) (fun hc_25 => ?_)
  · have hf := (if_pos hc_25).symm.trans hf
    exact P30 w_22 H locs ls hf hH (lv_sub hl [] rfl)
  · have hf := (if_neg hc_25).symm.trans hf
    refine lv_aload_n hx hb dX12_isClear_8 rfl (lv_at hl 0 rfl) ?_
    refine lv_iload_n hx hb dX12_isClear_9 rfl (lv_at hl 1 rfl) ?_
    refine lv_iload_n hx hb dX12_isClear_10 rfl (lv_at hl 2 rfl) ?_
    obtain ⟨r_28, w_26, hq_27, hf⟩ := am_b2_some hf
    refine am_calli (r := r_28) (w' := w_26) (am_runV (n := 2) (As := [.int a1, .int a2]) (rest := []) ⟨hx, hb, hml, hown, hts⟩ hK hE hH (k_X12_hasCopy hq_27) (am_gV am_q1538 am_q1540 am_qs65 am_q13 am_q1541) (am_o12 (p := 271) (by decide +kernel)) rfl ⟨rfl, rfl⟩ (by decide +kernel) ⟨Nat.le_of_ble_eq_true rfl, Nat.le_of_ble_eq_true rfl⟩ rfl hl.1 rfl (Nat.le_of_ble_eq_true rfl) ⟨Nat.zero_le _, Nat.zero_le _⟩ dX12_isClear_11) hH (fun H locs hH => ?_)
    refine lv_if_eq (tgt := 30) hx hb dX12_isClear_14 (by decide) (fun hc_29 => ?_) (fun hc_29 => ?_)
    · have hf := (if_pos hc_29).symm.trans hf
      exact P30 w_26 H locs ls hf hH (lv_sub hl [] rfl)
    · have hf := (if_neg hc_29).symm.trans hf
      refine lv_aload_n hx hb dX12_isClear_17 rfl (lv_at hl 0 rfl) ?_
      refine am_get hx hb hts hK hown hH (am_o12 (p := 271) (by decide +kernel)) rfl am_inX12 20 (by decide) am_q1339 (v := .long (w_26.2.1 271 20)) rfl dX12_isClear_18 ?_
      refine lv_iload_n hx hb dX12_isClear_21 rfl (lv_at hl 2 rfl) ?_
      refine lv_lshr (v := am_lshr (w_26.2.1 271 20) a2) hx hb dX12_isClear_22 rfl ?_
      refine lv_lconst (v := 1) hx hb dX12_isClear_23 (by decide) ?_
      refine lv_land hx hb dX12_isClear_24 ?_
      refine lv_lconst (v := 1) hx hb dX12_isClear_25 (by decide) ?_
      refine W.lcmp hx hb dX12_isClear_26 ?_
      refine lv_if_ne (tgt := 32) hx hb dX12_isClear_27 (by decide) (fun hc_30 => ?_) (fun hc_30 => ?_)
      · have hf := (if_neg hc_30).symm.trans hf
        refine lv_aload_n hx hb dX12_isClear_32 rfl (lv_at hl 0 rfl) ?_
        refine am_get hx hb hts hK hown hH (am_o12 (p := 271) (by decide +kernel)) rfl am_inX12 17 (by decide) am_q1336 (v := .ref (G.1 + 281)) rfl dX12_isClear_33 ?_
        refine lv_bipush (v := 30) hx hb dX12_isClear_36 (by decide) ?_
        obtain ⟨hi_31, hf⟩ := am_chk_some hf
        refine am_iald hx hb hK hH (am_ai_of (N := 245) (by decide +kernel)) hi_31 dX12_isClear_38 ?_
        refine lv_if_ne (tgt := 61) hx hb dX12_isClear_39 (by decide) (fun hc_32 => ?_) (fun hc_32 => ?_)
        · have hf := (if_neg hc_32).symm.trans hf
          refine lv_aload_n hx hb dX12_isClear_61 rfl (lv_at hl 0 rfl) ?_
          refine am_get hx hb hts hK hown hH (am_o12 (p := 271) (by decide +kernel)) rfl am_inX12 19 (by decide) am_q1338 (v := .ref (G.1 + 283)) rfl dX12_isClear_62 ?_
          refine lv_iload_n hx hb dX12_isClear_65 rfl (lv_at hl 1 rfl) ?_
          obtain ⟨hi_33, hf⟩ := am_chk_some hf
          refine am_fald hx hb hK hH (am_af_of (N := 10) (by decide +kernel)) hi_33 dX12_isClear_66 ?_
          refine lv_aload_n hx hb dX12_isClear_67 rfl (lv_at hl 0 rfl) ?_
          refine lv_iload_n hx hb dX12_isClear_68 rfl (lv_at hl 1 rfl) ?_
          refine lv_iload_n hx hb dX12_isClear_69 rfl (lv_at hl 2 rfl) ?_
          obtain ⟨r_36, w_34, hq_35, hf⟩ := am_b2_some hf
          refine am_callf (r := r_36) (w' := w_34) (am_runV (n := 2) (As := [.int a1, .int a2]) (rest := [.float (w_26.2.2 283 a1.toNatClampNeg)]) ⟨hx, hb, hml, hown, hts⟩ hK hE hH (k_X12_bar hq_35) (am_gV am_q1546 am_q1548 am_qs67 am_q13 am_q1549) (am_o12 (p := 271) (by decide +kernel)) rfl ⟨rfl, rfl⟩ (by decide +kernel) ⟨Nat.le_of_ble_eq_true rfl, Nat.le_of_ble_eq_true rfl⟩ rfl hl.1 rfl (Nat.le_of_ble_eq_true rfl) ⟨Nat.zero_le _, Nat.zero_le _⟩ dX12_isClear_70) hH (fun H locs hH => ?_)
          refine lv_fcmp hx hb dX12_isClear_73 ?_
          refine lv_if_lt (tgt := 81) hx hb dX12_isClear_74 (by decide) (fun hc_37 => ?_) (fun hc_37 => ?_)
          · have hf := (if_pos hc_37).symm.trans hf
            refine lv_iconst (v := 0) hx hb dX12_isClear_81 (by decide) ?_
            exact P82 (0 : Int32) w_34 H locs ls hf hH (lv_sub hl [] rfl)
          · have hf := (if_neg hc_37).symm.trans hf
            refine lv_iconst (v := 1) hx hb dX12_isClear_77 (by decide) ?_
            refine lv_goto (tgt := 82) hx hb dX12_isClear_78 (by decide) ?_
            exact P82 (1 : Int32) w_34 H locs ls hf hH (lv_sub hl [] rfl)
        · have hf := (if_pos hc_32).symm.trans hf
          refine lv_aload_n hx hb dX12_isClear_42 rfl (lv_at hl 0 rfl) ?_
          refine lv_iload_n hx hb dX12_isClear_43 rfl (lv_at hl 2 rfl) ?_
          obtain ⟨r_40, w_38, hq_39, hf⟩ := am_b2_some hf
          refine am_calli (r := r_40) (w' := w_38) (am_runV (n := 1) (As := [.int a2]) (rest := []) ⟨hx, hb, hml, hown, hts⟩ hK hE hH (k_X12_unknownIn hq_39) (am_gV am_q1542 am_q1544 am_qs66 am_q13 am_q1545) (am_o12 (p := 271) (by decide +kernel)) rfl ⟨rfl, rfl⟩ (by decide +kernel) ⟨Nat.le_of_ble_eq_true rfl, Nat.le_of_ble_eq_true rfl⟩ rfl hl.1 rfl (Nat.le_of_ble_eq_true rfl) ⟨Nat.zero_le _, Nat.zero_le _⟩ dX12_isClear_44) hH (fun H locs hH => ?_)
          refine lv_iconst (v := 1) hx hb dX12_isClear_47 (by decide) ?_
          refine lv_iload_n hx hb dX12_isClear_48 rfl (lv_at hl 1 rfl) ?_
          refine lv_ishl hx hb dX12_isClear_49 ?_
          refine lv_icmp_ne (tgt := 57) hx hb dX12_isClear_50 (by decide) (fun hc_41 => ?_) (fun hc_41 => ?_)
          · have hf := (if_neg hc_41).symm.trans hf
            refine lv_iconst (v := 0) hx hb dX12_isClear_57 (by decide) ?_
            refine lv_goto (tgt := 82) hx hb dX12_isClear_58 (by decide) ?_
            exact P82 (0 : Int32) w_38 H locs ls hf hH (lv_sub hl [] rfl)
          · have hf := (if_pos hc_41).symm.trans hf
            refine lv_iconst (v := 1) hx hb dX12_isClear_53 (by decide) ?_
            refine lv_goto (tgt := 82) hx hb dX12_isClear_54 (by decide) ?_
            exact P82 (1 : Int32) w_38 H locs ls hf hH (lv_sub hl [] rfl)
      · have hf := (if_pos hc_30).symm.trans hf
        exact P30 w_26 H locs ls hf hH (lv_sub hl [] rfl)

def f_X12_clearIn_29 (a1 : Int32) (x3 : Int32) (s0 : Int32) (s1 : Int32) (w : am_S) : Option ((Int32 × am_S) ⊕ (Int32 × Int32 × am_S)) :=
  am_v (s1 ||| s0) fun (x2_8 : Int32) => am_v (x3 + (1 : Int32)) fun (x3_9 : Int32) => some (.inr (x2_8, x3_9, w))
def f_X12_clearIn_4b (a1 : Int32) (x2 : Int32) (x3 : Int32) (w : am_S) : Option ((Int32 × am_S) ⊕ (Int32 × Int32 × am_S)) :=
  if (w.1 271 13) ≤ x3 then (am_x (some (x2, w))) else (am_b2 (f_X12_isClear x3 a1 w) fun r_14 w_12 => if r_14 = 0 then (f_X12_clearIn_29 a1 x3 (0 : Int32) x2 w_12) else (f_X12_clearIn_29 a1 x3 ((1 : Int32) <<< (x3 &&& 31)) x2 w_12))
def f_X12_clearIn_4 (a1 : Int32) (x2 : Int32) (x3 : Int32) (w : am_S) : Option (Int32 × am_S) :=
  am_loop (fun (st : (Int32 × Int32 × am_S)) => f_X12_clearIn_4b a1 st.1 st.2.1 st.2.2) am_fuel (x2, x3, w)
def f_X12_clearIn (a1 : Int32) (w : am_S) : Option (Int32 × am_S) :=
  f_X12_clearIn_4 a1 (0 : Int32) (0 : Int32) w
set_option maxRecDepth 100000 in
set_option maxHeartbeats 4000000 in
theorem k_X12_clearIn {G : am_G} {l : Launch} {a1 : Int32}  {w : am_S} {rr : Int32} {ww : am_S} (hf : f_X12_clearIn a1 w = some (rr, ww)) : am_Mi G l yX12_clearIn (Cond.code yX12_clearIn cX12_clearIn 4 (some .int) :: am_T) { frames := 5, cells := 0, slots := 0, locals := 320 } [.ref (G.1 + 271), .int a1] w rr ww := by
  refine Met.ofW (cc := cX12_clearIn) (maxL := 4) (ret := (some .int)) (by decide) rfl ?_
  intro p e s m args below meth c s₁ B hml hv
  obtain ⟨rfl, hx, hb, hr, hts, hown, hlocks, hK, hE, hH⟩ := am_begin B hv
  have hown : s.vm.findClass RX12 = some m.cls := hown
  show W p l e { frames := 5, cells := 0, slots := 0, locals := 320 } s m _ below meth c s.heap [] 0 0 _ _
  have P4 : ∀ (n1 : Nat) (x2 : Int32) (x3 : Int32) (w : am_S) (H : Heap) (locs : List Loc) (ls : Array Slot), am_loop (fun (st : (Int32 × Int32 × am_S)) => f_X12_clearIn_4b a1 st.1 st.2.1 st.2.2) n1 (x2, x3, w) = some (rr, ww) → am_H G w s H locs → lv_has ls 4 [(0, .ref (G.1 + 271)), (1, .int a1), (2, .int x2), (3, .int x3)] → W p l e { frames := 5, cells := 0, slots := 0, locals := 320 } s m [.ref (G.1 + 271), .int a1].toArray below meth c H locs 0 0 (MQ below (va_Qi (fun (x : Int32) (u : am_S) => x = rr ∧ u = ww) (am_U G) (am_A G)) [.ref (G.1 + 271), .int a1].toArray s 0 0 (am_A G)) (F0 m 4 ls []) := by
    intro n1
    induction n1 with
    | zero =>
      intro x2 x3 w H locs ls hf hH hl
      exact (am_loop_zero hf).elim
    | succ n1 ih1 =>
      intro x2 x3 w H locs ls hf hH hl
      obtain ⟨z1, hf, hk1⟩ := am_loop_succ hf
      have hf : f_X12_clearIn_4b a1 x2 x3 w = some z1 := hf
      have P29 : ∀ (x3 : Int32) (s0 : Int32) (s1 : Int32) (w : am_S) (z1 : ((Int32 × am_S) ⊕ (Int32 × Int32 × am_S))) (H : Heap) (locs : List Loc) (ls : Array Slot), f_X12_clearIn_29 a1 x3 s0 s1 w = some z1 → am_lk (fun (st : (Int32 × Int32 × am_S)) => f_X12_clearIn_4b a1 st.1 st.2.1 st.2.2) n1 (rr, ww) z1 → am_H G w s H locs → lv_has ls 4 [(0, .ref (G.1 + 271)), (1, .int a1), (3, .int x3)] → W p l e { frames := 5, cells := 0, slots := 0, locals := 320 } s m [.ref (G.1 + 271), .int a1].toArray below meth c H locs 0 0 (MQ below (va_Qi (fun (x : Int32) (u : am_S) => x = rr ∧ u = ww) (am_U G) (am_A G)) [.ref (G.1 + 271), .int a1].toArray s 0 0 (am_A G)) (F0 m 29 ls [.int s0, .int s1]) := by
        intro x3 s0 s1 w z1 H locs ls hf hk1 hH hl
        unfold f_X12_clearIn_29 at hf
        refine lv_ior hx hb dX12_clearIn_29 ?_
        obtain ⟨x2_8, hx2_8, hf⟩ := am_v_some hf
        refine am_topi hx2_8 ?_
        refine lv_istore_n (lv' := [(2, .int x2_8), (0, .ref (G.1 + 271)), (1, .int a1), (3, .int x3)]) hx hb dX12_clearIn_30 rfl hl (by decide) rfl (fun ls hl => ?_)
        obtain ⟨x3_9, hx3_9, hf⟩ := am_v_some hf
        refine lv_iinc (v := x3_9) (lv' := [(3, .int x3_9), (2, .int x2_8), (0, .ref (G.1 + 271)), (1, .int a1)]) hx hb dX12_clearIn_31 hl (k := 3) rfl (by rw [hx3_9]; rfl) (by decide) rfl (fun ls hl => ?_)
        refine lv_goto (tgt := 4) hx hb dX12_clearIn_34 (by decide) ?_
        obtain rfl := Option.some.inj hf
        exact ih1 x2_8 x3_9 w H locs ls hk1 hH (lv_sub hl [2, 3, 1, 0] rfl)
      unfold f_X12_clearIn_4b at hf
      refine lv_iload_n hx hb dX12_clearIn_4 rfl (lv_at hl 3 rfl) ?_
      refine lv_aload_n hx hb dX12_clearIn_5 rfl (lv_at hl 0 rfl) ?_
      refine am_get hx hb hts hK hown hH (am_o12 (p := 271) (by decide +kernel)) rfl am_inX12 13 (by decide) am_q1332 (v := .int (w.1 271 13)) rfl dX12_clearIn_6 ?_
      refine lv_icmp_ge (tgt := 37) hx hb dX12_clearIn_9 (by decide) (fun hc_10 => ?_) (fun hc_10 => ?_)
      · have hf := (if_pos hc_10).symm.trans hf
        obtain ⟨y_11, hf, hzy_11⟩ := am_x_some hf
        rw [hzy_11] at hk1
        have hf := hf.trans (congrArg some (show y_11 = (rr, ww) from hk1))
        refine lv_iload_n hx hb dX12_clearIn_37 rfl (lv_at hl 2 rfl) ?_
        exact am_reti hx hb hr hlocks hH hf dX12_clearIn_38
      · have hf := (if_neg hc_10).symm.trans hf
        refine lv_iload_n hx hb dX12_clearIn_12 rfl (lv_at hl 2 rfl) ?_
        refine lv_aload_n hx hb dX12_clearIn_13 rfl (lv_at hl 0 rfl) ?_
        refine lv_iload_n hx hb dX12_clearIn_14 rfl (lv_at hl 3 rfl) ?_
        refine lv_iload_n hx hb dX12_clearIn_15 rfl (lv_at hl 1 rfl) ?_
        obtain ⟨r_14, w_12, hq_13, hf⟩ := am_b2_some hf
        refine am_calli (r := r_14) (w' := w_12) (am_runV (n := 2) (As := [.int x3, .int a1]) (rest := [.int x2]) ⟨hx, hb, hml, hown, hts⟩ hK hE hH (k_X12_isClear hq_13) (am_gV am_q1530 am_q1532 am_qs63 am_q13 am_q1533) (am_o12 (p := 271) (by decide +kernel)) rfl ⟨rfl, rfl⟩ (by decide +kernel) ⟨Nat.le_of_ble_eq_true rfl, Nat.le_of_ble_eq_true rfl⟩ rfl hl.1 rfl (Nat.le_of_ble_eq_true rfl) ⟨Nat.zero_le _, Nat.zero_le _⟩ dX12_clearIn_16) hH (fun H locs hH => ?_)
        refine lv_if_eq (tgt := 28) hx hb dX12_clearIn_19 (by decide) (fun hc_15 => ?_) (fun hc_15 => ?_)
        · have hf := (if_pos hc_15).symm.trans hf
          refine lv_iconst (v := 0) hx hb dX12_clearIn_28 (by decide) ?_
          exact P29 x3 (0 : Int32) x2 w_12 z1 H locs ls hf hk1 hH (lv_sub hl [0, 1, 3] rfl)
        · have hf := (if_neg hc_15).symm.trans hf
          refine lv_iconst (v := 1) hx hb dX12_clearIn_22 (by decide) ?_
          refine lv_iload_n hx hb dX12_clearIn_23 rfl (lv_at hl 3 rfl) ?_
          refine lv_ishl hx hb dX12_clearIn_24 ?_
          refine lv_goto (tgt := 29) hx hb dX12_clearIn_25 (by decide) ?_
          exact P29 x3 ((1 : Int32) <<< (x3 &&& 31)) x2 w_12 z1 H locs ls hf hk1 hH (lv_sub hl [0, 1, 3] rfl)
  refine am_enter (lv := [(0, .ref (G.1 + 271)), (1, .int a1)]) (Nat.le_of_ble_eq_true rfl) rfl (fun ls hl => ?_)
  unfold f_X12_clearIn at hf
  refine am_start hH (fun H locs hH => ?_)
  refine lv_iconst (v := 0) hx hb dX12_clearIn_0 (by decide) ?_
  refine lv_istore_n (lv' := [(2, .int (0 : Int32)), (0, .ref (G.1 + 271)), (1, .int a1)]) hx hb dX12_clearIn_1 rfl hl (by decide) rfl (fun ls hl => ?_)
  refine lv_iconst (v := 0) hx hb dX12_clearIn_2 (by decide) ?_
  refine lv_istore_n (lv' := [(3, .int (0 : Int32)), (2, .int (0 : Int32)), (0, .ref (G.1 + 271)), (1, .int a1)]) hx hb dX12_clearIn_3 rfl hl (by decide) rfl (fun ls hl => ?_)
  exact P4 am_fuel (0 : Int32) (0 : Int32) w H locs ls hf hH (lv_sub hl [2, 3, 1, 0] rfl)

def f_X12_wayIn_16 (a1 : Int32) (a2 : Int32) (s0 : Int32) (w : am_S) : Option (Int32 × am_S) :=
  some (s0, w)
def f_X12_wayIn (a1 : Int32) (a2 : Int32) (w : am_S) : Option (Int32 × am_S) :=
  am_b2 (f_X12_unknownIn a2 w) fun r_7 w_5 => if r_7 = ((1 : Int32) <<< (a1 &&& 31)) then (f_X12_wayIn_16 a1 a2 (1 : Int32) w_5) else (f_X12_wayIn_16 a1 a2 (2 : Int32) w_5)
set_option maxRecDepth 100000 in
set_option maxHeartbeats 4000000 in
theorem k_X12_wayIn {G : am_G} {l : Launch} {a1 : Int32} {a2 : Int32}  {w : am_S} {rr : Int32} {ww : am_S} (hf : f_X12_wayIn a1 a2 w = some (rr, ww)) : am_Mi G l yX12_wayIn (Cond.code yX12_wayIn cX12_wayIn 3 (some .int) :: am_T) { frames := 3, cells := 0, slots := 0, locals := 192 } [.ref (G.1 + 271), .int a1, .int a2] w rr ww := by
  refine Met.ofW (cc := cX12_wayIn) (maxL := 3) (ret := (some .int)) (by decide) rfl ?_
  intro p e s m args below meth c s₁ B hml hv
  obtain ⟨rfl, hx, hb, hr, hts, hown, hlocks, hK, hE, hH⟩ := am_begin B hv
  have hown : s.vm.findClass RX12 = some m.cls := hown
  show W p l e { frames := 3, cells := 0, slots := 0, locals := 192 } s m _ below meth c s.heap [] 0 0 _ _
  have P16 : ∀ (s0 : Int32) (w : am_S) (H : Heap) (locs : List Loc) (ls : Array Slot), f_X12_wayIn_16 a1 a2 s0 w = some (rr, ww) → am_H G w s H locs → lv_has ls 3 [] → W p l e { frames := 3, cells := 0, slots := 0, locals := 192 } s m [.ref (G.1 + 271), .int a1, .int a2].toArray below meth c H locs 0 0 (MQ below (va_Qi (fun (x : Int32) (u : am_S) => x = rr ∧ u = ww) (am_U G) (am_A G)) [.ref (G.1 + 271), .int a1, .int a2].toArray s 0 0 (am_A G)) (F0 m 16 ls [.int s0]) := by
    intro s0 w H locs ls hf hH hl
    unfold f_X12_wayIn_16 at hf
    exact am_reti hx hb hr hlocks hH hf dX12_wayIn_16
  refine am_enter (lv := [(0, .ref (G.1 + 271)), (1, .int a1), (2, .int a2)]) (Nat.le_of_ble_eq_true rfl) rfl (fun ls hl => ?_)
  unfold f_X12_wayIn at hf
  refine am_start hH (fun H locs hH => ?_)
  refine lv_aload_n hx hb dX12_wayIn_0 rfl (lv_at hl 0 rfl) ?_
  refine lv_iload_n hx hb dX12_wayIn_1 rfl (lv_at hl 2 rfl) ?_
  obtain ⟨r_7, w_5, hq_6, hf⟩ := am_b2_some hf
  refine am_calli (r := r_7) (w' := w_5) (am_runV (n := 1) (As := [.int a2]) (rest := []) ⟨hx, hb, hml, hown, hts⟩ hK hE hH (k_X12_unknownIn hq_6) (am_gV am_q1542 am_q1544 am_qs66 am_q13 am_q1545) (am_o12 (p := 271) (by decide +kernel)) rfl ⟨rfl, rfl⟩ (by decide +kernel) ⟨Nat.le_of_ble_eq_true rfl, Nat.le_of_ble_eq_true rfl⟩ rfl hl.1 rfl (Nat.le_of_ble_eq_true rfl) ⟨Nat.zero_le _, Nat.zero_le _⟩ dX12_wayIn_2) hH (fun H locs hH => ?_)
  refine lv_iconst (v := 1) hx hb dX12_wayIn_5 (by decide) ?_
  refine lv_iload_n hx hb dX12_wayIn_6 rfl (lv_at hl 1 rfl) ?_
  refine lv_ishl hx hb dX12_wayIn_7 ?_
  refine lv_icmp_ne (tgt := 15) hx hb dX12_wayIn_8 (by decide) (fun hc_8 => ?_) (fun hc_8 => ?_)
  · have hf := (if_neg hc_8).symm.trans hf
    refine lv_iconst (v := 2) hx hb dX12_wayIn_15 (by decide) ?_
    exact P16 (2 : Int32) w_5 H locs ls hf hH (lv_sub hl [] rfl)
  · have hf := (if_pos hc_8).symm.trans hf
    refine lv_iconst (v := 1) hx hb dX12_wayIn_11 (by decide) ?_
    refine lv_goto (tgt := 16) hx hb dX12_wayIn_12 (by decide) ?_
    exact P16 (1 : Int32) w_5 H locs ls hf hH (lv_sub hl [] rfl)

def f_X12_roundNow_129  (x1 : Int32) (x2 : Int32) (w : am_S) : Option ((Int32 × am_S) ⊕ (Int32 × Int32 × am_S)) :=
  am_v (x2 + (1 : Int32)) fun (x2_34 : Int32) => some (.inr (x1, x2_34, w))
def f_X12_roundNow_95b  (x1 : Int32) (x2 : Int32) (w : am_S) : Option ((Int32 × am_S) ⊕ (Int32 × Int32 × am_S)) :=
  if (w.1 271 13) ≤ x2 then (am_x (some (x1, w))) else (am_chk x2 10 (if (w.1 284 x2.toNatClampNeg) ≤ 0 then (f_X12_roundNow_129 x1 x2 w) else (am_chk x2 10 (am_chk ((0 : Int32) + x2) 245 (am_v (am_pi w 281 ((0 : Int32) + x2).toNatClampNeg (w.1 284 x2.toNatClampNeg)) fun (w_41 : am_S) => am_v (x1 + (1 : Int32)) fun (x1_42 : Int32) => f_X12_roundNow_129 x1_42 x2 w_41)))))
def f_X12_roundNow_95  (x1 : Int32) (x2 : Int32) (w : am_S) : Option (Int32 × am_S) :=
  am_loop (fun (st : (Int32 × Int32 × am_S)) => f_X12_roundNow_95b st.1 st.2.1 st.2.2) am_fuel (x1, x2, w)
def f_X12_roundNow_78  (x1 : Int32) (x2 : Int32) (x3 : Int32) (s0 : Int32) (s1 : Int32) (w : am_S) : Option (((Int32 × am_S) ⊕ (Int32 × am_S)) ⊕ (Int32 × am_S)) :=
  am_chk s1 10 (am_v (am_pi w 284 s1.toNatClampNeg s0) fun (w_44 : am_S) => am_v (x3 + (1 : Int32)) fun (x3_45 : Int32) => some (.inr (x3_45, w_44)))
def f_X12_roundNow_42b  (x1 : Int32) (x2 : Int32) (x3 : Int32) (w : am_S) : Option (((Int32 × am_S) ⊕ (Int32 × am_S)) ⊕ (Int32 × am_S)) :=
  if (w.1 271 13) ≤ x3 then (am_x (am_v (x1 + (-1 : Int32)) fun (x1_48 : Int32) => some (.inr (x1_48, w)))) else (am_b2 (f_X12_has x2 x3 w) fun r_51 w_49 => if r_51 = 0 then (am_chk x3 10 (f_X12_roundNow_78 x1 x2 x3 (w_49.1 284 x3.toNatClampNeg) x3 w_49)) else (am_b2 (f_X12_wayIn x3 x1 w_49) fun r_56 w_54 => f_X12_roundNow_78 x1 x2 x3 r_56 x3 w_54))
def f_X12_roundNow_42  (x1 : Int32) (x2 : Int32) (x3 : Int32) (w : am_S) : Option ((Int32 × am_S) ⊕ (Int32 × am_S)) :=
  am_loop (fun (st : (Int32 × am_S)) => f_X12_roundNow_42b x1 x2 st.1 st.2) am_fuel (x3, w)
def f_X12_roundNow_30b  (x1 : Int32) (w : am_S) : Option ((Int32 × am_S) ⊕ (Int32 × am_S)) :=
  if x1 < 0 then (am_x (f_X12_roundNow_95 (0 : Int32) (0 : Int32) w)) else (am_b2 (f_X12_clearIn x1 w) fun r_61 w_59 => f_X12_roundNow_42 x1 r_61 (0 : Int32) w_59)
def f_X12_roundNow_30  (x1 : Int32) (w : am_S) : Option (Int32 × am_S) :=
  am_loop (fun (st : (Int32 × am_S)) => f_X12_roundNow_30b st.1 st.2) am_fuel (x1, w)
def f_X12_roundNow_2b  (x1 : Int32) (w : am_S) : Option ((Int32 × am_S) ⊕ (Int32 × am_S)) :=
  if (w.1 271 13) ≤ x1 then (am_x (am_b2 (f_X12_slotMany w) fun r_66 w_64 => am_v (r_66 - (1 : Int32)) fun (x1_67 : Int32) => f_X12_roundNow_30 x1_67 w_64)) else (am_chk x1 10 (am_v (am_pi w 284 x1.toNatClampNeg (0 : Int32)) fun (w_69 : am_S) => am_v (x1 + (1 : Int32)) fun (x1_70 : Int32) => some (.inr (x1_70, w_69))))
def f_X12_roundNow_2  (x1 : Int32) (w : am_S) : Option (Int32 × am_S) :=
  am_loop (fun (st : (Int32 × am_S)) => f_X12_roundNow_2b st.1 st.2) am_fuel (x1, w)
def f_X12_roundNow  (w : am_S) : Option (Int32 × am_S) :=
  f_X12_roundNow_2 (0 : Int32) w
set_option maxRecDepth 100000 in
set_option maxHeartbeats 4000000 in
theorem k_X12_roundNow {G : am_G} {l : Launch}   {w : am_S} {rr : Int32} {ww : am_S} (hf : f_X12_roundNow  w = some (rr, ww)) : am_Mi G l yX12_roundNow (Cond.code yX12_roundNow cX12_roundNow 4 (some .int) :: am_T) { frames := 6, cells := 0, slots := 0, locals := 384 } [.ref (G.1 + 271)] w rr ww := by
  refine Met.ofW (cc := cX12_roundNow) (maxL := 4) (ret := (some .int)) (by decide) rfl ?_
  intro p e s m args below meth c s₁ B hml hv
  obtain ⟨rfl, hx, hb, hr, hts, hown, hlocks, hK, hE, hH⟩ := am_begin B hv
  have hown : s.vm.findClass RX12 = some m.cls := hown
  show W p l e { frames := 6, cells := 0, slots := 0, locals := 384 } s m _ below meth c s.heap [] 0 0 _ _
  have P95 : ∀ (n1 : Nat) (x1 : Int32) (x2 : Int32) (w : am_S) (H : Heap) (locs : List Loc) (ls : Array Slot), am_loop (fun (st : (Int32 × Int32 × am_S)) => f_X12_roundNow_95b st.1 st.2.1 st.2.2) n1 (x1, x2, w) = some (rr, ww) → am_H G w s H locs → lv_has ls 4 [(0, .ref (G.1 + 271)), (1, .int x1), (2, .int x2)] → W p l e { frames := 6, cells := 0, slots := 0, locals := 384 } s m [.ref (G.1 + 271)].toArray below meth c H locs 0 0 (MQ below (va_Qi (fun (x : Int32) (u : am_S) => x = rr ∧ u = ww) (am_U G) (am_A G)) [.ref (G.1 + 271)].toArray s 0 0 (am_A G)) (F0 m 95 ls []) := by
    intro n1
    induction n1 with
    | zero =>
      intro x1 x2 w H locs ls hf hH hl
      exact (am_loop_zero hf).elim
    | succ n1 ih1 =>
      intro x1 x2 w H locs ls hf hH hl
      obtain ⟨z1, hf, hk1⟩ := am_loop_succ hf
      have hf : f_X12_roundNow_95b x1 x2 w = some z1 := hf
      have P129 : ∀ (x1 : Int32) (x2 : Int32) (w : am_S) (z1 : ((Int32 × am_S) ⊕ (Int32 × Int32 × am_S))) (H : Heap) (locs : List Loc) (ls : Array Slot), f_X12_roundNow_129 x1 x2 w = some z1 → am_lk (fun (st : (Int32 × Int32 × am_S)) => f_X12_roundNow_95b st.1 st.2.1 st.2.2) n1 (rr, ww) z1 → am_H G w s H locs → lv_has ls 4 [(0, .ref (G.1 + 271)), (1, .int x1), (2, .int x2)] → W p l e { frames := 6, cells := 0, slots := 0, locals := 384 } s m [.ref (G.1 + 271)].toArray below meth c H locs 0 0 (MQ below (va_Qi (fun (x : Int32) (u : am_S) => x = rr ∧ u = ww) (am_U G) (am_A G)) [.ref (G.1 + 271)].toArray s 0 0 (am_A G)) (F0 m 129 ls []) := by
        intro x1 x2 w z1 H locs ls hf hk1 hH hl
        unfold f_X12_roundNow_129 at hf
        obtain ⟨x2_34, hx2_34, hf⟩ := am_v_some hf
        refine lv_iinc (v := x2_34) (lv' := [(2, .int x2_34), (0, .ref (G.1 + 271)), (1, .int x1)]) hx hb dX12_roundNow_129 hl (k := 2) rfl (by rw [hx2_34]; rfl) (by decide) rfl (fun ls hl => ?_)
        refine lv_goto (tgt := 95) hx hb dX12_roundNow_132 (by decide) ?_
        obtain rfl := Option.some.inj hf
        exact ih1 x1 x2_34 w H locs ls hk1 hH (lv_sub hl [1, 2, 0] rfl)
      unfold f_X12_roundNow_95b at hf
      refine lv_iload_n hx hb dX12_roundNow_95 rfl (lv_at hl 2 rfl) ?_
      refine lv_aload_n hx hb dX12_roundNow_96 rfl (lv_at hl 0 rfl) ?_
      refine am_get hx hb hts hK hown hH (am_o12 (p := 271) (by decide +kernel)) rfl am_inX12 13 (by decide) am_q1332 (v := .int (w.1 271 13)) rfl dX12_roundNow_97 ?_
      refine lv_icmp_ge (tgt := 135) hx hb dX12_roundNow_100 (by decide) (fun hc_35 => ?_) (fun hc_35 => ?_)
      · have hf := (if_pos hc_35).symm.trans hf
        obtain ⟨y_36, hf, hzy_36⟩ := am_x_some hf
        rw [hzy_36] at hk1
        have hf := hf.trans (congrArg some (show y_36 = (rr, ww) from hk1))
        refine lv_iload_n hx hb dX12_roundNow_135 rfl (lv_at hl 1 rfl) ?_
        exact am_reti hx hb hr hlocks hH hf dX12_roundNow_136
      · have hf := (if_neg hc_35).symm.trans hf
        refine lv_aload_n hx hb dX12_roundNow_103 rfl (lv_at hl 0 rfl) ?_
        refine am_get hx hb hts hK hown hH (am_o12 (p := 271) (by decide +kernel)) rfl am_inX12 21 (by decide) am_q1340 (v := .ref (G.1 + 284)) rfl dX12_roundNow_104 ?_
        refine lv_iload_n hx hb dX12_roundNow_107 rfl (lv_at hl 2 rfl) ?_
        obtain ⟨hi_37, hf⟩ := am_chk_some hf
        refine am_iald hx hb hK hH (am_ai_of (N := 10) (by decide +kernel)) hi_37 dX12_roundNow_108 ?_
        refine lv_if_le (tgt := 129) hx hb dX12_roundNow_109 (by decide) (fun hc_38 => ?_) (fun hc_38 => ?_)
        · have hf := (if_pos hc_38).symm.trans hf
          exact P129 x1 x2 w z1 H locs ls hf hk1 hH (lv_sub hl [0, 1, 2] rfl)
        · have hf := (if_neg hc_38).symm.trans hf
          refine lv_aload_n hx hb dX12_roundNow_112 rfl (lv_at hl 0 rfl) ?_
          refine am_get hx hb hts hK hown hH (am_o12 (p := 271) (by decide +kernel)) rfl am_inX12 17 (by decide) am_q1336 (v := .ref (G.1 + 281)) rfl dX12_roundNow_113 ?_
          refine lv_iconst (v := 0) hx hb dX12_roundNow_116 (by decide) ?_
          refine lv_iload_n hx hb dX12_roundNow_117 rfl (lv_at hl 2 rfl) ?_
          refine lv_iadd hx hb dX12_roundNow_118 ?_
          refine lv_aload_n hx hb dX12_roundNow_119 rfl (lv_at hl 0 rfl) ?_
          refine am_get hx hb hts hK hown hH (am_o12 (p := 271) (by decide +kernel)) rfl am_inX12 21 (by decide) am_q1340 (v := .ref (G.1 + 284)) rfl dX12_roundNow_120 ?_
          refine lv_iload_n hx hb dX12_roundNow_123 rfl (lv_at hl 2 rfl) ?_
          obtain ⟨hi_39, hf⟩ := am_chk_some hf
          refine am_iald hx hb hK hH (am_ai_of (N := 10) (by decide +kernel)) hi_39 dX12_roundNow_124 ?_
          obtain ⟨hi_40, hf⟩ := am_chk_some hf
          obtain ⟨w_41, hw_41, hf⟩ := am_v_some hf
          refine am_iast hx hb hK hH (am_ai_of (N := 245) (by decide +kernel)) hi_40 dX12_roundNow_125 (fun H locs hH => ?_)
          rw [← hw_41] at hH
          obtain ⟨x1_42, hx1_42, hf⟩ := am_v_some hf
          refine lv_iinc (v := x1_42) (lv' := [(1, .int x1_42), (0, .ref (G.1 + 271)), (2, .int x2)]) hx hb dX12_roundNow_126 hl (k := 1) rfl (by rw [hx1_42]; rfl) (by decide) rfl (fun ls hl => ?_)
          exact P129 x1_42 x2 w_41 z1 H locs ls hf hk1 hH (lv_sub hl [1, 0, 2] rfl)
  have P30 : ∀ (n1 : Nat) (x1 : Int32) (w : am_S) (H : Heap) (locs : List Loc) (ls : Array Slot), am_loop (fun (st : (Int32 × am_S)) => f_X12_roundNow_30b st.1 st.2) n1 (x1, w) = some (rr, ww) → am_H G w s H locs → lv_has ls 4 [(0, .ref (G.1 + 271)), (1, .int x1)] → W p l e { frames := 6, cells := 0, slots := 0, locals := 384 } s m [.ref (G.1 + 271)].toArray below meth c H locs 0 0 (MQ below (va_Qi (fun (x : Int32) (u : am_S) => x = rr ∧ u = ww) (am_U G) (am_A G)) [.ref (G.1 + 271)].toArray s 0 0 (am_A G)) (F0 m 30 ls []) := by
    intro n1
    induction n1 with
    | zero =>
      intro x1 w H locs ls hf hH hl
      exact (am_loop_zero hf).elim
    | succ n1 ih1 =>
      intro x1 w H locs ls hf hH hl
      obtain ⟨z1, hf, hk1⟩ := am_loop_succ hf
      have hf : f_X12_roundNow_30b x1 w = some z1 := hf
      have P42 : ∀ (x1 : Int32) (x2 : Int32) (n2 : Nat) (x3 : Int32) (w : am_S) (z1 : ((Int32 × am_S) ⊕ (Int32 × am_S))) (H : Heap) (locs : List Loc) (ls : Array Slot), am_loop (fun (st : (Int32 × am_S)) => f_X12_roundNow_42b x1 x2 st.1 st.2) n2 (x3, w) = some z1 → am_lk (fun (st : (Int32 × am_S)) => f_X12_roundNow_30b st.1 st.2) n1 (rr, ww) z1 → am_H G w s H locs → lv_has ls 4 [(0, .ref (G.1 + 271)), (1, .int x1), (2, .int x2), (3, .int x3)] → W p l e { frames := 6, cells := 0, slots := 0, locals := 384 } s m [.ref (G.1 + 271)].toArray below meth c H locs 0 0 (MQ below (va_Qi (fun (x : Int32) (u : am_S) => x = rr ∧ u = ww) (am_U G) (am_A G)) [.ref (G.1 + 271)].toArray s 0 0 (am_A G)) (F0 m 42 ls []) := by
        intro x1 x2 n2
        induction n2 with
        | zero =>
          intro x3 w z1 H locs ls hf hk1 hH hl
          exact (am_loop_zero hf).elim
        | succ n2 ih2 =>
          intro x3 w z1 H locs ls hf hk1 hH hl
          obtain ⟨z2, hf, hk2⟩ := am_loop_succ hf
          have hf : f_X12_roundNow_42b x1 x2 x3 w = some z2 := hf
          have P78 : ∀ (x3 : Int32) (s0 : Int32) (s1 : Int32) (w : am_S) (z2 : (((Int32 × am_S) ⊕ (Int32 × am_S)) ⊕ (Int32 × am_S))) (H : Heap) (locs : List Loc) (ls : Array Slot), f_X12_roundNow_78 x1 x2 x3 s0 s1 w = some z2 → am_lk (fun (st : (Int32 × am_S)) => f_X12_roundNow_42b x1 x2 st.1 st.2) n2 z1 z2 → am_H G w s H locs → lv_has ls 4 [(0, .ref (G.1 + 271)), (1, .int x1), (2, .int x2), (3, .int x3)] → W p l e { frames := 6, cells := 0, slots := 0, locals := 384 } s m [.ref (G.1 + 271)].toArray below meth c H locs 0 0 (MQ below (va_Qi (fun (x : Int32) (u : am_S) => x = rr ∧ u = ww) (am_U G) (am_A G)) [.ref (G.1 + 271)].toArray s 0 0 (am_A G)) (F0 m 78 ls [.int s0, .int s1, .ref (G.1 + 284)]) := by
            intro x3 s0 s1 w z2 H locs ls hf hk2 hH hl
            unfold f_X12_roundNow_78 at hf
            obtain ⟨hi_43, hf⟩ := am_chk_some hf
            obtain ⟨w_44, hw_44, hf⟩ := am_v_some hf
            refine am_iast hx hb hK hH (am_ai_of (N := 10) (by decide +kernel)) hi_43 dX12_roundNow_78 (fun H locs hH => ?_)
            rw [← hw_44] at hH
            obtain ⟨x3_45, hx3_45, hf⟩ := am_v_some hf
            refine lv_iinc (v := x3_45) (lv' := [(3, .int x3_45), (0, .ref (G.1 + 271)), (1, .int x1), (2, .int x2)]) hx hb dX12_roundNow_79 hl (k := 3) rfl (by rw [hx3_45]; rfl) (by decide) rfl (fun ls hl => ?_)
            refine lv_goto (tgt := 42) hx hb dX12_roundNow_82 (by decide) ?_
            obtain rfl := Option.some.inj hf
            exact ih2 x3_45 w_44 z1 H locs ls hk2 hk1 hH (lv_sub hl [1, 2, 3, 0] rfl)
          unfold f_X12_roundNow_42b at hf
          refine lv_iload_n hx hb dX12_roundNow_42 rfl (lv_at hl 3 rfl) ?_
          refine lv_aload_n hx hb dX12_roundNow_43 rfl (lv_at hl 0 rfl) ?_
          refine am_get hx hb hts hK hown hH (am_o12 (p := 271) (by decide +kernel)) rfl am_inX12 13 (by decide) am_q1332 (v := .int (w.1 271 13)) rfl dX12_roundNow_44 ?_
          refine lv_icmp_ge (tgt := 85) hx hb dX12_roundNow_47 (by decide) (fun hc_46 => ?_) (fun hc_46 => ?_)
          · have hf := (if_pos hc_46).symm.trans hf
            obtain ⟨y_47, hf, hzy_47⟩ := am_x_some hf
            rw [hzy_47] at hk2
            have hf := hf.trans (congrArg some (show y_47 = z1 from hk2))
            obtain ⟨x1_48, hx1_48, hf⟩ := am_v_some hf
            refine lv_iinc (v := x1_48) (lv' := [(1, .int x1_48), (0, .ref (G.1 + 271)), (2, .int x2), (3, .int x3)]) hx hb dX12_roundNow_85 hl (k := 1) rfl (by rw [hx1_48]; rfl) (by decide) rfl (fun ls hl => ?_)
            refine lv_goto (tgt := 30) hx hb dX12_roundNow_88 (by decide) ?_
            obtain rfl := Option.some.inj hf
            exact ih1 x1_48 w H locs ls hk1 hH (lv_sub hl [1, 0] rfl)
          · have hf := (if_neg hc_46).symm.trans hf
            refine lv_aload_n hx hb dX12_roundNow_50 rfl (lv_at hl 0 rfl) ?_
            refine am_get hx hb hts hK hown hH (am_o12 (p := 271) (by decide +kernel)) rfl am_inX12 21 (by decide) am_q1340 (v := .ref (G.1 + 284)) rfl dX12_roundNow_51 ?_
            refine lv_iload_n hx hb dX12_roundNow_54 rfl (lv_at hl 3 rfl) ?_
            refine lv_iload_n hx hb dX12_roundNow_55 rfl (lv_at hl 2 rfl) ?_
            refine lv_iload_n hx hb dX12_roundNow_56 rfl (lv_at hl 3 rfl) ?_
            obtain ⟨r_51, w_49, hq_50, hf⟩ := am_b2_some hf
            refine am_calli (r := r_51) (w' := w_49) (am_runS (n := 2) (As := [.int x2, .int x3]) (rest := [.int x3, .ref (G.1 + 284)]) ⟨hx, hb, hml, hown, hts⟩ hK hE hH (k_X12_has hq_50) (am_gS am_q1454 am_q1455 am_q13 am_q1456) ⟨rfl, rfl⟩ (by decide +kernel) ⟨Nat.le_of_ble_eq_true rfl, Nat.le_of_ble_eq_true rfl⟩ rfl hl.1 rfl (Nat.le_of_ble_eq_true rfl) ⟨Nat.zero_le _, Nat.zero_le _⟩ dX12_roundNow_57) hH (fun H locs hH => ?_)
            refine lv_if_eq (tgt := 72) hx hb dX12_roundNow_60 (by decide) (fun hc_52 => ?_) (fun hc_52 => ?_)
            · have hf := (if_pos hc_52).symm.trans hf
              refine lv_aload_n hx hb dX12_roundNow_72 rfl (lv_at hl 0 rfl) ?_
              refine am_get hx hb hts hK hown hH (am_o12 (p := 271) (by decide +kernel)) rfl am_inX12 21 (by decide) am_q1340 (v := .ref (G.1 + 284)) rfl dX12_roundNow_73 ?_
              refine lv_iload_n hx hb dX12_roundNow_76 rfl (lv_at hl 3 rfl) ?_
              obtain ⟨hi_53, hf⟩ := am_chk_some hf
              refine am_iald hx hb hK hH (am_ai_of (N := 10) (by decide +kernel)) hi_53 dX12_roundNow_77 ?_
              exact P78 x3 (w_49.1 284 x3.toNatClampNeg) x3 w_49 z2 H locs ls hf hk2 hH (lv_sub hl [0, 1, 2, 3] rfl)
            · have hf := (if_neg hc_52).symm.trans hf
              refine lv_aload_n hx hb dX12_roundNow_63 rfl (lv_at hl 0 rfl) ?_
              refine lv_iload_n hx hb dX12_roundNow_64 rfl (lv_at hl 3 rfl) ?_
              refine lv_iload_n hx hb dX12_roundNow_65 rfl (lv_at hl 1 rfl) ?_
              obtain ⟨r_56, w_54, hq_55, hf⟩ := am_b2_some hf
              refine am_calli (r := r_56) (w' := w_54) (am_runV (n := 2) (As := [.int x3, .int x1]) (rest := [.int x3, .ref (G.1 + 284)]) ⟨hx, hb, hml, hown, hts⟩ hK hE hH (k_X12_wayIn hq_55) (am_gV am_q1613 am_q1615 am_qs83 am_q13 am_q1616) (am_o12 (p := 271) (by decide +kernel)) rfl ⟨rfl, rfl⟩ (by decide +kernel) ⟨Nat.le_of_ble_eq_true rfl, Nat.le_of_ble_eq_true rfl⟩ rfl hl.1 rfl (Nat.le_of_ble_eq_true rfl) ⟨Nat.zero_le _, Nat.zero_le _⟩ dX12_roundNow_66) hH (fun H locs hH => ?_)
              refine lv_goto (tgt := 78) hx hb dX12_roundNow_69 (by decide) ?_
              exact P78 x3 r_56 x3 w_54 z2 H locs ls hf hk2 hH (lv_sub hl [0, 1, 2, 3] rfl)
      unfold f_X12_roundNow_30b at hf
      refine lv_iload_n hx hb dX12_roundNow_30 rfl (lv_at hl 1 rfl) ?_
      refine lv_if_lt (tgt := 91) hx hb dX12_roundNow_31 (by decide) (fun hc_57 => ?_) (fun hc_57 => ?_)
      · have hf := (if_pos hc_57).symm.trans hf
        obtain ⟨y_58, hf, hzy_58⟩ := am_x_some hf
        rw [hzy_58] at hk1
        have hf := hf.trans (congrArg some (show y_58 = (rr, ww) from hk1))
        refine lv_iconst (v := 0) hx hb dX12_roundNow_91 (by decide) ?_
        refine lv_istore_n (lv' := [(1, .int (0 : Int32)), (0, .ref (G.1 + 271))]) hx hb dX12_roundNow_92 rfl hl (by decide) rfl (fun ls hl => ?_)
        refine lv_iconst (v := 0) hx hb dX12_roundNow_93 (by decide) ?_
        refine lv_istore_n (lv' := [(2, .int (0 : Int32)), (1, .int (0 : Int32)), (0, .ref (G.1 + 271))]) hx hb dX12_roundNow_94 rfl hl (by decide) rfl (fun ls hl => ?_)
        exact P95 am_fuel (0 : Int32) (0 : Int32) w H locs ls hf hH (lv_sub hl [2, 1, 0] rfl)
      · have hf := (if_neg hc_57).symm.trans hf
        refine lv_aload_n hx hb dX12_roundNow_34 rfl (lv_at hl 0 rfl) ?_
        refine lv_iload_n hx hb dX12_roundNow_35 rfl (lv_at hl 1 rfl) ?_
        obtain ⟨r_61, w_59, hq_60, hf⟩ := am_b2_some hf
        refine am_calli (r := r_61) (w' := w_59) (am_runV (n := 1) (As := [.int x1]) (rest := []) ⟨hx, hb, hml, hown, hts⟩ hK hE hH (k_X12_clearIn hq_60) (am_gV am_q1526 am_q1528 am_qs62 am_q13 am_q1529) (am_o12 (p := 271) (by decide +kernel)) rfl ⟨rfl, rfl⟩ (by decide +kernel) ⟨Nat.le_of_ble_eq_true rfl, Nat.le_of_ble_eq_true rfl⟩ rfl hl.1 rfl (Nat.le_of_ble_eq_true rfl) ⟨Nat.zero_le _, Nat.zero_le _⟩ dX12_roundNow_36) hH (fun H locs hH => ?_)
        refine lv_istore_n (lv' := [(2, .int r_61), (0, .ref (G.1 + 271)), (1, .int x1)]) hx hb dX12_roundNow_39 rfl hl (by decide) rfl (fun ls hl => ?_)
        refine lv_iconst (v := 0) hx hb dX12_roundNow_40 (by decide) ?_
        refine lv_istore_n (lv' := [(3, .int (0 : Int32)), (2, .int r_61), (0, .ref (G.1 + 271)), (1, .int x1)]) hx hb dX12_roundNow_41 rfl hl (by decide) rfl (fun ls hl => ?_)
        exact P42 x1 r_61 am_fuel (0 : Int32) w_59 z1 H locs ls hf hk1 hH (lv_sub hl [2, 3, 1, 0] rfl)
  have P2 : ∀ (n1 : Nat) (x1 : Int32) (w : am_S) (H : Heap) (locs : List Loc) (ls : Array Slot), am_loop (fun (st : (Int32 × am_S)) => f_X12_roundNow_2b st.1 st.2) n1 (x1, w) = some (rr, ww) → am_H G w s H locs → lv_has ls 4 [(0, .ref (G.1 + 271)), (1, .int x1)] → W p l e { frames := 6, cells := 0, slots := 0, locals := 384 } s m [.ref (G.1 + 271)].toArray below meth c H locs 0 0 (MQ below (va_Qi (fun (x : Int32) (u : am_S) => x = rr ∧ u = ww) (am_U G) (am_A G)) [.ref (G.1 + 271)].toArray s 0 0 (am_A G)) (F0 m 2 ls []) := by
    intro n1
    induction n1 with
    | zero =>
      intro x1 w H locs ls hf hH hl
      exact (am_loop_zero hf).elim
    | succ n1 ih1 =>
      intro x1 w H locs ls hf hH hl
      obtain ⟨z1, hf, hk1⟩ := am_loop_succ hf
      have hf : f_X12_roundNow_2b x1 w = some z1 := hf
      unfold f_X12_roundNow_2b at hf
      refine lv_iload_n hx hb dX12_roundNow_2 rfl (lv_at hl 1 rfl) ?_
      refine lv_aload_n hx hb dX12_roundNow_3 rfl (lv_at hl 0 rfl) ?_
      refine am_get hx hb hts hK hown hH (am_o12 (p := 271) (by decide +kernel)) rfl am_inX12 13 (by decide) am_q1332 (v := .int (w.1 271 13)) rfl dX12_roundNow_4 ?_
      refine lv_icmp_ge (tgt := 23) hx hb dX12_roundNow_7 (by decide) (fun hc_62 => ?_) (fun hc_62 => ?_)
      · have hf := (if_pos hc_62).symm.trans hf
        obtain ⟨y_63, hf, hzy_63⟩ := am_x_some hf
        rw [hzy_63] at hk1
        have hf := hf.trans (congrArg some (show y_63 = (rr, ww) from hk1))
        refine lv_aload_n hx hb dX12_roundNow_23 rfl (lv_at hl 0 rfl) ?_
        obtain ⟨r_66, w_64, hq_65, hf⟩ := am_b2_some hf
        refine am_calli (r := r_66) (w' := w_64) (am_runV (n := 0) (As := []) (rest := []) ⟨hx, hb, hml, hown, hts⟩ hK hE hH (k_X12_slotMany hq_65) (am_gV am_q1518 am_q1520 am_qs60 am_q13 am_q1521) (am_o12 (p := 271) (by decide +kernel)) rfl ⟨rfl, rfl⟩ (by decide +kernel) ⟨Nat.le_of_ble_eq_true rfl, Nat.le_of_ble_eq_true rfl⟩ rfl hl.1 rfl (Nat.le_of_ble_eq_true rfl) ⟨Nat.zero_le _, Nat.zero_le _⟩ dX12_roundNow_24) hH (fun H locs hH => ?_)
        refine lv_iconst (v := 1) hx hb dX12_roundNow_27 (by decide) ?_
        refine lv_isub hx hb dX12_roundNow_28 ?_
        obtain ⟨x1_67, hx1_67, hf⟩ := am_v_some hf
        refine am_topi hx1_67 ?_
        refine lv_istore_n (lv' := [(1, .int x1_67), (0, .ref (G.1 + 271))]) hx hb dX12_roundNow_29 rfl hl (by decide) rfl (fun ls hl => ?_)
        exact P30 am_fuel x1_67 w_64 H locs ls hf hH (lv_sub hl [1, 0] rfl)
      · have hf := (if_neg hc_62).symm.trans hf
        refine lv_aload_n hx hb dX12_roundNow_10 rfl (lv_at hl 0 rfl) ?_
        refine am_get hx hb hts hK hown hH (am_o12 (p := 271) (by decide +kernel)) rfl am_inX12 21 (by decide) am_q1340 (v := .ref (G.1 + 284)) rfl dX12_roundNow_11 ?_
        refine lv_iload_n hx hb dX12_roundNow_14 rfl (lv_at hl 1 rfl) ?_
        refine lv_iconst (v := 0) hx hb dX12_roundNow_15 (by decide) ?_
        obtain ⟨hi_68, hf⟩ := am_chk_some hf
        obtain ⟨w_69, hw_69, hf⟩ := am_v_some hf
        refine am_iast hx hb hK hH (am_ai_of (N := 10) (by decide +kernel)) hi_68 dX12_roundNow_16 (fun H locs hH => ?_)
        rw [← hw_69] at hH
        obtain ⟨x1_70, hx1_70, hf⟩ := am_v_some hf
        refine lv_iinc (v := x1_70) (lv' := [(1, .int x1_70), (0, .ref (G.1 + 271))]) hx hb dX12_roundNow_17 hl (k := 1) rfl (by rw [hx1_70]; rfl) (by decide) rfl (fun ls hl => ?_)
        refine lv_goto (tgt := 2) hx hb dX12_roundNow_20 (by decide) ?_
        obtain rfl := Option.some.inj hf
        exact ih1 x1_70 w_69 H locs ls hk1 hH (lv_sub hl [1, 0] rfl)
  refine am_enter (lv := [(0, .ref (G.1 + 271))]) (Nat.le_of_ble_eq_true rfl) rfl (fun ls hl => ?_)
  unfold f_X12_roundNow at hf
  refine am_start hH (fun H locs hH => ?_)
  refine lv_iconst (v := 0) hx hb dX12_roundNow_0 (by decide) ?_
  refine lv_istore_n (lv' := [(1, .int (0 : Int32)), (0, .ref (G.1 + 271))]) hx hb dX12_roundNow_1 rfl hl (by decide) rfl (fun ls hl => ?_)
  exact P2 am_fuel (0 : Int32) w H locs ls hf hH (lv_sub hl [1, 0] rfl)

def f_X12_ahead__17 (a1 : Int32) (w : am_S) : Option (Int32 × am_S) :=
  some ((-1 : Int32), w)
def f_X12_ahead__25b (a1 : Int32) (x2 : Int32) (w : am_S) : Option ((Int32 × am_S) ⊕ (Int32 × am_S)) :=
  if a1 ≤ x2 then (am_x (am_b2 (f_X12_knownSet w) fun r_25 w_23 => am_b1 (f_X12_bringBack w_23) fun w_26 => some (r_25, w_26))) else (am_b2 (f_X12_roundNow w) fun r_30 w_28 => am_v (x2 + (1 : Int32)) fun (x2_31 : Int32) => some (.inr (x2_31, w_28)))
def f_X12_ahead__25 (a1 : Int32) (x2 : Int32) (w : am_S) : Option (Int32 × am_S) :=
  am_loop (fun (st : (Int32 × am_S)) => f_X12_ahead__25b a1 st.1 st.2) am_fuel (x2, w)
def f_X12_ahead_ (a1 : Int32) (w : am_S) : Option (Int32 × am_S) :=
  am_b2 (f_X12_isField w) fun r_34 w_32 => if r_34 = 0 then (f_X12_ahead__17 a1 w_32) else (am_b2 (f_X12_in a1 (0 : Int32) (20 : Int32) w_32) fun r_38 w_36 => if r_38 = 0 then (f_X12_ahead__17 a1 w_36) else (am_b1 (f_X12_putAside w_36) fun w_40 => f_X12_ahead__25 a1 (0 : Int32) w_40))
set_option maxRecDepth 100000 in
set_option maxHeartbeats 4000000 in
theorem k_X12_ahead_ {G : am_G} {l : Launch} {a1 : Int32}  {w : am_S} {rr : Int32} {ww : am_S} (hf : f_X12_ahead_ a1 w = some (rr, ww)) : am_Mi G l yX12_ahead_ (Cond.code yX12_ahead_ cX12_ahead_ 3 (some .int) :: am_T) { frames := 7, cells := 0, slots := 0, locals := 448 } [.ref (G.1 + 271), .int a1] w rr ww := by
  refine Met.ofW (cc := cX12_ahead_) (maxL := 3) (ret := (some .int)) (by decide) rfl ?_
  intro p e s m args below meth c s₁ B hml hv
  obtain ⟨rfl, hx, hb, hr, hts, hown, hlocks, hK, hE, hH⟩ := am_begin B hv
  have hown : s.vm.findClass RX12 = some m.cls := hown
  show W p l e { frames := 7, cells := 0, slots := 0, locals := 448 } s m _ below meth c s.heap [] 0 0 _ _
  have P17 : ∀ (w : am_S) (H : Heap) (locs : List Loc) (ls : Array Slot), f_X12_ahead__17 a1 w = some (rr, ww) → am_H G w s H locs → lv_has ls 3 [] → W p l e { frames := 7, cells := 0, slots := 0, locals := 448 } s m [.ref (G.1 + 271), .int a1].toArray below meth c H locs 0 0 (MQ below (va_Qi (fun (x : Int32) (u : am_S) => x = rr ∧ u = ww) (am_U G) (am_A G)) [.ref (G.1 + 271), .int a1].toArray s 0 0 (am_A G)) (F0 m 17 ls []) := by
    intro w H locs ls hf hH hl
    unfold f_X12_ahead__17 at hf
    refine lv_iconst (v := -1) hx hb dX12_ahead__17 (by decide) ?_
    exact am_reti hx hb hr hlocks hH hf dX12_ahead__18
  have P25 : ∀ (n1 : Nat) (x2 : Int32) (w : am_S) (H : Heap) (locs : List Loc) (ls : Array Slot), am_loop (fun (st : (Int32 × am_S)) => f_X12_ahead__25b a1 st.1 st.2) n1 (x2, w) = some (rr, ww) → am_H G w s H locs → lv_has ls 3 [(0, .ref (G.1 + 271)), (1, .int a1), (2, .int x2)] → W p l e { frames := 7, cells := 0, slots := 0, locals := 448 } s m [.ref (G.1 + 271), .int a1].toArray below meth c H locs 0 0 (MQ below (va_Qi (fun (x : Int32) (u : am_S) => x = rr ∧ u = ww) (am_U G) (am_A G)) [.ref (G.1 + 271), .int a1].toArray s 0 0 (am_A G)) (F0 m 25 ls []) := by
    intro n1
    induction n1 with
    | zero =>
      intro x2 w H locs ls hf hH hl
      exact (am_loop_zero hf).elim
    | succ n1 ih1 =>
      intro x2 w H locs ls hf hH hl
      obtain ⟨z1, hf, hk1⟩ := am_loop_succ hf
      have hf : f_X12_ahead__25b a1 x2 w = some z1 := hf
      unfold f_X12_ahead__25b at hf
      refine lv_iload_n hx hb dX12_ahead__25 rfl (lv_at hl 2 rfl) ?_
      refine lv_iload_n hx hb dX12_ahead__26 rfl (lv_at hl 1 rfl) ?_
      refine lv_icmp_ge (tgt := 41) hx hb dX12_ahead__27 (by decide) (fun hc_21 => ?_) (fun hc_21 => ?_)
      · have hf := (if_pos hc_21).symm.trans hf
        obtain ⟨y_22, hf, hzy_22⟩ := am_x_some hf
        rw [hzy_22] at hk1
        have hf := hf.trans (congrArg some (show y_22 = (rr, ww) from hk1))
        refine lv_aload_n hx hb dX12_ahead__41 rfl (lv_at hl 0 rfl) ?_
        obtain ⟨r_25, w_23, hq_24, hf⟩ := am_b2_some hf
        refine am_calli (r := r_25) (w' := w_23) (am_runV (n := 0) (As := []) (rest := []) ⟨hx, hb, hml, hown, hts⟩ hK hE hH (k_X12_knownSet hq_24) (am_gV am_q1625 am_q1627 am_qs86 am_q13 am_q1628) (am_o12 (p := 271) (by decide +kernel)) rfl ⟨rfl, rfl⟩ (by decide +kernel) ⟨Nat.le_of_ble_eq_true rfl, Nat.le_of_ble_eq_true rfl⟩ rfl hl.1 rfl (Nat.le_of_ble_eq_true rfl) ⟨Nat.zero_le _, Nat.zero_le _⟩ dX12_ahead__42) hH (fun H locs hH => ?_)
        refine lv_istore_n (lv' := [(2, .int r_25), (0, .ref (G.1 + 271)), (1, .int a1)]) hx hb dX12_ahead__45 rfl hl (by decide) rfl (fun ls hl => ?_)
        refine lv_aload_n hx hb dX12_ahead__46 rfl (lv_at hl 1 rfl) ?_
        obtain ⟨w_26, hq_27, hf⟩ := am_b1_some hf
        refine am_callv (w' := w_26) (am_runV (n := 0) (As := []) (rest := []) ⟨hx, hb, hml, hown, hts⟩ hK hE hH (k_X12_bringBack hq_27) (am_gV am_q1744 am_q1746 am_qs98 am_q13 am_q1747) (am_o12 (p := 271) (by decide +kernel)) rfl ⟨rfl, rfl⟩ (by decide +kernel) ⟨Nat.le_of_ble_eq_true rfl, Nat.le_of_ble_eq_true rfl⟩ rfl hl.1 rfl (Nat.le_of_ble_eq_true rfl) ⟨Nat.zero_le _, Nat.zero_le _⟩ dX12_ahead__47) hH (fun H locs hH => ?_)
        refine lv_iload_n hx hb dX12_ahead__50 rfl (lv_at hl 0 rfl) ?_
        exact am_reti hx hb hr hlocks hH hf dX12_ahead__51
      · have hf := (if_neg hc_21).symm.trans hf
        refine lv_aload_n hx hb dX12_ahead__30 rfl (lv_at hl 0 rfl) ?_
        obtain ⟨r_30, w_28, hq_29, hf⟩ := am_b2_some hf
        refine am_calli (r := r_30) (w' := w_28) (am_runV (n := 0) (As := []) (rest := []) ⟨hx, hb, hml, hown, hts⟩ hK hE hH (k_X12_roundNow hq_29) (am_gV am_q1617 am_q1619 am_qs84 am_q13 am_q1620) (am_o12 (p := 271) (by decide +kernel)) rfl ⟨rfl, rfl⟩ (by decide +kernel) ⟨Nat.le_of_ble_eq_true rfl, Nat.le_of_ble_eq_true rfl⟩ rfl hl.1 rfl (Nat.le_of_ble_eq_true rfl) ⟨Nat.zero_le _, Nat.zero_le _⟩ dX12_ahead__31) hH (fun H locs hH => ?_)
        refine lv_pop hx hb dX12_ahead__34 rfl ?_
        obtain ⟨x2_31, hx2_31, hf⟩ := am_v_some hf
        refine lv_iinc (v := x2_31) (lv' := [(2, .int x2_31), (0, .ref (G.1 + 271)), (1, .int a1)]) hx hb dX12_ahead__35 hl (k := 2) rfl (by rw [hx2_31]; rfl) (by decide) rfl (fun ls hl => ?_)
        refine lv_goto (tgt := 25) hx hb dX12_ahead__38 (by decide) ?_
        obtain rfl := Option.some.inj hf
        exact ih1 x2_31 w_28 H locs ls hk1 hH (lv_sub hl [1, 2, 0] rfl)
  refine am_enter (lv := [(0, .ref (G.1 + 271)), (1, .int a1)]) (Nat.le_of_ble_eq_true rfl) rfl (fun ls hl => ?_)
  unfold f_X12_ahead_ at hf
  refine am_start hH (fun H locs hH => ?_)
  refine lv_aload_n hx hb dX12_ahead__0 rfl (lv_at hl 0 rfl) ?_
  obtain ⟨r_34, w_32, hq_33, hf⟩ := am_b2_some hf
  refine am_calli (r := r_34) (w' := w_32) (am_runV (n := 0) (As := []) (rest := []) ⟨hx, hb, hml, hown, hts⟩ hK hE hH (k_X12_isField hq_33) (am_gV am_q1514 am_q1516 am_qs59 am_q13 am_q1517) (am_o12 (p := 271) (by decide +kernel)) rfl ⟨rfl, rfl⟩ (by decide +kernel) ⟨Nat.le_of_ble_eq_true rfl, Nat.le_of_ble_eq_true rfl⟩ rfl hl.1 rfl (Nat.le_of_ble_eq_true rfl) ⟨Nat.zero_le _, Nat.zero_le _⟩ dX12_ahead__1) hH (fun H locs hH => ?_)
  refine lv_if_eq (tgt := 17) hx hb dX12_ahead__4 (by decide) (fun hc_35 => ?_) (fun hc_35 => ?_)
  · have hf := (if_pos hc_35).symm.trans hf
    exact P17 w_32 H locs ls hf hH (lv_sub hl [] rfl)
  · have hf := (if_neg hc_35).symm.trans hf
    refine lv_iload_n hx hb dX12_ahead__7 rfl (lv_at hl 1 rfl) ?_
    refine lv_iconst (v := 0) hx hb dX12_ahead__8 (by decide) ?_
    refine lv_bipush (v := 20) hx hb dX12_ahead__9 (by decide) ?_
    obtain ⟨r_38, w_36, hq_37, hf⟩ := am_b2_some hf
    refine am_calli (r := r_38) (w' := w_36) (am_runS (n := 3) (As := [.int a1, .int (0 : Int32), .int (20 : Int32)]) (rest := []) ⟨hx, hb, hml, hown, hts⟩ hK hE hH (k_X12_in hq_37) (am_gS am_q1425 am_q1426 am_q13 am_q1427) ⟨rfl, rfl⟩ (by decide +kernel) ⟨Nat.le_of_ble_eq_true rfl, Nat.le_of_ble_eq_true rfl⟩ rfl hl.1 rfl (Nat.le_of_ble_eq_true rfl) ⟨Nat.zero_le _, Nat.zero_le _⟩ dX12_ahead__11) hH (fun H locs hH => ?_)
    refine lv_if_ne (tgt := 19) hx hb dX12_ahead__14 (by decide) (fun hc_39 => ?_) (fun hc_39 => ?_)
    · have hf := (if_neg hc_39).symm.trans hf
      refine lv_aload_n hx hb dX12_ahead__19 rfl (lv_at hl 0 rfl) ?_
      obtain ⟨w_40, hq_41, hf⟩ := am_b1_some hf
      refine am_callv (w' := w_40) (am_runV (n := 0) (As := []) (rest := []) ⟨hx, hb, hml, hown, hts⟩ hK hE hH (k_X12_putAside hq_41) (am_gV am_q1740 am_q1742 am_qs97 am_q13 am_q1743) (am_o12 (p := 271) (by decide +kernel)) rfl ⟨rfl, rfl⟩ (by decide +kernel) ⟨Nat.le_of_ble_eq_true rfl, Nat.le_of_ble_eq_true rfl⟩ rfl hl.1 rfl (Nat.le_of_ble_eq_true rfl) ⟨Nat.zero_le _, Nat.zero_le _⟩ dX12_ahead__20) hH (fun H locs hH => ?_)
      refine lv_iconst (v := 0) hx hb dX12_ahead__23 (by decide) ?_
      refine lv_istore_n (lv' := [(2, .int (0 : Int32)), (0, .ref (G.1 + 271)), (1, .int a1)]) hx hb dX12_ahead__24 rfl hl (by decide) rfl (fun ls hl => ?_)
      exact P25 am_fuel (0 : Int32) w_40 H locs ls hf hH (lv_sub hl [1, 2, 0] rfl)
    · have hf := (if_pos hc_39).symm.trans hf
      exact P17 w_36 H locs ls hf hH (lv_sub hl [] rfl)
