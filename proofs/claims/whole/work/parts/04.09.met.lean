/-! functions and contracts of methods, by program (wip/whole/gen.py) -/
def f_X12_bits_4b (a0 : Int32) (x1 : Int32) (x2 : Int32) (w : am_S) : Option ((Int32 × am_S) ⊕ (Int32 × Int32 × am_S)) :=
  if (24 : Int32) ≤ x2 then (am_x (some (x1, w))) else (am_v (x1 + ((a0 >>> (x2 &&& 31)) &&& (1 : Int32))) fun (x1_6 : Int32) => am_v (x2 + (1 : Int32)) fun (x2_7 : Int32) => some (.inr (x1_6, x2_7, w)))
def f_X12_bits_4 (a0 : Int32) (x1 : Int32) (x2 : Int32) (w : am_S) : Option (Int32 × am_S) :=
  am_loop (fun (st : (Int32 × Int32 × am_S)) => f_X12_bits_4b a0 st.1 st.2.1 st.2.2) am_fuel (x1, x2, w)
def f_X12_bits (a0 : Int32) (w : am_S) : Option (Int32 × am_S) :=
  f_X12_bits_4 a0 (0 : Int32) (0 : Int32) w
set_option maxRecDepth 100000 in
set_option maxHeartbeats 4000000 in
theorem k_X12_bits {G : am_G} {l : Launch} {a0 : Int32}  {w : am_S} {rr : Int32} {ww : am_S} (hf : f_X12_bits a0 w = some (rr, ww)) : am_Mi G l yX12_bits (Cond.code yX12_bits cX12_bits 3 (some .int) :: am_T) { frames := 0, cells := 0, slots := 0, locals := 0 } [.int a0] w rr ww := by
  refine Met.ofW (cc := cX12_bits) (maxL := 3) (ret := (some .int)) (by decide) rfl ?_
  intro p e s m args below meth c s₁ B hml hv
  obtain ⟨rfl, hx, hb, hr, hts, hown, hlocks, hK, hE, hH⟩ := am_begin B hv
  have hown : s.vm.findClass RX12 = some m.cls := hown
  show W p l e { frames := 0, cells := 0, slots := 0, locals := 0 } s m _ below meth c s.heap [] 0 0 _ _
  have P4 : ∀ (n1 : Nat) (x1 : Int32) (x2 : Int32) (w : am_S) (H : Heap) (locs : List Loc) (ls : Array Slot), am_loop (fun (st : (Int32 × Int32 × am_S)) => f_X12_bits_4b a0 st.1 st.2.1 st.2.2) n1 (x1, x2, w) = some (rr, ww) → am_H G w s H locs → lv_has ls 3 [(0, .int a0), (1, .int x1), (2, .int x2)] → W p l e { frames := 0, cells := 0, slots := 0, locals := 0 } s m [.int a0].toArray below meth c H locs 0 0 (MQ below (va_Qi (fun (x : Int32) (u : am_S) => x = rr ∧ u = ww) (am_U G) (am_A G)) [.int a0].toArray s 0 0 (am_A G)) (F0 m 4 ls []) := by
    intro n1
    induction n1 with
    | zero =>
      intro x1 x2 w H locs ls hf hH hl
      exact (am_loop_zero hf).elim
    | succ n1 ih1 =>
      intro x1 x2 w H locs ls hf hH hl
      obtain ⟨z1, hf, hk1⟩ := am_loop_succ hf
      have hf : f_X12_bits_4b a0 x1 x2 w = some z1 := hf
      unfold f_X12_bits_4b at hf
      refine lv_iload_n hx hb dX12_bits_4 rfl (lv_at hl 2 rfl) ?_
      refine lv_bipush (v := 24) hx hb dX12_bits_5 (by decide) ?_
      refine lv_icmp_ge (tgt := 24) hx hb dX12_bits_7 (by decide) (fun hc_4 => ?_) (fun hc_4 => ?_)
      · have hf := (if_pos hc_4).symm.trans hf
        obtain ⟨y_5, hf, hzy_5⟩ := am_x_some hf
        rw [hzy_5] at hk1
        have hf := hf.trans (congrArg some (show y_5 = (rr, ww) from hk1))
        refine lv_iload_n hx hb dX12_bits_24 rfl (lv_at hl 1 rfl) ?_
        exact am_reti hx hb hr hlocks hH hf dX12_bits_25
      · have hf := (if_neg hc_4).symm.trans hf
        refine lv_iload_n hx hb dX12_bits_10 rfl (lv_at hl 1 rfl) ?_
        refine lv_iload_n hx hb dX12_bits_11 rfl (lv_at hl 0 rfl) ?_
        refine lv_iload_n hx hb dX12_bits_12 rfl (lv_at hl 2 rfl) ?_
        refine lv_ishr hx hb dX12_bits_13 ?_
        refine lv_iconst (v := 1) hx hb dX12_bits_14 (by decide) ?_
        refine lv_iand hx hb dX12_bits_15 ?_
        refine lv_iadd hx hb dX12_bits_16 ?_
        obtain ⟨x1_6, hx1_6, hf⟩ := am_v_some hf
        refine am_topi hx1_6 ?_
        refine lv_istore_n (lv' := [(1, .int x1_6), (0, .int a0), (2, .int x2)]) hx hb dX12_bits_17 rfl hl (by decide) rfl (fun ls hl => ?_)
        obtain ⟨x2_7, hx2_7, hf⟩ := am_v_some hf
        refine lv_iinc (v := x2_7) (lv' := [(2, .int x2_7), (1, .int x1_6), (0, .int a0)]) hx hb dX12_bits_18 hl (k := 2) rfl (by rw [hx2_7]; rfl) (by decide) rfl (fun ls hl => ?_)
        refine lv_goto (tgt := 4) hx hb dX12_bits_21 (by decide) ?_
        obtain rfl := Option.some.inj hf
        exact ih1 x1_6 x2_7 w H locs ls hk1 hH (lv_sub hl [2, 1, 0] rfl)
  refine am_enter (lv := [(0, .int a0)]) (Nat.le_of_ble_eq_true rfl) rfl (fun ls hl => ?_)
  unfold f_X12_bits at hf
  refine am_start hH (fun H locs hH => ?_)
  refine lv_iconst (v := 0) hx hb dX12_bits_0 (by decide) ?_
  refine lv_istore_n (lv' := [(1, .int (0 : Int32)), (0, .int a0)]) hx hb dX12_bits_1 rfl hl (by decide) rfl (fun ls hl => ?_)
  refine lv_iconst (v := 0) hx hb dX12_bits_2 (by decide) ?_
  refine lv_istore_n (lv' := [(2, .int (0 : Int32)), (1, .int (0 : Int32)), (0, .int a0)]) hx hb dX12_bits_3 rfl hl (by decide) rfl (fun ls hl => ?_)
  exact P4 am_fuel (0 : Int32) (0 : Int32) w H locs ls hf hH (lv_sub hl [2, 1, 0] rfl)

def f_X12_knownMany  (w : am_S) : Option (Int32 × am_S) :=
  am_b2 (f_X12_knownSet w) fun r_9 w_7 => am_b2 (f_X12_bits r_9 w_7) fun r_12 w_10 => some (r_12, w_10)
set_option maxRecDepth 100000 in
set_option maxHeartbeats 4000000 in
theorem k_X12_knownMany {G : am_G} {l : Launch}   {w : am_S} {rr : Int32} {ww : am_S} (hf : f_X12_knownMany  w = some (rr, ww)) : am_Mi G l yX12_knownMany (Cond.code yX12_knownMany cX12_knownMany 1 (some .int) :: am_T) { frames := 2, cells := 0, slots := 0, locals := 128 } [.ref (G.1 + 271)] w rr ww := by
  refine Met.ofW (cc := cX12_knownMany) (maxL := 1) (ret := (some .int)) (by decide) rfl ?_
  intro p e s m args below meth c s₁ B hml hv
  obtain ⟨rfl, hx, hb, hr, hts, hown, hlocks, hK, hE, hH⟩ := am_begin B hv
  have hown : s.vm.findClass RX12 = some m.cls := hown
  show W p l e { frames := 2, cells := 0, slots := 0, locals := 128 } s m _ below meth c s.heap [] 0 0 _ _
  refine am_enter (lv := [(0, .ref (G.1 + 271))]) (Nat.le_of_ble_eq_true rfl) rfl (fun ls hl => ?_)
  unfold f_X12_knownMany at hf
  refine am_start hH (fun H locs hH => ?_)
  refine lv_aload_n hx hb dX12_knownMany_0 rfl (lv_at hl 0 rfl) ?_
  obtain ⟨r_9, w_7, hq_8, hf⟩ := am_b2_some hf
  refine am_calli (r := r_9) (w' := w_7) (am_runV (n := 0) (As := []) (rest := []) ⟨hx, hb, hml, hown, hts⟩ hK hE hH (k_X12_knownSet hq_8) (am_gV am_q1625 am_q1627 am_qs86 am_q13 am_q1628) (am_o12 (p := 271) (by decide +kernel)) rfl ⟨rfl, rfl⟩ (by decide +kernel) ⟨Nat.le_of_ble_eq_true rfl, Nat.le_of_ble_eq_true rfl⟩ rfl hl.1 rfl (Nat.le_of_ble_eq_true rfl) ⟨Nat.zero_le _, Nat.zero_le _⟩ dX12_knownMany_1) hH (fun H locs hH => ?_)
  obtain ⟨r_12, w_10, hq_11, hf⟩ := am_b2_some hf
  refine am_calli (r := r_12) (w' := w_10) (am_runS (n := 1) (As := [.int r_9]) (rest := []) ⟨hx, hb, hml, hown, hts⟩ hK hE hH (k_X12_bits hq_11) (am_gS am_q1629 am_q1630 am_q13 am_q1631) ⟨rfl, rfl⟩ (by decide +kernel) ⟨Nat.le_of_ble_eq_true rfl, Nat.le_of_ble_eq_true rfl⟩ rfl hl.1 rfl (Nat.le_of_ble_eq_true rfl) ⟨Nat.zero_le _, Nat.zero_le _⟩ dX12_knownMany_4) hH (fun H locs hH => ?_)
  exact am_reti hx hb hr hlocks hH hf dX12_knownMany_7

def f_X12_back_11b  (x1 : Int32) (w : am_S) : Option ((Int32 × am_S) ⊕ (Int32 × am_S)) :=
  if (245 : Int32) ≤ x1 then (am_x (am_v (am_pi w 271 23 (0 : Int32)) fun (w_13 : am_S) => am_b2 (f_X12_knownMany w_13) fun r_16 w_14 => some (r_16, w_14))) else (am_chk x1 245 (am_chk x1 245 (am_v (am_pi w 281 x1.toNatClampNeg (w.1 289 x1.toNatClampNeg)) fun (w_19 : am_S) => am_v (x1 + (1 : Int32)) fun (x1_20 : Int32) => some (.inr (x1_20, w_19)))))
def f_X12_back_11  (x1 : Int32) (w : am_S) : Option (Int32 × am_S) :=
  am_loop (fun (st : (Int32 × am_S)) => f_X12_back_11b st.1 st.2) am_fuel (x1, w)
def f_X12_back  (w : am_S) : Option (Int32 × am_S) :=
  if (w.1 271 29) = 0 then (some ((-1 : Int32), w)) else (f_X12_back_11 (0 : Int32) w)
set_option maxRecDepth 100000 in
set_option maxHeartbeats 4000000 in
theorem k_X12_back {G : am_G} {l : Launch}   {w : am_S} {rr : Int32} {ww : am_S} (hf : f_X12_back  w = some (rr, ww)) : am_Mi G l yX12_back (Cond.code yX12_back cX12_back 2 (some .int) :: am_T) { frames := 3, cells := 0, slots := 0, locals := 192 } [.ref (G.1 + 271)] w rr ww := by
  refine Met.ofW (cc := cX12_back) (maxL := 2) (ret := (some .int)) (by decide) rfl ?_
  intro p e s m args below meth c s₁ B hml hv
  obtain ⟨rfl, hx, hb, hr, hts, hown, hlocks, hK, hE, hH⟩ := am_begin B hv
  have hown : s.vm.findClass RX12 = some m.cls := hown
  show W p l e { frames := 3, cells := 0, slots := 0, locals := 192 } s m _ below meth c s.heap [] 0 0 _ _
  have P11 : ∀ (n1 : Nat) (x1 : Int32) (w : am_S) (H : Heap) (locs : List Loc) (ls : Array Slot), am_loop (fun (st : (Int32 × am_S)) => f_X12_back_11b st.1 st.2) n1 (x1, w) = some (rr, ww) → am_H G w s H locs → lv_has ls 2 [(0, .ref (G.1 + 271)), (1, .int x1)] → W p l e { frames := 3, cells := 0, slots := 0, locals := 192 } s m [.ref (G.1 + 271)].toArray below meth c H locs 0 0 (MQ below (va_Qi (fun (x : Int32) (u : am_S) => x = rr ∧ u = ww) (am_U G) (am_A G)) [.ref (G.1 + 271)].toArray s 0 0 (am_A G)) (F0 m 11 ls []) := by
    intro n1
    induction n1 with
    | zero =>
      intro x1 w H locs ls hf hH hl
      exact (am_loop_zero hf).elim
    | succ n1 ih1 =>
      intro x1 w H locs ls hf hH hl
      obtain ⟨z1, hf, hk1⟩ := am_loop_succ hf
      have hf : f_X12_back_11b x1 w = some z1 := hf
      unfold f_X12_back_11b at hf
      refine lv_iload_n hx hb dX12_back_11 rfl (lv_at hl 1 rfl) ?_
      refine lv_sipush (v := 245) hx hb dX12_back_12 (by decide) ?_
      refine lv_icmp_ge (tgt := 36) hx hb dX12_back_15 (by decide) (fun hc_11 => ?_) (fun hc_11 => ?_)
      · have hf := (if_pos hc_11).symm.trans hf
        obtain ⟨y_12, hf, hzy_12⟩ := am_x_some hf
        rw [hzy_12] at hk1
        have hf := hf.trans (congrArg some (show y_12 = (rr, ww) from hk1))
        refine lv_aload_n hx hb dX12_back_36 rfl (lv_at hl 0 rfl) ?_
        refine lv_iconst (v := 0) hx hb dX12_back_37 (by decide) ?_
        obtain ⟨w_13, hw_13, hf⟩ := am_v_some hf
        refine am_puti hx hb hts hK hown hH (am_o12 (p := 271) (by decide +kernel)) rfl am_inX12 tyX12 tyX12_ok nmX12 23 (by decide) am_q1342 rfl rfl rfl (fun _ _ => Nat.le_of_ble_eq_true rfl) (fun _ _ _ => rfl) dX12_back_38 (fun H locs hH => ?_)
        rw [← hw_13] at hH
        refine lv_aload_n hx hb dX12_back_41 rfl (lv_at hl 0 rfl) ?_
        obtain ⟨r_16, w_14, hq_15, hf⟩ := am_b2_some hf
        refine am_calli (r := r_16) (w' := w_14) (am_runV (n := 0) (As := []) (rest := []) ⟨hx, hb, hml, hown, hts⟩ hK hE hH (k_X12_knownMany hq_15) (am_gV am_q1621 am_q1623 am_qs85 am_q13 am_q1624) (am_o12 (p := 271) (by decide +kernel)) rfl ⟨rfl, rfl⟩ (by decide +kernel) ⟨Nat.le_of_ble_eq_true rfl, Nat.le_of_ble_eq_true rfl⟩ rfl hl.1 rfl (Nat.le_of_ble_eq_true rfl) ⟨Nat.zero_le _, Nat.zero_le _⟩ dX12_back_42) hH (fun H locs hH => ?_)
        exact am_reti hx hb hr hlocks hH hf dX12_back_45
      · have hf := (if_neg hc_11).symm.trans hf
        refine lv_aload_n hx hb dX12_back_18 rfl (lv_at hl 0 rfl) ?_
        refine am_get hx hb hts hK hown hH (am_o12 (p := 271) (by decide +kernel)) rfl am_inX12 17 (by decide) am_q1336 (v := .ref (G.1 + 281)) rfl dX12_back_19 ?_
        refine lv_iload_n hx hb dX12_back_22 rfl (lv_at hl 1 rfl) ?_
        refine lv_aload_n hx hb dX12_back_23 rfl (lv_at hl 0 rfl) ?_
        refine am_get hx hb hts hK hown hH (am_o12 (p := 271) (by decide +kernel)) rfl am_inX12 28 (by decide) am_q1347 (v := .ref (G.1 + 289)) rfl dX12_back_24 ?_
        refine lv_iload_n hx hb dX12_back_27 rfl (lv_at hl 1 rfl) ?_
        obtain ⟨hi_17, hf⟩ := am_chk_some hf
        refine am_iald hx hb hK hH (am_ai_of (N := 245) (by decide +kernel)) hi_17 dX12_back_28 ?_
        obtain ⟨hi_18, hf⟩ := am_chk_some hf
        obtain ⟨w_19, hw_19, hf⟩ := am_v_some hf
        refine am_iast hx hb hK hH (am_ai_of (N := 245) (by decide +kernel)) hi_18 dX12_back_29 (fun H locs hH => ?_)
        rw [← hw_19] at hH
        obtain ⟨x1_20, hx1_20, hf⟩ := am_v_some hf
        refine lv_iinc (v := x1_20) (lv' := [(1, .int x1_20), (0, .ref (G.1 + 271))]) hx hb dX12_back_30 hl (k := 1) rfl (by rw [hx1_20]; rfl) (by decide) rfl (fun ls hl => ?_)
        refine lv_goto (tgt := 11) hx hb dX12_back_33 (by decide) ?_
        obtain rfl := Option.some.inj hf
        exact ih1 x1_20 w_19 H locs ls hk1 hH (lv_sub hl [1, 0] rfl)
  refine am_enter (lv := [(0, .ref (G.1 + 271))]) (Nat.le_of_ble_eq_true rfl) rfl (fun ls hl => ?_)
  unfold f_X12_back at hf
  refine am_start hH (fun H locs hH => ?_)
  refine lv_aload_n hx hb dX12_back_0 rfl (lv_at hl 0 rfl) ?_
  refine am_get hx hb hts hK hown hH (am_o12 (p := 271) (by decide +kernel)) rfl am_inX12 29 (by decide) am_q1348 (v := .int (w.1 271 29)) rfl dX12_back_1 ?_
  refine lv_if_ne (tgt := 9) hx hb dX12_back_4 (by decide) (fun hc_21 => ?_) (fun hc_21 => ?_)
  · have hf := (if_neg hc_21).symm.trans hf
    refine lv_iconst (v := 0) hx hb dX12_back_9 (by decide) ?_
    refine lv_istore_n (lv' := [(1, .int (0 : Int32)), (0, .ref (G.1 + 271))]) hx hb dX12_back_10 rfl hl (by decide) rfl (fun ls hl => ?_)
    exact P11 am_fuel (0 : Int32) w H locs ls hf hH (lv_sub hl [1, 0] rfl)
  · have hf := (if_pos hc_21).symm.trans hf
    refine lv_iconst (v := -1) hx hb dX12_back_7 (by decide) ?_
    exact am_reti hx hb hr hlocks hH hf dX12_back_8

def f_X12_isUser (a1 : Int32) (w : am_S) : Option (Int32 × am_S) :=
  am_b2 (f_X12_in a1 (0 : Int32) ((w.1 271 13) - (1 : Int32)) w) fun r_7 w_5 => am_nar .boolean r_7 (some (r_7, w_5))
set_option maxRecDepth 100000 in
set_option maxHeartbeats 4000000 in
theorem k_X12_isUser {G : am_G} {l : Launch} {a1 : Int32}  {w : am_S} {rr : Int32} {ww : am_S} (hf : f_X12_isUser a1 w = some (rr, ww)) : am_Mi G l yX12_isUser (Cond.code yX12_isUser cX12_isUser 2 (some .boolean) :: am_T) { frames := 1, cells := 0, slots := 0, locals := 64 } [.ref (G.1 + 271), .int a1] w rr ww := by
  refine Met.ofW (cc := cX12_isUser) (maxL := 2) (ret := (some .boolean)) (by decide) rfl ?_
  intro p e s m args below meth c s₁ B hml hv
  obtain ⟨rfl, hx, hb, hr, hts, hown, hlocks, hK, hE, hH⟩ := am_begin B hv
  have hown : s.vm.findClass RX12 = some m.cls := hown
  show W p l e { frames := 1, cells := 0, slots := 0, locals := 64 } s m _ below meth c s.heap [] 0 0 _ _
  refine am_enter (lv := [(0, .ref (G.1 + 271)), (1, .int a1)]) (Nat.le_of_ble_eq_true rfl) rfl (fun ls hl => ?_)
  unfold f_X12_isUser at hf
  refine am_start hH (fun H locs hH => ?_)
  refine lv_iload_n hx hb dX12_isUser_0 rfl (lv_at hl 1 rfl) ?_
  refine lv_iconst (v := 0) hx hb dX12_isUser_1 (by decide) ?_
  refine lv_aload_n hx hb dX12_isUser_2 rfl (lv_at hl 0 rfl) ?_
  refine am_get hx hb hts hK hown hH (am_o12 (p := 271) (by decide +kernel)) rfl am_inX12 13 (by decide) am_q1332 (v := .int (w.1 271 13)) rfl dX12_isUser_3 ?_
  refine lv_iconst (v := 1) hx hb dX12_isUser_6 (by decide) ?_
  refine lv_isub hx hb dX12_isUser_7 ?_
  obtain ⟨r_7, w_5, hq_6, hf⟩ := am_b2_some hf
  refine am_calli (r := r_7) (w' := w_5) (am_runS (n := 3) (As := [.int a1, .int (0 : Int32), .int ((w.1 271 13) - (1 : Int32))]) (rest := []) ⟨hx, hb, hml, hown, hts⟩ hK hE hH (k_X12_in hq_6) (am_gS am_q1425 am_q1426 am_q13 am_q1427) ⟨rfl, rfl⟩ (by decide +kernel) ⟨Nat.le_of_ble_eq_true rfl, Nat.le_of_ble_eq_true rfl⟩ rfl hl.1 rfl (Nat.le_of_ble_eq_true rfl) ⟨Nat.zero_le _, Nat.zero_le _⟩ dX12_isUser_8) hH (fun H locs hH => ?_)
  obtain ⟨hr_8, hf⟩ := am_nar_some hf
  exact am_retz hx hb hr hr_8.1 hlocks hH hf dX12_isUser_11

def f_X12_layOccupied_50  (x1 : Int32) (x2 : Int32) (s0 : Int32) (s1 : Int32) (s2 : Int32) (w : am_S) : Option ((am_S ⊕ (Int32 × am_S)) ⊕ (Int32 × am_S)) :=
  am_chk s2 48 (am_v (am_pi w 287 s2.toNatClampNeg (s1 ||| s0)) fun (w_18 : am_S) => am_v (x2 + (1 : Int32)) fun (x2_19 : Int32) => some (.inr (x2_19, w_18)))
def f_X12_layOccupied_19b  (x1 : Int32) (x2 : Int32) (w : am_S) : Option ((am_S ⊕ (Int32 × am_S)) ⊕ (Int32 × am_S)) :=
  if (w.1 271 13) ≤ x2 then (am_x (am_v (x1 + (1 : Int32)) fun (x1_22 : Int32) => some (.inr (x1_22, w)))) else (am_chk x1 48 (am_b2 (f_X12_hasCopy x2 x1 w) fun r_26 w_24 => if r_26 = 0 then (f_X12_layOccupied_50 x1 x2 (0 : Int32) (w.1 287 x1.toNatClampNeg) x1 w_24) else (f_X12_layOccupied_50 x1 x2 ((1 : Int32) <<< (x2 &&& 31)) (w.1 287 x1.toNatClampNeg) x1 w_24)))
def f_X12_layOccupied_19  (x1 : Int32) (x2 : Int32) (w : am_S) : Option (am_S ⊕ (Int32 × am_S)) :=
  am_loop (fun (st : (Int32 × am_S)) => f_X12_layOccupied_19b x1 st.1 st.2) am_fuel (x2, w)
def f_X12_layOccupied_2b  (x1 : Int32) (w : am_S) : Option (am_S ⊕ (Int32 × am_S)) :=
  am_b2 (f_X12_slotMany w) fun r_30 w_28 => if r_30 ≤ x1 then (am_x (some w_28)) else (am_chk x1 48 (am_v (am_pi w_28 287 x1.toNatClampNeg (0 : Int32)) fun (w_34 : am_S) => f_X12_layOccupied_19 x1 (0 : Int32) w_34))
def f_X12_layOccupied_2  (x1 : Int32) (w : am_S) : Option am_S :=
  am_loop (fun (st : (Int32 × am_S)) => f_X12_layOccupied_2b st.1 st.2) am_fuel (x1, w)
def f_X12_layOccupied  (w : am_S) : Option am_S :=
  f_X12_layOccupied_2 (0 : Int32) w
set_option maxRecDepth 100000 in
set_option maxHeartbeats 4000000 in
theorem k_X12_layOccupied {G : am_G} {l : Launch}   {w : am_S} {ww : am_S} (hf : f_X12_layOccupied  w = some ww) : am_Mv G l yX12_layOccupied (Cond.code yX12_layOccupied cX12_layOccupied 3 none :: am_T) { frames := 2, cells := 0, slots := 0, locals := 128 } [.ref (G.1 + 271)] w ww := by
  refine Met.ofW (cc := cX12_layOccupied) (maxL := 3) (ret := none) (by decide) rfl ?_
  intro p e s m args below meth c s₁ B hml hv
  obtain ⟨rfl, hx, hb, hr, hts, hown, hlocks, hK, hE, hH⟩ := am_begin B hv
  have hown : s.vm.findClass RX12 = some m.cls := hown
  show W p l e { frames := 2, cells := 0, slots := 0, locals := 128 } s m _ below meth c s.heap [] 0 0 _ _
  have P2 : ∀ (n1 : Nat) (x1 : Int32) (w : am_S) (H : Heap) (locs : List Loc) (ls : Array Slot), am_loop (fun (st : (Int32 × am_S)) => f_X12_layOccupied_2b st.1 st.2) n1 (x1, w) = some ww → am_H G w s H locs → lv_has ls 3 [(0, .ref (G.1 + 271)), (1, .int x1)] → W p l e { frames := 2, cells := 0, slots := 0, locals := 128 } s m [.ref (G.1 + 271)].toArray below meth c H locs 0 0 (MQ below (va_Qv (fun (u : am_S) => u = ww) (am_U G) (am_A G)) [.ref (G.1 + 271)].toArray s 0 0 (am_A G)) (F0 m 2 ls []) := by
    intro n1
    induction n1 with
    | zero =>
      intro x1 w H locs ls hf hH hl
      exact (am_loop_zero hf).elim
    | succ n1 ih1 =>
      intro x1 w H locs ls hf hH hl
      obtain ⟨z1, hf, hk1⟩ := am_loop_succ hf
      have hf : f_X12_layOccupied_2b x1 w = some z1 := hf
      have P19 : ∀ (x1 : Int32) (n2 : Nat) (x2 : Int32) (w : am_S) (z1 : (am_S ⊕ (Int32 × am_S))) (H : Heap) (locs : List Loc) (ls : Array Slot), am_loop (fun (st : (Int32 × am_S)) => f_X12_layOccupied_19b x1 st.1 st.2) n2 (x2, w) = some z1 → am_lk (fun (st : (Int32 × am_S)) => f_X12_layOccupied_2b st.1 st.2) n1 ww z1 → am_H G w s H locs → lv_has ls 3 [(0, .ref (G.1 + 271)), (1, .int x1), (2, .int x2)] → W p l e { frames := 2, cells := 0, slots := 0, locals := 128 } s m [.ref (G.1 + 271)].toArray below meth c H locs 0 0 (MQ below (va_Qv (fun (u : am_S) => u = ww) (am_U G) (am_A G)) [.ref (G.1 + 271)].toArray s 0 0 (am_A G)) (F0 m 19 ls []) := by
        intro x1 n2
        induction n2 with
        | zero =>
          intro x2 w z1 H locs ls hf hk1 hH hl
          exact (am_loop_zero hf).elim
        | succ n2 ih2 =>
          intro x2 w z1 H locs ls hf hk1 hH hl
          obtain ⟨z2, hf, hk2⟩ := am_loop_succ hf
          have hf : f_X12_layOccupied_19b x1 x2 w = some z2 := hf
          have P50 : ∀ (x2 : Int32) (s0 : Int32) (s1 : Int32) (s2 : Int32) (w : am_S) (z2 : ((am_S ⊕ (Int32 × am_S)) ⊕ (Int32 × am_S))) (H : Heap) (locs : List Loc) (ls : Array Slot), f_X12_layOccupied_50 x1 x2 s0 s1 s2 w = some z2 → am_lk (fun (st : (Int32 × am_S)) => f_X12_layOccupied_19b x1 st.1 st.2) n2 z1 z2 → am_H G w s H locs → lv_has ls 3 [(0, .ref (G.1 + 271)), (1, .int x1), (2, .int x2)] → W p l e { frames := 2, cells := 0, slots := 0, locals := 128 } s m [.ref (G.1 + 271)].toArray below meth c H locs 0 0 (MQ below (va_Qv (fun (u : am_S) => u = ww) (am_U G) (am_A G)) [.ref (G.1 + 271)].toArray s 0 0 (am_A G)) (F0 m 50 ls [.int s0, .int s1, .int s2, .ref (G.1 + 287)]) := by
            intro x2 s0 s1 s2 w z2 H locs ls hf hk2 hH hl
            unfold f_X12_layOccupied_50 at hf
            refine lv_ior hx hb dX12_layOccupied_50 ?_
            obtain ⟨hi_17, hf⟩ := am_chk_some hf
            obtain ⟨w_18, hw_18, hf⟩ := am_v_some hf
            refine am_iast hx hb hK hH (am_ai_of (N := 48) (by decide +kernel)) hi_17 dX12_layOccupied_51 (fun H locs hH => ?_)
            rw [← hw_18] at hH
            obtain ⟨x2_19, hx2_19, hf⟩ := am_v_some hf
            refine lv_iinc (v := x2_19) (lv' := [(2, .int x2_19), (0, .ref (G.1 + 271)), (1, .int x1)]) hx hb dX12_layOccupied_52 hl (k := 2) rfl (by rw [hx2_19]; rfl) (by decide) rfl (fun ls hl => ?_)
            refine lv_goto (tgt := 19) hx hb dX12_layOccupied_55 (by decide) ?_
            obtain rfl := Option.some.inj hf
            exact ih2 x2_19 w_18 z1 H locs ls hk2 hk1 hH (lv_sub hl [1, 2, 0] rfl)
          unfold f_X12_layOccupied_19b at hf
          refine lv_iload_n hx hb dX12_layOccupied_19 rfl (lv_at hl 2 rfl) ?_
          refine lv_aload_n hx hb dX12_layOccupied_20 rfl (lv_at hl 0 rfl) ?_
          refine am_get hx hb hts hK hown hH (am_o12 (p := 271) (by decide +kernel)) rfl am_inX12 13 (by decide) am_q1332 (v := .int (w.1 271 13)) rfl dX12_layOccupied_21 ?_
          refine lv_icmp_ge (tgt := 58) hx hb dX12_layOccupied_24 (by decide) (fun hc_20 => ?_) (fun hc_20 => ?_)
          · have hf := (if_pos hc_20).symm.trans hf
            obtain ⟨y_21, hf, hzy_21⟩ := am_x_some hf
            rw [hzy_21] at hk2
            have hf := hf.trans (congrArg some (show y_21 = z1 from hk2))
            obtain ⟨x1_22, hx1_22, hf⟩ := am_v_some hf
            refine lv_iinc (v := x1_22) (lv' := [(1, .int x1_22), (0, .ref (G.1 + 271)), (2, .int x2)]) hx hb dX12_layOccupied_58 hl (k := 1) rfl (by rw [hx1_22]; rfl) (by decide) rfl (fun ls hl => ?_)
            refine lv_goto (tgt := 2) hx hb dX12_layOccupied_61 (by decide) ?_
            obtain rfl := Option.some.inj hf
            exact ih1 x1_22 w H locs ls hk1 hH (lv_sub hl [1, 0] rfl)
          · have hf := (if_neg hc_20).symm.trans hf
            refine lv_aload_n hx hb dX12_layOccupied_27 rfl (lv_at hl 0 rfl) ?_
            refine am_get hx hb hts hK hown hH (am_o12 (p := 271) (by decide +kernel)) rfl am_inX12 26 (by decide) am_q1345 (v := .ref (G.1 + 287)) rfl dX12_layOccupied_28 ?_
            refine lv_iload_n hx hb dX12_layOccupied_31 rfl (lv_at hl 1 rfl) ?_
            refine lv_dup2_11 hx hb dX12_layOccupied_32 rfl rfl ?_
            obtain ⟨hi_23, hf⟩ := am_chk_some hf
            refine am_iald hx hb hK hH (am_ai_of (N := 48) (by decide +kernel)) hi_23 dX12_layOccupied_33 ?_
            refine lv_aload_n hx hb dX12_layOccupied_34 rfl (lv_at hl 0 rfl) ?_
            refine lv_iload_n hx hb dX12_layOccupied_35 rfl (lv_at hl 2 rfl) ?_
            refine lv_iload_n hx hb dX12_layOccupied_36 rfl (lv_at hl 1 rfl) ?_
            obtain ⟨r_26, w_24, hq_25, hf⟩ := am_b2_some hf
            refine am_calli (r := r_26) (w' := w_24) (am_runV (n := 2) (As := [.int x2, .int x1]) (rest := [.int (w.1 287 x1.toNatClampNeg), .int x1, .ref (G.1 + 287)]) ⟨hx, hb, hml, hown, hts⟩ hK hE hH (k_X12_hasCopy hq_25) (am_gV am_q1538 am_q1540 am_qs65 am_q13 am_q1541) (am_o12 (p := 271) (by decide +kernel)) rfl ⟨rfl, rfl⟩ (by decide +kernel) ⟨Nat.le_of_ble_eq_true rfl, Nat.le_of_ble_eq_true rfl⟩ rfl hl.1 rfl (Nat.le_of_ble_eq_true rfl) ⟨Nat.zero_le _, Nat.zero_le _⟩ dX12_layOccupied_37) hH (fun H locs hH => ?_)
            refine lv_if_eq (tgt := 49) hx hb dX12_layOccupied_40 (by decide) (fun hc_27 => ?_) (fun hc_27 => ?_)
            · have hf := (if_pos hc_27).symm.trans hf
              refine lv_iconst (v := 0) hx hb dX12_layOccupied_49 (by decide) ?_
              exact P50 x2 (0 : Int32) (w.1 287 x1.toNatClampNeg) x1 w_24 z2 H locs ls hf hk2 hH (lv_sub hl [0, 1, 2] rfl)
            · have hf := (if_neg hc_27).symm.trans hf
              refine lv_iconst (v := 1) hx hb dX12_layOccupied_43 (by decide) ?_
              refine lv_iload_n hx hb dX12_layOccupied_44 rfl (lv_at hl 2 rfl) ?_
              refine lv_ishl hx hb dX12_layOccupied_45 ?_
              refine lv_goto (tgt := 50) hx hb dX12_layOccupied_46 (by decide) ?_
              exact P50 x2 ((1 : Int32) <<< (x2 &&& 31)) (w.1 287 x1.toNatClampNeg) x1 w_24 z2 H locs ls hf hk2 hH (lv_sub hl [0, 1, 2] rfl)
      unfold f_X12_layOccupied_2b at hf
      refine lv_iload_n hx hb dX12_layOccupied_2 rfl (lv_at hl 1 rfl) ?_
      refine lv_aload_n hx hb dX12_layOccupied_3 rfl (lv_at hl 0 rfl) ?_
      obtain ⟨r_30, w_28, hq_29, hf⟩ := am_b2_some hf
      refine am_calli (r := r_30) (w' := w_28) (am_runV (n := 0) (As := []) (rest := [.int x1]) ⟨hx, hb, hml, hown, hts⟩ hK hE hH (k_X12_slotMany hq_29) (am_gV am_q1518 am_q1520 am_qs60 am_q13 am_q1521) (am_o12 (p := 271) (by decide +kernel)) rfl ⟨rfl, rfl⟩ (by decide +kernel) ⟨Nat.le_of_ble_eq_true rfl, Nat.le_of_ble_eq_true rfl⟩ rfl hl.1 rfl (Nat.le_of_ble_eq_true rfl) ⟨Nat.zero_le _, Nat.zero_le _⟩ dX12_layOccupied_4) hH (fun H locs hH => ?_)
      refine lv_icmp_ge (tgt := 64) hx hb dX12_layOccupied_7 (by decide) (fun hc_31 => ?_) (fun hc_31 => ?_)
      · have hf := (if_pos hc_31).symm.trans hf
        obtain ⟨y_32, hf, hzy_32⟩ := am_x_some hf
        rw [hzy_32] at hk1
        have hf := hf.trans (congrArg some (show y_32 = ww from hk1))
        exact am_retv hx hb hr hlocks hH hf dX12_layOccupied_64
      · have hf := (if_neg hc_31).symm.trans hf
        refine lv_aload_n hx hb dX12_layOccupied_10 rfl (lv_at hl 0 rfl) ?_
        refine am_get hx hb hts hK hown hH (am_o12 (p := 271) (by decide +kernel)) rfl am_inX12 26 (by decide) am_q1345 (v := .ref (G.1 + 287)) rfl dX12_layOccupied_11 ?_
        refine lv_iload_n hx hb dX12_layOccupied_14 rfl (lv_at hl 1 rfl) ?_
        refine lv_iconst (v := 0) hx hb dX12_layOccupied_15 (by decide) ?_
        obtain ⟨hi_33, hf⟩ := am_chk_some hf
        obtain ⟨w_34, hw_34, hf⟩ := am_v_some hf
        refine am_iast hx hb hK hH (am_ai_of (N := 48) (by decide +kernel)) hi_33 dX12_layOccupied_16 (fun H locs hH => ?_)
        rw [← hw_34] at hH
        refine lv_iconst (v := 0) hx hb dX12_layOccupied_17 (by decide) ?_
        refine lv_istore_n (lv' := [(2, .int (0 : Int32)), (0, .ref (G.1 + 271)), (1, .int x1)]) hx hb dX12_layOccupied_18 rfl hl (by decide) rfl (fun ls hl => ?_)
        exact P19 x1 am_fuel (0 : Int32) w_34 z1 H locs ls hf hk1 hH (lv_sub hl [1, 2, 0] rfl)
  refine am_enter (lv := [(0, .ref (G.1 + 271))]) (Nat.le_of_ble_eq_true rfl) rfl (fun ls hl => ?_)
  unfold f_X12_layOccupied at hf
  refine am_start hH (fun H locs hH => ?_)
  refine lv_iconst (v := 0) hx hb dX12_layOccupied_0 (by decide) ?_
  refine lv_istore_n (lv' := [(1, .int (0 : Int32)), (0, .ref (G.1 + 271))]) hx hb dX12_layOccupied_1 rfl hl (by decide) rfl (fun ls hl => ?_)
  exact P2 am_fuel (0 : Int32) w H locs ls hf hH (lv_sub hl [1, 0] rfl)

def f_X12_everybody  (w : am_S) : Option (Int32 × am_S) :=
  some (((1 : Int32) <<< ((w.1 271 13) &&& 31)) - (1 : Int32), w)
set_option maxRecDepth 100000 in
set_option maxHeartbeats 4000000 in
theorem k_X12_everybody {G : am_G} {l : Launch}   {w : am_S} {rr : Int32} {ww : am_S} (hf : f_X12_everybody  w = some (rr, ww)) : am_Mi G l yX12_everybody (Cond.code yX12_everybody cX12_everybody 1 (some .int) :: am_T) { frames := 0, cells := 0, slots := 0, locals := 0 } [.ref (G.1 + 271)] w rr ww := by
  refine Met.ofW (cc := cX12_everybody) (maxL := 1) (ret := (some .int)) (by decide) rfl ?_
  intro p e s m args below meth c s₁ B hml hv
  obtain ⟨rfl, hx, hb, hr, hts, hown, hlocks, hK, hE, hH⟩ := am_begin B hv
  have hown : s.vm.findClass RX12 = some m.cls := hown
  show W p l e { frames := 0, cells := 0, slots := 0, locals := 0 } s m _ below meth c s.heap [] 0 0 _ _
  refine am_enter (lv := [(0, .ref (G.1 + 271))]) (Nat.le_of_ble_eq_true rfl) rfl (fun ls hl => ?_)
  unfold f_X12_everybody at hf
  refine am_start hH (fun H locs hH => ?_)
  refine lv_iconst (v := 1) hx hb dX12_everybody_0 (by decide) ?_
  refine lv_aload_n hx hb dX12_everybody_1 rfl (lv_at hl 0 rfl) ?_
  refine am_get hx hb hts hK hown hH (am_o12 (p := 271) (by decide +kernel)) rfl am_inX12 13 (by decide) am_q1332 (v := .int (w.1 271 13)) rfl dX12_everybody_2 ?_
  refine lv_ishl hx hb dX12_everybody_5 ?_
  refine lv_iconst (v := 1) hx hb dX12_everybody_6 (by decide) ?_
  refine lv_isub hx hb dX12_everybody_7 ?_
  exact am_reti hx hb hr hlocks hH hf dX12_everybody_8

def f_X12_unknownOnes  (w : am_S) : Option (Int32 × am_S) :=
  am_b2 (f_X12_everybody w) fun r_9 w_7 => am_b2 (f_X12_knownSet w_7) fun r_12 w_10 => some (r_9 &&& (r_12 ^^^ (-1 : Int32)), w_10)
set_option maxRecDepth 100000 in
set_option maxHeartbeats 4000000 in
theorem k_X12_unknownOnes {G : am_G} {l : Launch}   {w : am_S} {rr : Int32} {ww : am_S} (hf : f_X12_unknownOnes  w = some (rr, ww)) : am_Mi G l yX12_unknownOnes (Cond.code yX12_unknownOnes cX12_unknownOnes 1 (some .int) :: am_T) { frames := 2, cells := 0, slots := 0, locals := 128 } [.ref (G.1 + 271)] w rr ww := by
  refine Met.ofW (cc := cX12_unknownOnes) (maxL := 1) (ret := (some .int)) (by decide) rfl ?_
  intro p e s m args below meth c s₁ B hml hv
  obtain ⟨rfl, hx, hb, hr, hts, hown, hlocks, hK, hE, hH⟩ := am_begin B hv
  have hown : s.vm.findClass RX12 = some m.cls := hown
  show W p l e { frames := 2, cells := 0, slots := 0, locals := 128 } s m _ below meth c s.heap [] 0 0 _ _
  refine am_enter (lv := [(0, .ref (G.1 + 271))]) (Nat.le_of_ble_eq_true rfl) rfl (fun ls hl => ?_)
  unfold f_X12_unknownOnes at hf
  refine am_start hH (fun H locs hH => ?_)
  refine lv_aload_n hx hb dX12_unknownOnes_0 rfl (lv_at hl 0 rfl) ?_
  obtain ⟨r_9, w_7, hq_8, hf⟩ := am_b2_some hf
  refine am_calli (r := r_9) (w' := w_7) (am_runV (n := 0) (As := []) (rest := []) ⟨hx, hb, hml, hown, hts⟩ hK hE hH (k_X12_everybody hq_8) (am_gV am_q1802 am_q1804 am_qs103 am_q13 am_q1805) (am_o12 (p := 271) (by decide +kernel)) rfl ⟨rfl, rfl⟩ (by decide +kernel) ⟨Nat.le_of_ble_eq_true rfl, Nat.le_of_ble_eq_true rfl⟩ rfl hl.1 rfl (Nat.le_of_ble_eq_true rfl) ⟨Nat.zero_le _, Nat.zero_le _⟩ dX12_unknownOnes_1) hH (fun H locs hH => ?_)
  refine lv_aload_n hx hb dX12_unknownOnes_4 rfl (lv_at hl 0 rfl) ?_
  obtain ⟨r_12, w_10, hq_11, hf⟩ := am_b2_some hf
  refine am_calli (r := r_12) (w' := w_10) (am_runV (n := 0) (As := []) (rest := [.int r_9]) ⟨hx, hb, hml, hown, hts⟩ hK hE hH (k_X12_knownSet hq_11) (am_gV am_q1625 am_q1627 am_qs86 am_q13 am_q1628) (am_o12 (p := 271) (by decide +kernel)) rfl ⟨rfl, rfl⟩ (by decide +kernel) ⟨Nat.le_of_ble_eq_true rfl, Nat.le_of_ble_eq_true rfl⟩ rfl hl.1 rfl (Nat.le_of_ble_eq_true rfl) ⟨Nat.zero_le _, Nat.zero_le _⟩ dX12_unknownOnes_5) hH (fun H locs hH => ?_)
  refine lv_iconst (v := -1) hx hb dX12_unknownOnes_8 (by decide) ?_
  refine lv_ixor hx hb dX12_unknownOnes_9 ?_
  refine lv_iand hx hb dX12_unknownOnes_10 ?_
  exact am_reti hx hb hr hlocks hH hf dX12_unknownOnes_11

def f_X12_clearBy_26 (a1 : Int32) (a2 : Int32) (w : am_S) : Option (Int32 × am_S) :=
  some ((0 : Int32), w)
def f_X12_clearBy_181 (a1 : Int32) (a2 : Int32) (x3 : Int32) (x4 : Int32) (x5 : Int32) (w : am_S) : Option ((Int32 × am_S) ⊕ (Int32 × Int32 × am_S)) :=
  am_v (x5 + (1 : Int32)) fun (x5_33 : Int32) => some (.inr (x4, x5_33, w))
def f_X12_clearBy_178 (a1 : Int32) (a2 : Int32) (x3 : Int32) (x5 : Int32) (s0 : Int32) (s1 : Int32) (w : am_S) : Option ((Int32 × am_S) ⊕ (Int32 × Int32 × am_S)) :=
  am_v (s1 ||| s0) fun (x4_34 : Int32) => f_X12_clearBy_181 a1 a2 x3 x4_34 x5 w
def f_X12_clearBy_131 (a1 : Int32) (a2 : Int32) (x3 : Int32) (x4 : Int32) (x5 : Int32) (x7 : Int32) (s0 : UInt32) (w : am_S) : Option (((Int32 × am_S) ⊕ (Int32 × Int32 × am_S)) ⊕ (UInt32 × Int32 × am_S)) :=
  am_v (x7 + (1 : Int32)) fun (x7_35 : Int32) => some (.inr (s0, x7_35, w))
def f_X12_clearBy_129 (a1 : Int32) (a2 : Int32) (x3 : Int32) (x4 : Int32) (x5 : Int32) (x6 : UInt32) (x7 : Int32) (w : am_S) : Option (((Int32 × am_S) ⊕ (Int32 × Int32 × am_S)) ⊕ (UInt32 × Int32 × am_S)) :=
  f_X12_clearBy_131 a1 a2 x3 x4 x5 x7 x6 w
def f_X12_clearBy_91b (a1 : Int32) (a2 : Int32) (x3 : Int32) (x4 : Int32) (x5 : Int32) (x6 : UInt32) (x7 : Int32) (w : am_S) : Option (((Int32 × am_S) ⊕ (Int32 × Int32 × am_S)) ⊕ (UInt32 × Int32 × am_S)) :=
  if (w.1 271 13) ≤ x7 then (am_x (am_chk (30 : Int32) 245 (am_n32 (FP.fdiv (FP.i2f (w.1 281 (30 : Int32).toNatClampNeg)) (1092616192 : UInt32)) (am_v (FP.fdiv (FP.i2f (w.1 281 (30 : Int32).toNatClampNeg)) (1092616192 : UInt32)) fun (x7_40 : UInt32) => am_chk x5 10 (am_n32 (FP.fmul x7_40 x6) (if (Op.cmpValue (FP.fcmp (w.2.2 283 x5.toNatClampNeg) (FP.fmul x7_40 x6)) .l) < 0 then (f_X12_clearBy_178 a1 a2 x3 x5 (0 : Int32) x4 w) else (f_X12_clearBy_178 a1 a2 x3 x5 ((1 : Int32) <<< (x5 &&& 31)) x4 w))))))) else (if x7 = x5 then (f_X12_clearBy_129 a1 a2 x3 x4 x5 x6 x7 w) else (am_b2 (f_X12_has x3 x7 w) fun r_47 w_45 => if r_47 = 0 then (f_X12_clearBy_129 a1 a2 x3 x4 x5 x6 x7 w_45) else (am_chk x7 10 (am_n32 (FP.fadd x6 (w_45.2.2 283 x7.toNatClampNeg)) (f_X12_clearBy_131 a1 a2 x3 x4 x5 x7 (FP.fadd x6 (w_45.2.2 283 x7.toNatClampNeg)) w_45)))))
def f_X12_clearBy_91 (a1 : Int32) (a2 : Int32) (x3 : Int32) (x4 : Int32) (x5 : Int32) (x6 : UInt32) (x7 : Int32) (w : am_S) : Option ((Int32 × am_S) ⊕ (Int32 × Int32 × am_S)) :=
  am_loop (fun (st : (UInt32 × Int32 × am_S)) => f_X12_clearBy_91b a1 a2 x3 x4 x5 st.1 st.2.1 st.2.2) am_fuel (x6, x7, w)
def f_X12_clearBy_58b (a1 : Int32) (a2 : Int32) (x3 : Int32) (x4 : Int32) (x5 : Int32) (w : am_S) : Option ((Int32 × am_S) ⊕ (Int32 × Int32 × am_S)) :=
  if (w.1 271 13) ≤ x5 then (am_x (some (x4, w))) else (am_b2 (f_X12_has x3 x5 w) fun r_55 w_53 => if r_55 = 0 then (f_X12_clearBy_181 a1 a2 x3 x4 x5 w_53) else (am_chk (3 : Int32) 4 (am_n32 (FP.fdiv (FP.i2f (w_53.1 276 (3 : Int32).toNatClampNeg)) (1092616192 : UInt32)) (am_v (FP.fdiv (FP.i2f (w_53.1 276 (3 : Int32).toNatClampNeg)) (1092616192 : UInt32)) fun (x6_59 : UInt32) => f_X12_clearBy_91 a1 a2 x3 x4 x5 x6_59 (0 : Int32) w_53))))
def f_X12_clearBy_58 (a1 : Int32) (a2 : Int32) (x3 : Int32) (x4 : Int32) (x5 : Int32) (w : am_S) : Option (Int32 × am_S) :=
  am_loop (fun (st : (Int32 × Int32 × am_S)) => f_X12_clearBy_58b a1 a2 x3 st.1 st.2.1 st.2.2) am_fuel (x4, x5, w)
def f_X12_clearBy_51 (a1 : Int32) (a2 : Int32) (s0 : Int32) (w : am_S) : Option (Int32 × am_S) :=
  some (s0, w)
def f_X12_clearBy (a1 : Int32) (a2 : Int32) (w : am_S) : Option (Int32 × am_S) :=
  am_chk a1 48 (am_v ((w.1 287 a1.toNatClampNeg) &&& a2) fun (x3_61 : Int32) => if x3_61 = 0 then (f_X12_clearBy_26 a1 a2 w) else (if (lg_cmp ((am_lshr (w.2.1 271 20) a1) &&& (1 : Int64)) (1 : Int64)) = 0 then (f_X12_clearBy_26 a1 a2 w) else (am_chk (30 : Int32) 245 (if (w.1 281 (30 : Int32).toNatClampNeg) = 0 then (if (x3_61 &&& (x3_61 - (1 : Int32))) = 0 then (f_X12_clearBy_51 a1 a2 x3_61 w) else (f_X12_clearBy_51 a1 a2 (0 : Int32) w)) else (f_X12_clearBy_58 a1 a2 x3_61 (0 : Int32) (0 : Int32) w)))))
set_option maxRecDepth 100000 in
set_option maxHeartbeats 4000000 in
theorem k_X12_clearBy {G : am_G} {l : Launch} {a1 : Int32} {a2 : Int32}  {w : am_S} {rr : Int32} {ww : am_S} (hf : f_X12_clearBy a1 a2 w = some (rr, ww)) : am_Mi G l yX12_clearBy (Cond.code yX12_clearBy cX12_clearBy 8 (some .int) :: am_T) { frames := 1, cells := 0, slots := 0, locals := 64 } [.ref (G.1 + 271), .int a1, .int a2] w rr ww := by
  refine Met.ofW (cc := cX12_clearBy) (maxL := 8) (ret := (some .int)) (by decide) rfl ?_
  intro p e s m args below meth c s₁ B hml hv
  obtain ⟨rfl, hx, hb, hr, hts, hown, hlocks, hK, hE, hH⟩ := am_begin B hv
  have hown : s.vm.findClass RX12 = some m.cls := hown
  show W p l e { frames := 1, cells := 0, slots := 0, locals := 64 } s m _ below meth c s.heap [] 0 0 _ _
  have P26 : ∀ (w : am_S) (H : Heap) (locs : List Loc) (ls : Array Slot), f_X12_clearBy_26 a1 a2 w = some (rr, ww) → am_H G w s H locs → lv_has ls 8 [] → W p l e { frames := 1, cells := 0, slots := 0, locals := 64 } s m [.ref (G.1 + 271), .int a1, .int a2].toArray below meth c H locs 0 0 (MQ below (va_Qi (fun (x : Int32) (u : am_S) => x = rr ∧ u = ww) (am_U G) (am_A G)) [.ref (G.1 + 271), .int a1, .int a2].toArray s 0 0 (am_A G)) (F0 m 26 ls []) := by
    intro w H locs ls hf hH hl
    unfold f_X12_clearBy_26 at hf
    refine lv_iconst (v := 0) hx hb dX12_clearBy_26 (by decide) ?_
    exact am_reti hx hb hr hlocks hH hf dX12_clearBy_27
  have P58 : ∀ (x3 : Int32) (n1 : Nat) (x4 : Int32) (x5 : Int32) (w : am_S) (H : Heap) (locs : List Loc) (ls : Array Slot), am_loop (fun (st : (Int32 × Int32 × am_S)) => f_X12_clearBy_58b a1 a2 x3 st.1 st.2.1 st.2.2) n1 (x4, x5, w) = some (rr, ww) → am_H G w s H locs → lv_has ls 8 [(0, .ref (G.1 + 271)), (3, .int x3), (4, .int x4), (5, .int x5)] → W p l e { frames := 1, cells := 0, slots := 0, locals := 64 } s m [.ref (G.1 + 271), .int a1, .int a2].toArray below meth c H locs 0 0 (MQ below (va_Qi (fun (x : Int32) (u : am_S) => x = rr ∧ u = ww) (am_U G) (am_A G)) [.ref (G.1 + 271), .int a1, .int a2].toArray s 0 0 (am_A G)) (F0 m 58 ls []) := by
    intro x3 n1
    induction n1 with
    | zero =>
      intro x4 x5 w H locs ls hf hH hl
      exact (am_loop_zero hf).elim
    | succ n1 ih1 =>
      intro x4 x5 w H locs ls hf hH hl
      obtain ⟨z1, hf, hk1⟩ := am_loop_succ hf
      have hf : f_X12_clearBy_58b a1 a2 x3 x4 x5 w = some z1 := hf
      have P181 : ∀ (x4 : Int32) (x5 : Int32) (w : am_S) (z1 : ((Int32 × am_S) ⊕ (Int32 × Int32 × am_S))) (H : Heap) (locs : List Loc) (ls : Array Slot), f_X12_clearBy_181 a1 a2 x3 x4 x5 w = some z1 → am_lk (fun (st : (Int32 × Int32 × am_S)) => f_X12_clearBy_58b a1 a2 x3 st.1 st.2.1 st.2.2) n1 (rr, ww) z1 → am_H G w s H locs → lv_has ls 8 [(0, .ref (G.1 + 271)), (3, .int x3), (4, .int x4), (5, .int x5)] → W p l e { frames := 1, cells := 0, slots := 0, locals := 64 } s m [.ref (G.1 + 271), .int a1, .int a2].toArray below meth c H locs 0 0 (MQ below (va_Qi (fun (x : Int32) (u : am_S) => x = rr ∧ u = ww) (am_U G) (am_A G)) [.ref (G.1 + 271), .int a1, .int a2].toArray s 0 0 (am_A G)) (F0 m 181 ls []) := by
        intro x4 x5 w z1 H locs ls hf hk1 hH hl
        unfold f_X12_clearBy_181 at hf
        obtain ⟨x5_33, hx5_33, hf⟩ := am_v_some hf
        refine lv_iinc (v := x5_33) (lv' := [(5, .int x5_33), (0, .ref (G.1 + 271)), (3, .int x3), (4, .int x4)]) hx hb dX12_clearBy_181 hl (k := 3) rfl (by rw [hx5_33]; rfl) (by decide) rfl (fun ls hl => ?_)
        refine lv_goto (tgt := 58) hx hb dX12_clearBy_184 (by decide) ?_
        obtain rfl := Option.some.inj hf
        exact ih1 x4 x5_33 w H locs ls hk1 hH (lv_sub hl [1, 2, 3, 0] rfl)
      have P178 : ∀ (x5 : Int32) (s0 : Int32) (s1 : Int32) (w : am_S) (z1 : ((Int32 × am_S) ⊕ (Int32 × Int32 × am_S))) (H : Heap) (locs : List Loc) (ls : Array Slot), f_X12_clearBy_178 a1 a2 x3 x5 s0 s1 w = some z1 → am_lk (fun (st : (Int32 × Int32 × am_S)) => f_X12_clearBy_58b a1 a2 x3 st.1 st.2.1 st.2.2) n1 (rr, ww) z1 → am_H G w s H locs → lv_has ls 8 [(0, .ref (G.1 + 271)), (3, .int x3), (5, .int x5)] → W p l e { frames := 1, cells := 0, slots := 0, locals := 64 } s m [.ref (G.1 + 271), .int a1, .int a2].toArray below meth c H locs 0 0 (MQ below (va_Qi (fun (x : Int32) (u : am_S) => x = rr ∧ u = ww) (am_U G) (am_A G)) [.ref (G.1 + 271), .int a1, .int a2].toArray s 0 0 (am_A G)) (F0 m 178 ls [.int s0, .int s1]) := by
        intro x5 s0 s1 w z1 H locs ls hf hk1 hH hl
        unfold f_X12_clearBy_178 at hf
        refine lv_ior hx hb dX12_clearBy_178 ?_
        obtain ⟨x4_34, hx4_34, hf⟩ := am_v_some hf
        refine am_topi hx4_34 ?_
        refine lv_istore (lv' := [(4, .int x4_34), (0, .ref (G.1 + 271)), (3, .int x3), (5, .int x5)]) hx hb dX12_clearBy_179 hl (by decide) rfl (fun ls hl => ?_)
        exact P181 x4_34 x5 w z1 H locs ls hf hk1 hH (lv_sub hl [1, 2, 0, 3] rfl)
      have P91 : ∀ (x4 : Int32) (x5 : Int32) (n2 : Nat) (x6 : UInt32) (x7 : Int32) (w : am_S) (z1 : ((Int32 × am_S) ⊕ (Int32 × Int32 × am_S))) (H : Heap) (locs : List Loc) (ls : Array Slot), am_loop (fun (st : (UInt32 × Int32 × am_S)) => f_X12_clearBy_91b a1 a2 x3 x4 x5 st.1 st.2.1 st.2.2) n2 (x6, x7, w) = some z1 → am_lk (fun (st : (Int32 × Int32 × am_S)) => f_X12_clearBy_58b a1 a2 x3 st.1 st.2.1 st.2.2) n1 (rr, ww) z1 → am_H G w s H locs → lv_has ls 8 [(0, .ref (G.1 + 271)), (3, .int x3), (4, .int x4), (5, .int x5), (6, .float x6), (7, .int x7)] → W p l e { frames := 1, cells := 0, slots := 0, locals := 64 } s m [.ref (G.1 + 271), .int a1, .int a2].toArray below meth c H locs 0 0 (MQ below (va_Qi (fun (x : Int32) (u : am_S) => x = rr ∧ u = ww) (am_U G) (am_A G)) [.ref (G.1 + 271), .int a1, .int a2].toArray s 0 0 (am_A G)) (F0 m 91 ls []) := by
        intro x4 x5 n2
        induction n2 with
        | zero =>
          intro x6 x7 w z1 H locs ls hf hk1 hH hl
          exact (am_loop_zero hf).elim
        | succ n2 ih2 =>
          intro x6 x7 w z1 H locs ls hf hk1 hH hl
          obtain ⟨z2, hf, hk2⟩ := am_loop_succ hf
          have hf : f_X12_clearBy_91b a1 a2 x3 x4 x5 x6 x7 w = some z2 := hf
          have P131 : ∀ (x7 : Int32) (s0 : UInt32) (w : am_S) (z2 : (((Int32 × am_S) ⊕ (Int32 × Int32 × am_S)) ⊕ (UInt32 × Int32 × am_S))) (H : Heap) (locs : List Loc) (ls : Array Slot), f_X12_clearBy_131 a1 a2 x3 x4 x5 x7 s0 w = some z2 → am_lk (fun (st : (UInt32 × Int32 × am_S)) => f_X12_clearBy_91b a1 a2 x3 x4 x5 st.1 st.2.1 st.2.2) n2 z1 z2 → am_H G w s H locs → lv_has ls 8 [(0, .ref (G.1 + 271)), (3, .int x3), (4, .int x4), (5, .int x5), (7, .int x7)] → W p l e { frames := 1, cells := 0, slots := 0, locals := 64 } s m [.ref (G.1 + 271), .int a1, .int a2].toArray below meth c H locs 0 0 (MQ below (va_Qi (fun (x : Int32) (u : am_S) => x = rr ∧ u = ww) (am_U G) (am_A G)) [.ref (G.1 + 271), .int a1, .int a2].toArray s 0 0 (am_A G)) (F0 m 131 ls [.float s0]) := by
            intro x7 s0 w z2 H locs ls hf hk2 hH hl
            unfold f_X12_clearBy_131 at hf
            refine lv_fstore (lv' := [(6, .float s0), (0, .ref (G.1 + 271)), (3, .int x3), (4, .int x4), (5, .int x5), (7, .int x7)]) hx hb dX12_clearBy_131 hl (by decide) rfl (fun ls hl => ?_)
            obtain ⟨x7_35, hx7_35, hf⟩ := am_v_some hf
            refine lv_iinc (v := x7_35) (lv' := [(7, .int x7_35), (6, .float s0), (0, .ref (G.1 + 271)), (3, .int x3), (4, .int x4), (5, .int x5)]) hx hb dX12_clearBy_133 hl (k := 5) rfl (by rw [hx7_35]; rfl) (by decide) rfl (fun ls hl => ?_)
            refine lv_goto (tgt := 91) hx hb dX12_clearBy_136 (by decide) ?_
            obtain rfl := Option.some.inj hf
            exact ih2 s0 x7_35 w z1 H locs ls hk2 hk1 hH (lv_sub hl [2, 3, 4, 5, 1, 0] rfl)
          have P129 : ∀ (x6 : UInt32) (x7 : Int32) (w : am_S) (z2 : (((Int32 × am_S) ⊕ (Int32 × Int32 × am_S)) ⊕ (UInt32 × Int32 × am_S))) (H : Heap) (locs : List Loc) (ls : Array Slot), f_X12_clearBy_129 a1 a2 x3 x4 x5 x6 x7 w = some z2 → am_lk (fun (st : (UInt32 × Int32 × am_S)) => f_X12_clearBy_91b a1 a2 x3 x4 x5 st.1 st.2.1 st.2.2) n2 z1 z2 → am_H G w s H locs → lv_has ls 8 [(0, .ref (G.1 + 271)), (3, .int x3), (4, .int x4), (5, .int x5), (6, .float x6), (7, .int x7)] → W p l e { frames := 1, cells := 0, slots := 0, locals := 64 } s m [.ref (G.1 + 271), .int a1, .int a2].toArray below meth c H locs 0 0 (MQ below (va_Qi (fun (x : Int32) (u : am_S) => x = rr ∧ u = ww) (am_U G) (am_A G)) [.ref (G.1 + 271), .int a1, .int a2].toArray s 0 0 (am_A G)) (F0 m 129 ls []) := by
            intro x6 x7 w z2 H locs ls hf hk2 hH hl
            unfold f_X12_clearBy_129 at hf
            refine lv_fload hx hb dX12_clearBy_129 (lv_at hl 4 rfl) ?_
            exact P131 x7 x6 w z2 H locs ls hf hk2 hH (lv_sub hl [0, 1, 2, 3, 5] rfl)
          unfold f_X12_clearBy_91b at hf
          refine lv_iload hx hb dX12_clearBy_91 (lv_at hl 5 rfl) ?_
          refine lv_aload_n hx hb dX12_clearBy_93 rfl (lv_at hl 0 rfl) ?_
          refine am_get hx hb hts hK hown hH (am_o12 (p := 271) (by decide +kernel)) rfl am_inX12 13 (by decide) am_q1332 (v := .int (w.1 271 13)) rfl dX12_clearBy_94 ?_
          refine lv_icmp_ge (tgt := 139) hx hb dX12_clearBy_97 (by decide) (fun hc_36 => ?_) (fun hc_36 => ?_)
          · have hf := (if_pos hc_36).symm.trans hf
            obtain ⟨y_37, hf, hzy_37⟩ := am_x_some hf
            rw [hzy_37] at hk2
            have hf := hf.trans (congrArg some (show y_37 = z1 from hk2))
            refine lv_aload_n hx hb dX12_clearBy_139 rfl (lv_at hl 0 rfl) ?_
            refine am_get hx hb hts hK hown hH (am_o12 (p := 271) (by decide +kernel)) rfl am_inX12 17 (by decide) am_q1336 (v := .ref (G.1 + 281)) rfl dX12_clearBy_140 ?_
            refine lv_bipush (v := 30) hx hb dX12_clearBy_143 (by decide) ?_
            obtain ⟨hi_38, hf⟩ := am_chk_some hf
            refine am_iald hx hb hK hH (am_ai_of (N := 245) (by decide +kernel)) hi_38 dX12_clearBy_145 ?_
            refine lv_i2f hx hb dX12_clearBy_146 ?_
            refine lv_ldcf (v := 1092616192) hx hb hown (hts _ am_q1497) dX12_clearBy_147 ?_
            obtain ⟨hn_39, hf⟩ := am_n32_some hf
            refine lv_fdiv hx hb dX12_clearBy_149 hn_39 ?_
            obtain ⟨x7_40, hx7_40, hf⟩ := am_v_some hf
            refine am_topf hx7_40 ?_
            refine lv_fstore (lv' := [(7, .float x7_40), (0, .ref (G.1 + 271)), (3, .int x3), (4, .int x4), (5, .int x5), (6, .float x6)]) hx hb dX12_clearBy_150 hl (by decide) rfl (fun ls hl => ?_)
            refine lv_iload hx hb dX12_clearBy_152 (lv_at hl 3 rfl) ?_
            refine lv_aload_n hx hb dX12_clearBy_154 rfl (lv_at hl 1 rfl) ?_
            refine am_get hx hb hts hK hown hH (am_o12 (p := 271) (by decide +kernel)) rfl am_inX12 19 (by decide) am_q1338 (v := .ref (G.1 + 283)) rfl dX12_clearBy_155 ?_
            refine lv_iload hx hb dX12_clearBy_158 (lv_at hl 4 rfl) ?_
            obtain ⟨hi_41, hf⟩ := am_chk_some hf
            refine am_fald hx hb hK hH (am_af_of (N := 10) (by decide +kernel)) hi_41 dX12_clearBy_160 ?_
            refine lv_fload hx hb dX12_clearBy_161 (lv_at hl 0 rfl) ?_
            refine lv_fload hx hb dX12_clearBy_163 (lv_at hl 5 rfl) ?_
            obtain ⟨hn_42, hf⟩ := am_n32_some hf
            refine lv_fmul hx hb dX12_clearBy_165 hn_42 ?_
            refine lv_fcmp hx hb dX12_clearBy_166 ?_
            refine lv_if_lt (tgt := 177) hx hb dX12_clearBy_167 (by decide) (fun hc_43 => ?_) (fun hc_43 => ?_)
            · have hf := (if_pos hc_43).symm.trans hf
              refine lv_iconst (v := 0) hx hb dX12_clearBy_177 (by decide) ?_
              exact P178 x5 (0 : Int32) x4 w z1 H locs ls hf hk1 hH (lv_sub hl [1, 2, 4] rfl)
            · have hf := (if_neg hc_43).symm.trans hf
              refine lv_iconst (v := 1) hx hb dX12_clearBy_170 (by decide) ?_
              refine lv_iload hx hb dX12_clearBy_171 (lv_at hl 4 rfl) ?_
              refine lv_ishl hx hb dX12_clearBy_173 ?_
              refine lv_goto (tgt := 178) hx hb dX12_clearBy_174 (by decide) ?_
              exact P178 x5 ((1 : Int32) <<< (x5 &&& 31)) x4 w z1 H locs ls hf hk1 hH (lv_sub hl [1, 2, 4] rfl)
          · have hf := (if_neg hc_36).symm.trans hf
            refine lv_iload hx hb dX12_clearBy_100 (lv_at hl 5 rfl) ?_
            refine lv_iload hx hb dX12_clearBy_102 (lv_at hl 3 rfl) ?_
            refine lv_icmp_eq (tgt := 129) hx hb dX12_clearBy_104 (by decide) (fun hc_44 => ?_) (fun hc_44 => ?_)
            · have hf := (if_pos hc_44).symm.trans hf
              exact P129 x6 x7 w z2 H locs ls hf hk2 hH (lv_sub hl [0, 1, 2, 3, 4, 5] rfl)
            · have hf := (if_neg hc_44).symm.trans hf
              refine lv_iload_n hx hb dX12_clearBy_107 rfl (lv_at hl 1 rfl) ?_
              refine lv_iload hx hb dX12_clearBy_108 (lv_at hl 5 rfl) ?_
              obtain ⟨r_47, w_45, hq_46, hf⟩ := am_b2_some hf
              refine am_calli (r := r_47) (w' := w_45) (am_runS (n := 2) (As := [.int x3, .int x7]) (rest := []) ⟨hx, hb, hml, hown, hts⟩ hK hE hH (k_X12_has hq_46) (am_gS am_q1454 am_q1455 am_q13 am_q1456) ⟨rfl, rfl⟩ (by decide +kernel) ⟨Nat.le_of_ble_eq_true rfl, Nat.le_of_ble_eq_true rfl⟩ rfl hl.1 rfl (Nat.le_of_ble_eq_true rfl) ⟨Nat.zero_le _, Nat.zero_le _⟩ dX12_clearBy_110) hH (fun H locs hH => ?_)
              refine lv_if_eq (tgt := 129) hx hb dX12_clearBy_113 (by decide) (fun hc_48 => ?_) (fun hc_48 => ?_)
              · have hf := (if_pos hc_48).symm.trans hf
                exact P129 x6 x7 w_45 z2 H locs ls hf hk2 hH (lv_sub hl [0, 1, 2, 3, 4, 5] rfl)
              · have hf := (if_neg hc_48).symm.trans hf
                refine lv_fload hx hb dX12_clearBy_116 (lv_at hl 4 rfl) ?_
                refine lv_aload_n hx hb dX12_clearBy_118 rfl (lv_at hl 0 rfl) ?_
                refine am_get hx hb hts hK hown hH (am_o12 (p := 271) (by decide +kernel)) rfl am_inX12 19 (by decide) am_q1338 (v := .ref (G.1 + 283)) rfl dX12_clearBy_119 ?_
                refine lv_iload hx hb dX12_clearBy_122 (lv_at hl 5 rfl) ?_
                obtain ⟨hi_49, hf⟩ := am_chk_some hf
                refine am_fald hx hb hK hH (am_af_of (N := 10) (by decide +kernel)) hi_49 dX12_clearBy_124 ?_
                obtain ⟨hn_50, hf⟩ := am_n32_some hf
                refine lv_fadd hx hb dX12_clearBy_125 hn_50 ?_
                refine lv_goto (tgt := 131) hx hb dX12_clearBy_126 (by decide) ?_
                exact P131 x7 (FP.fadd x6 (w_45.2.2 283 x7.toNatClampNeg)) w_45 z2 H locs ls hf hk2 hH (lv_sub hl [0, 1, 2, 3, 5] rfl)
      unfold f_X12_clearBy_58b at hf
      refine lv_iload hx hb dX12_clearBy_58 (lv_at hl 3 rfl) ?_
      refine lv_aload_n hx hb dX12_clearBy_60 rfl (lv_at hl 0 rfl) ?_
      refine am_get hx hb hts hK hown hH (am_o12 (p := 271) (by decide +kernel)) rfl am_inX12 13 (by decide) am_q1332 (v := .int (w.1 271 13)) rfl dX12_clearBy_61 ?_
      refine lv_icmp_ge (tgt := 187) hx hb dX12_clearBy_64 (by decide) (fun hc_51 => ?_) (fun hc_51 => ?_)
      · have hf := (if_pos hc_51).symm.trans hf
        obtain ⟨y_52, hf, hzy_52⟩ := am_x_some hf
        rw [hzy_52] at hk1
        have hf := hf.trans (congrArg some (show y_52 = (rr, ww) from hk1))
        refine lv_iload hx hb dX12_clearBy_187 (lv_at hl 2 rfl) ?_
        exact am_reti hx hb hr hlocks hH hf dX12_clearBy_189
      · have hf := (if_neg hc_51).symm.trans hf
        refine lv_iload_n hx hb dX12_clearBy_67 rfl (lv_at hl 1 rfl) ?_
        refine lv_iload hx hb dX12_clearBy_68 (lv_at hl 3 rfl) ?_
        obtain ⟨r_55, w_53, hq_54, hf⟩ := am_b2_some hf
        refine am_calli (r := r_55) (w' := w_53) (am_runS (n := 2) (As := [.int x3, .int x5]) (rest := []) ⟨hx, hb, hml, hown, hts⟩ hK hE hH (k_X12_has hq_54) (am_gS am_q1454 am_q1455 am_q13 am_q1456) ⟨rfl, rfl⟩ (by decide +kernel) ⟨Nat.le_of_ble_eq_true rfl, Nat.le_of_ble_eq_true rfl⟩ rfl hl.1 rfl (Nat.le_of_ble_eq_true rfl) ⟨Nat.zero_le _, Nat.zero_le _⟩ dX12_clearBy_70) hH (fun H locs hH => ?_)
        refine lv_if_eq (tgt := 181) hx hb dX12_clearBy_73 (by decide) (fun hc_56 => ?_) (fun hc_56 => ?_)
        · have hf := (if_pos hc_56).symm.trans hf
          exact P181 x4 x5 w_53 z1 H locs ls hf hk1 hH (lv_sub hl [0, 1, 2, 3] rfl)
        · have hf := (if_neg hc_56).symm.trans hf
          refine lv_aload_n hx hb dX12_clearBy_76 rfl (lv_at hl 0 rfl) ?_
          refine am_get hx hb hts hK hown hH (am_o12 (p := 271) (by decide +kernel)) rfl am_inX12 10 (by decide) am_q1329 (v := .ref (G.1 + 276)) rfl dX12_clearBy_77 ?_
          refine lv_iconst (v := 3) hx hb dX12_clearBy_80 (by decide) ?_
          obtain ⟨hi_57, hf⟩ := am_chk_some hf
          refine am_iald hx hb hK hH (am_ai_of (N := 4) (by decide +kernel)) hi_57 dX12_clearBy_81 ?_
          refine lv_i2f hx hb dX12_clearBy_82 ?_
          refine lv_ldcf (v := 1092616192) hx hb hown (hts _ am_q1497) dX12_clearBy_83 ?_
          obtain ⟨hn_58, hf⟩ := am_n32_some hf
          refine lv_fdiv hx hb dX12_clearBy_85 hn_58 ?_
          obtain ⟨x6_59, hx6_59, hf⟩ := am_v_some hf
          refine am_topf hx6_59 ?_
          refine lv_fstore (lv' := [(6, .float x6_59), (0, .ref (G.1 + 271)), (3, .int x3), (4, .int x4), (5, .int x5)]) hx hb dX12_clearBy_86 hl (by decide) rfl (fun ls hl => ?_)
          refine lv_iconst (v := 0) hx hb dX12_clearBy_88 (by decide) ?_
          refine lv_istore (lv' := [(7, .int (0 : Int32)), (6, .float x6_59), (0, .ref (G.1 + 271)), (3, .int x3), (4, .int x4), (5, .int x5)]) hx hb dX12_clearBy_89 hl (by decide) rfl (fun ls hl => ?_)
          exact P91 x4 x5 am_fuel x6_59 (0 : Int32) w_53 z1 H locs ls hf hk1 hH (lv_sub hl [2, 3, 4, 5, 1, 0] rfl)
  have P51 : ∀ (s0 : Int32) (w : am_S) (H : Heap) (locs : List Loc) (ls : Array Slot), f_X12_clearBy_51 a1 a2 s0 w = some (rr, ww) → am_H G w s H locs → lv_has ls 8 [] → W p l e { frames := 1, cells := 0, slots := 0, locals := 64 } s m [.ref (G.1 + 271), .int a1, .int a2].toArray below meth c H locs 0 0 (MQ below (va_Qi (fun (x : Int32) (u : am_S) => x = rr ∧ u = ww) (am_U G) (am_A G)) [.ref (G.1 + 271), .int a1, .int a2].toArray s 0 0 (am_A G)) (F0 m 51 ls [.int s0]) := by
    intro s0 w H locs ls hf hH hl
    unfold f_X12_clearBy_51 at hf
    exact am_reti hx hb hr hlocks hH hf dX12_clearBy_51
  refine am_enter (lv := [(0, .ref (G.1 + 271)), (1, .int a1), (2, .int a2)]) (Nat.le_of_ble_eq_true rfl) rfl (fun ls hl => ?_)
  unfold f_X12_clearBy at hf
  refine am_start hH (fun H locs hH => ?_)
  refine lv_aload_n hx hb dX12_clearBy_0 rfl (lv_at hl 0 rfl) ?_
  refine am_get hx hb hts hK hown hH (am_o12 (p := 271) (by decide +kernel)) rfl am_inX12 26 (by decide) am_q1345 (v := .ref (G.1 + 287)) rfl dX12_clearBy_1 ?_
  refine lv_iload_n hx hb dX12_clearBy_4 rfl (lv_at hl 1 rfl) ?_
  obtain ⟨hi_60, hf⟩ := am_chk_some hf
  refine am_iald hx hb hK hH (am_ai_of (N := 48) (by decide +kernel)) hi_60 dX12_clearBy_5 ?_
  refine lv_iload_n hx hb dX12_clearBy_6 rfl (lv_at hl 2 rfl) ?_
  refine lv_iand hx hb dX12_clearBy_7 ?_
  obtain ⟨x3_61, hx3_61, hf⟩ := am_v_some hf
  refine am_topi hx3_61 ?_
  refine lv_istore_n (lv' := [(3, .int x3_61), (0, .ref (G.1 + 271)), (1, .int a1), (2, .int a2)]) hx hb dX12_clearBy_8 rfl hl (by decide) rfl (fun ls hl => ?_)
  refine lv_iload_n hx hb dX12_clearBy_9 rfl (lv_at hl 0 rfl) ?_
  refine lv_if_eq (tgt := 26) hx hb dX12_clearBy_10 (by decide) (fun hc_62 => ?_) (fun hc_62 => ?_)
  · have hf := (if_pos hc_62).symm.trans hf
    exact P26 w H locs ls hf hH (lv_sub hl [] rfl)
  · have hf := (if_neg hc_62).symm.trans hf
    refine lv_aload_n hx hb dX12_clearBy_13 rfl (lv_at hl 1 rfl) ?_
    refine am_get hx hb hts hK hown hH (am_o12 (p := 271) (by decide +kernel)) rfl am_inX12 20 (by decide) am_q1339 (v := .long (w.2.1 271 20)) rfl dX12_clearBy_14 ?_
    refine lv_iload_n hx hb dX12_clearBy_17 rfl (lv_at hl 2 rfl) ?_
    refine lv_lshr (v := am_lshr (w.2.1 271 20) a1) hx hb dX12_clearBy_18 rfl ?_
    refine lv_lconst (v := 1) hx hb dX12_clearBy_19 (by decide) ?_
    refine lv_land hx hb dX12_clearBy_20 ?_
    refine lv_lconst (v := 1) hx hb dX12_clearBy_21 (by decide) ?_
    refine W.lcmp hx hb dX12_clearBy_22 ?_
    refine lv_if_ne (tgt := 28) hx hb dX12_clearBy_23 (by decide) (fun hc_63 => ?_) (fun hc_63 => ?_)
    · have hf := (if_neg hc_63).symm.trans hf
      refine lv_aload_n hx hb dX12_clearBy_28 rfl (lv_at hl 1 rfl) ?_
      refine am_get hx hb hts hK hown hH (am_o12 (p := 271) (by decide +kernel)) rfl am_inX12 17 (by decide) am_q1336 (v := .ref (G.1 + 281)) rfl dX12_clearBy_29 ?_
      refine lv_bipush (v := 30) hx hb dX12_clearBy_32 (by decide) ?_
      obtain ⟨hi_64, hf⟩ := am_chk_some hf
      refine am_iald hx hb hK hH (am_ai_of (N := 245) (by decide +kernel)) hi_64 dX12_clearBy_34 ?_
      refine lv_if_ne (tgt := 52) hx hb dX12_clearBy_35 (by decide) (fun hc_65 => ?_) (fun hc_65 => ?_)
      · have hf := (if_neg hc_65).symm.trans hf
        refine lv_iconst (v := 0) hx hb dX12_clearBy_52 (by decide) ?_
        refine lv_istore (lv' := [(4, .int (0 : Int32)), (3, .int x3_61), (0, .ref (G.1 + 271)), (1, .int a1), (2, .int a2)]) hx hb dX12_clearBy_53 hl (by decide) rfl (fun ls hl => ?_)
        refine lv_iconst (v := 0) hx hb dX12_clearBy_55 (by decide) ?_
        refine lv_istore (lv' := [(5, .int (0 : Int32)), (4, .int (0 : Int32)), (3, .int x3_61), (0, .ref (G.1 + 271)), (1, .int a1), (2, .int a2)]) hx hb dX12_clearBy_56 hl (by decide) rfl (fun ls hl => ?_)
        exact P58 x3_61 am_fuel (0 : Int32) (0 : Int32) w H locs ls hf hH (lv_sub hl [3, 2, 1, 0] rfl)
      · have hf := (if_pos hc_65).symm.trans hf
        refine lv_iload_n hx hb dX12_clearBy_38 rfl (lv_at hl 0 rfl) ?_
        refine lv_iload_n hx hb dX12_clearBy_39 rfl (lv_at hl 0 rfl) ?_
        refine lv_iconst (v := 1) hx hb dX12_clearBy_40 (by decide) ?_
        refine lv_isub hx hb dX12_clearBy_41 ?_
        refine lv_iand hx hb dX12_clearBy_42 ?_
        refine lv_if_ne (tgt := 50) hx hb dX12_clearBy_43 (by decide) (fun hc_66 => ?_) (fun hc_66 => ?_)
        · have hf := (if_neg hc_66).symm.trans hf
          refine lv_iconst (v := 0) hx hb dX12_clearBy_50 (by decide) ?_
          exact P51 (0 : Int32) w H locs ls hf hH (lv_sub hl [] rfl)
        · have hf := (if_pos hc_66).symm.trans hf
          refine lv_iload_n hx hb dX12_clearBy_46 rfl (lv_at hl 0 rfl) ?_
          refine lv_goto (tgt := 51) hx hb dX12_clearBy_47 (by decide) ?_
          exact P51 x3_61 w H locs ls hf hH (lv_sub hl [] rfl)
    · have hf := (if_pos hc_63).symm.trans hf
      exact P26 w H locs ls hf hH (lv_sub hl [] rfl)

def f_X12_remaining_13b (a1 : Int32) (x2 : Int32) (x3 : Int32) (x4 : Int32) (w : am_S) : Option (((Int32 × am_S) ⊕ (Int32 × Int32 × am_S)) ⊕ (Int32 × Int32 × am_S)) :=
  am_b2 (f_X12_slotMany w) fun r_14 w_12 => if r_14 ≤ x4 then (am_x (am_v (x2 &&& (x3 ^^^ (-1 : Int32))) fun (x2_17 : Int32) => some (.inr (x2_17, x3, w_12)))) else (am_b2 (f_X12_clearBy x4 x2 w_12) fun r_20 w_18 => am_v (x3 ||| r_20) fun (x3_21 : Int32) => am_v (x4 + (1 : Int32)) fun (x4_22 : Int32) => some (.inr (x3_21, x4_22, w_18)))
def f_X12_remaining_13 (a1 : Int32) (x2 : Int32) (x3 : Int32) (x4 : Int32) (w : am_S) : Option ((Int32 × am_S) ⊕ (Int32 × Int32 × am_S)) :=
  am_loop (fun (st : (Int32 × Int32 × am_S)) => f_X12_remaining_13b a1 x2 st.1 st.2.1 st.2.2) am_fuel (x3, x4, w)
def f_X12_remaining_4b (a1 : Int32) (x2 : Int32) (x3 : Int32) (w : am_S) : Option ((Int32 × am_S) ⊕ (Int32 × Int32 × am_S)) :=
  if x3 = 0 then (am_x (some (x2, w))) else (f_X12_remaining_13 a1 x2 (0 : Int32) (0 : Int32) w)
def f_X12_remaining_4 (a1 : Int32) (x2 : Int32) (x3 : Int32) (w : am_S) : Option (Int32 × am_S) :=
  am_loop (fun (st : (Int32 × Int32 × am_S)) => f_X12_remaining_4b a1 st.1 st.2.1 st.2.2) am_fuel (x2, x3, w)
def f_X12_remaining (a1 : Int32) (w : am_S) : Option (Int32 × am_S) :=
  f_X12_remaining_4 a1 a1 (1 : Int32) w
set_option maxRecDepth 100000 in
set_option maxHeartbeats 4000000 in
theorem k_X12_remaining {G : am_G} {l : Launch} {a1 : Int32}  {w : am_S} {rr : Int32} {ww : am_S} (hf : f_X12_remaining a1 w = some (rr, ww)) : am_Mi G l yX12_remaining (Cond.code yX12_remaining cX12_remaining 5 (some .int) :: am_T) { frames := 2, cells := 0, slots := 0, locals := 128 } [.ref (G.1 + 271), .int a1] w rr ww := by
  refine Met.ofW (cc := cX12_remaining) (maxL := 5) (ret := (some .int)) (by decide) rfl ?_
  intro p e s m args below meth c s₁ B hml hv
  obtain ⟨rfl, hx, hb, hr, hts, hown, hlocks, hK, hE, hH⟩ := am_begin B hv
  have hown : s.vm.findClass RX12 = some m.cls := hown
  show W p l e { frames := 2, cells := 0, slots := 0, locals := 128 } s m _ below meth c s.heap [] 0 0 _ _
  have P4 : ∀ (n1 : Nat) (x2 : Int32) (x3 : Int32) (w : am_S) (H : Heap) (locs : List Loc) (ls : Array Slot), am_loop (fun (st : (Int32 × Int32 × am_S)) => f_X12_remaining_4b a1 st.1 st.2.1 st.2.2) n1 (x2, x3, w) = some (rr, ww) → am_H G w s H locs → lv_has ls 5 [(0, .ref (G.1 + 271)), (2, .int x2), (3, .int x3)] → W p l e { frames := 2, cells := 0, slots := 0, locals := 128 } s m [.ref (G.1 + 271), .int a1].toArray below meth c H locs 0 0 (MQ below (va_Qi (fun (x : Int32) (u : am_S) => x = rr ∧ u = ww) (am_U G) (am_A G)) [.ref (G.1 + 271), .int a1].toArray s 0 0 (am_A G)) (F0 m 4 ls []) := by
    intro n1
    induction n1 with
    | zero =>
      intro x2 x3 w H locs ls hf hH hl
      exact (am_loop_zero hf).elim
    | succ n1 ih1 =>
      intro x2 x3 w H locs ls hf hH hl
      obtain ⟨z1, hf, hk1⟩ := am_loop_succ hf
      have hf : f_X12_remaining_4b a1 x2 x3 w = some z1 := hf
      have P13 : ∀ (x2 : Int32) (n2 : Nat) (x3 : Int32) (x4 : Int32) (w : am_S) (z1 : ((Int32 × am_S) ⊕ (Int32 × Int32 × am_S))) (H : Heap) (locs : List Loc) (ls : Array Slot), am_loop (fun (st : (Int32 × Int32 × am_S)) => f_X12_remaining_13b a1 x2 st.1 st.2.1 st.2.2) n2 (x3, x4, w) = some z1 → am_lk (fun (st : (Int32 × Int32 × am_S)) => f_X12_remaining_4b a1 st.1 st.2.1 st.2.2) n1 (rr, ww) z1 → am_H G w s H locs → lv_has ls 5 [(0, .ref (G.1 + 271)), (2, .int x2), (3, .int x3), (4, .int x4)] → W p l e { frames := 2, cells := 0, slots := 0, locals := 128 } s m [.ref (G.1 + 271), .int a1].toArray below meth c H locs 0 0 (MQ below (va_Qi (fun (x : Int32) (u : am_S) => x = rr ∧ u = ww) (am_U G) (am_A G)) [.ref (G.1 + 271), .int a1].toArray s 0 0 (am_A G)) (F0 m 13 ls []) := by
        intro x2 n2
        induction n2 with
        | zero =>
          intro x3 x4 w z1 H locs ls hf hk1 hH hl
          exact (am_loop_zero hf).elim
        | succ n2 ih2 =>
          intro x3 x4 w z1 H locs ls hf hk1 hH hl
          obtain ⟨z2, hf, hk2⟩ := am_loop_succ hf
          have hf : f_X12_remaining_13b a1 x2 x3 x4 w = some z2 := hf
          unfold f_X12_remaining_13b at hf
          refine lv_iload hx hb dX12_remaining_13 (lv_at hl 3 rfl) ?_
          refine lv_aload_n hx hb dX12_remaining_15 rfl (lv_at hl 0 rfl) ?_
          obtain ⟨r_14, w_12, hq_13, hf⟩ := am_b2_some hf
          refine am_calli (r := r_14) (w' := w_12) (am_runV (n := 0) (As := []) (rest := [.int x4]) ⟨hx, hb, hml, hown, hts⟩ hK hE hH (k_X12_slotMany hq_13) (am_gV am_q1518 am_q1520 am_qs60 am_q13 am_q1521) (am_o12 (p := 271) (by decide +kernel)) rfl ⟨rfl, rfl⟩ (by decide +kernel) ⟨Nat.le_of_ble_eq_true rfl, Nat.le_of_ble_eq_true rfl⟩ rfl hl.1 rfl (Nat.le_of_ble_eq_true rfl) ⟨Nat.zero_le _, Nat.zero_le _⟩ dX12_remaining_16) hH (fun H locs hH => ?_)
          refine lv_icmp_ge (tgt := 38) hx hb dX12_remaining_19 (by decide) (fun hc_15 => ?_) (fun hc_15 => ?_)
          · have hf := (if_pos hc_15).symm.trans hf
            obtain ⟨y_16, hf, hzy_16⟩ := am_x_some hf
            rw [hzy_16] at hk2
            have hf := hf.trans (congrArg some (show y_16 = z1 from hk2))
            refine lv_iload_n hx hb dX12_remaining_38 rfl (lv_at hl 1 rfl) ?_
            refine lv_iload_n hx hb dX12_remaining_39 rfl (lv_at hl 2 rfl) ?_
            refine lv_iconst (v := -1) hx hb dX12_remaining_40 (by decide) ?_
            refine lv_ixor hx hb dX12_remaining_41 ?_
            refine lv_iand hx hb dX12_remaining_42 ?_
            obtain ⟨x2_17, hx2_17, hf⟩ := am_v_some hf
            refine am_topi hx2_17 ?_
            refine lv_istore_n (lv' := [(2, .int x2_17), (0, .ref (G.1 + 271)), (3, .int x3), (4, .int x4)]) hx hb dX12_remaining_43 rfl hl (by decide) rfl (fun ls hl => ?_)
            refine lv_goto (tgt := 4) hx hb dX12_remaining_44 (by decide) ?_
            obtain rfl := Option.some.inj hf
            exact ih1 x2_17 x3 w_12 H locs ls hk1 hH (lv_sub hl [1, 0, 2] rfl)
          · have hf := (if_neg hc_15).symm.trans hf
            refine lv_iload_n hx hb dX12_remaining_22 rfl (lv_at hl 2 rfl) ?_
            refine lv_aload_n hx hb dX12_remaining_23 rfl (lv_at hl 0 rfl) ?_
            refine lv_iload hx hb dX12_remaining_24 (lv_at hl 3 rfl) ?_
            refine lv_iload_n hx hb dX12_remaining_26 rfl (lv_at hl 1 rfl) ?_
            obtain ⟨r_20, w_18, hq_19, hf⟩ := am_b2_some hf
            refine am_calli (r := r_20) (w' := w_18) (am_runV (n := 2) (As := [.int x4, .int x2]) (rest := [.int x3]) ⟨hx, hb, hml, hown, hts⟩ hK hE hH (k_X12_clearBy hq_19) (am_gV am_q1810 am_q1812 am_qs105 am_q13 am_q1813) (am_o12 (p := 271) (by decide +kernel)) rfl ⟨rfl, rfl⟩ (by decide +kernel) ⟨Nat.le_of_ble_eq_true rfl, Nat.le_of_ble_eq_true rfl⟩ rfl hl.1 rfl (Nat.le_of_ble_eq_true rfl) ⟨Nat.zero_le _, Nat.zero_le _⟩ dX12_remaining_27) hH (fun H locs hH => ?_)
            refine lv_ior hx hb dX12_remaining_30 ?_
            obtain ⟨x3_21, hx3_21, hf⟩ := am_v_some hf
            refine am_topi hx3_21 ?_
            refine lv_istore_n (lv' := [(3, .int x3_21), (0, .ref (G.1 + 271)), (2, .int x2), (4, .int x4)]) hx hb dX12_remaining_31 rfl hl (by decide) rfl (fun ls hl => ?_)
            obtain ⟨x4_22, hx4_22, hf⟩ := am_v_some hf
            refine lv_iinc (v := x4_22) (lv' := [(4, .int x4_22), (3, .int x3_21), (0, .ref (G.1 + 271)), (2, .int x2)]) hx hb dX12_remaining_32 hl (k := 3) rfl (by rw [hx4_22]; rfl) (by decide) rfl (fun ls hl => ?_)
            refine lv_goto (tgt := 13) hx hb dX12_remaining_35 (by decide) ?_
            obtain rfl := Option.some.inj hf
            exact ih2 x3_21 x4_22 w_18 z1 H locs ls hk2 hk1 hH (lv_sub hl [2, 3, 1, 0] rfl)
      unfold f_X12_remaining_4b at hf
      refine lv_iload_n hx hb dX12_remaining_4 rfl (lv_at hl 2 rfl) ?_
      refine lv_if_eq (tgt := 47) hx hb dX12_remaining_5 (by decide) (fun hc_23 => ?_) (fun hc_23 => ?_)
      · have hf := (if_pos hc_23).symm.trans hf
        obtain ⟨y_24, hf, hzy_24⟩ := am_x_some hf
        rw [hzy_24] at hk1
        have hf := hf.trans (congrArg some (show y_24 = (rr, ww) from hk1))
        refine lv_iload_n hx hb dX12_remaining_47 rfl (lv_at hl 1 rfl) ?_
        exact am_reti hx hb hr hlocks hH hf dX12_remaining_48
      · have hf := (if_neg hc_23).symm.trans hf
        refine lv_iconst (v := 0) hx hb dX12_remaining_8 (by decide) ?_
        refine lv_istore_n (lv' := [(3, .int (0 : Int32)), (0, .ref (G.1 + 271)), (2, .int x2)]) hx hb dX12_remaining_9 rfl hl (by decide) rfl (fun ls hl => ?_)
        refine lv_iconst (v := 0) hx hb dX12_remaining_10 (by decide) ?_
        refine lv_istore (lv' := [(4, .int (0 : Int32)), (3, .int (0 : Int32)), (0, .ref (G.1 + 271)), (2, .int x2)]) hx hb dX12_remaining_11 hl (by decide) rfl (fun ls hl => ?_)
        exact P13 x2 am_fuel (0 : Int32) (0 : Int32) w z1 H locs ls hf hk1 hH (lv_sub hl [2, 3, 1, 0] rfl)
  refine am_enter (lv := [(0, .ref (G.1 + 271)), (1, .int a1)]) (Nat.le_of_ble_eq_true rfl) rfl (fun ls hl => ?_)
  unfold f_X12_remaining at hf
  refine am_start hH (fun H locs hH => ?_)
  refine lv_iload_n hx hb dX12_remaining_0 rfl (lv_at hl 1 rfl) ?_
  refine lv_istore_n (lv' := [(2, .int a1), (0, .ref (G.1 + 271)), (1, .int a1)]) hx hb dX12_remaining_1 rfl hl (by decide) rfl (fun ls hl => ?_)
  refine lv_iconst (v := 1) hx hb dX12_remaining_2 (by decide) ?_
  refine lv_istore_n (lv' := [(3, .int (1 : Int32)), (2, .int a1), (0, .ref (G.1 + 271)), (1, .int a1)]) hx hb dX12_remaining_3 rfl hl (by decide) rfl (fun ls hl => ?_)
  exact P4 am_fuel a1 (1 : Int32) w H locs ls hf hH (lv_sub hl [2, 1, 0] rfl)

def f_X12_knownWith_33 (a1 : Int32) (a2 : Int32) (s0 : Int32) (w : am_S) : Option (Int32 × am_S) :=
  some (s0, w)
def f_X12_knownWith (a1 : Int32) (a2 : Int32) (w : am_S) : Option (Int32 × am_S) :=
  am_b2 (f_X12_everybody w) fun r_14 w_12 => am_b2 (f_X12_unknownOnes w_12) fun r_17 w_15 => am_b2 (f_X12_remaining (r_17 &&& (a1 ^^^ (-1 : Int32))) w_15) fun r_20 w_18 => am_v (r_14 &&& (r_20 ^^^ (-1 : Int32))) fun (x3_21 : Int32) => if a2 = 0 then (f_X12_knownWith_33 a1 a2 (x3_21 &&& (a1 ^^^ (-1 : Int32))) w_18) else (f_X12_knownWith_33 a1 a2 x3_21 w_18)
set_option maxRecDepth 100000 in
set_option maxHeartbeats 4000000 in
theorem k_X12_knownWith {G : am_G} {l : Launch} {a1 : Int32} {a2 : Int32}  {w : am_S} {rr : Int32} {ww : am_S} (hf : f_X12_knownWith a1 a2 w = some (rr, ww)) : am_Mi G l yX12_knownWith (Cond.code yX12_knownWith cX12_knownWith 4 (some .int) :: am_T) { frames := 3, cells := 0, slots := 0, locals := 192 } [.ref (G.1 + 271), .int a1, .int a2] w rr ww := by
  refine Met.ofW (cc := cX12_knownWith) (maxL := 4) (ret := (some .int)) (by decide) rfl ?_
  intro p e s m args below meth c s₁ B hml hv
  obtain ⟨rfl, hx, hb, hr, hts, hown, hlocks, hK, hE, hH⟩ := am_begin B hv
  have hown : s.vm.findClass RX12 = some m.cls := hown
  show W p l e { frames := 3, cells := 0, slots := 0, locals := 192 } s m _ below meth c s.heap [] 0 0 _ _
  have P33 : ∀ (s0 : Int32) (w : am_S) (H : Heap) (locs : List Loc) (ls : Array Slot), f_X12_knownWith_33 a1 a2 s0 w = some (rr, ww) → am_H G w s H locs → lv_has ls 4 [] → W p l e { frames := 3, cells := 0, slots := 0, locals := 192 } s m [.ref (G.1 + 271), .int a1, .int a2].toArray below meth c H locs 0 0 (MQ below (va_Qi (fun (x : Int32) (u : am_S) => x = rr ∧ u = ww) (am_U G) (am_A G)) [.ref (G.1 + 271), .int a1, .int a2].toArray s 0 0 (am_A G)) (F0 m 33 ls [.int s0]) := by
    intro s0 w H locs ls hf hH hl
    unfold f_X12_knownWith_33 at hf
    exact am_reti hx hb hr hlocks hH hf dX12_knownWith_33
  refine am_enter (lv := [(0, .ref (G.1 + 271)), (1, .int a1), (2, .int a2)]) (Nat.le_of_ble_eq_true rfl) rfl (fun ls hl => ?_)
  unfold f_X12_knownWith at hf
  refine am_start hH (fun H locs hH => ?_)
  refine lv_aload_n hx hb dX12_knownWith_0 rfl (lv_at hl 0 rfl) ?_
  obtain ⟨r_14, w_12, hq_13, hf⟩ := am_b2_some hf
  refine am_calli (r := r_14) (w' := w_12) (am_runV (n := 0) (As := []) (rest := []) ⟨hx, hb, hml, hown, hts⟩ hK hE hH (k_X12_everybody hq_13) (am_gV am_q1802 am_q1804 am_qs103 am_q13 am_q1805) (am_o12 (p := 271) (by decide +kernel)) rfl ⟨rfl, rfl⟩ (by decide +kernel) ⟨Nat.le_of_ble_eq_true rfl, Nat.le_of_ble_eq_true rfl⟩ rfl hl.1 rfl (Nat.le_of_ble_eq_true rfl) ⟨Nat.zero_le _, Nat.zero_le _⟩ dX12_knownWith_1) hH (fun H locs hH => ?_)
  refine lv_aload_n hx hb dX12_knownWith_4 rfl (lv_at hl 0 rfl) ?_
  refine lv_aload_n hx hb dX12_knownWith_5 rfl (lv_at hl 0 rfl) ?_
  obtain ⟨r_17, w_15, hq_16, hf⟩ := am_b2_some hf
  refine am_calli (r := r_17) (w' := w_15) (am_runV (n := 0) (As := []) (rest := [.ref (G.1 + 271), .int r_14]) ⟨hx, hb, hml, hown, hts⟩ hK hE hH (k_X12_unknownOnes hq_16) (am_gV am_q1798 am_q1800 am_qs102 am_q13 am_q1801) (am_o12 (p := 271) (by decide +kernel)) rfl ⟨rfl, rfl⟩ (by decide +kernel) ⟨Nat.le_of_ble_eq_true rfl, Nat.le_of_ble_eq_true rfl⟩ rfl hl.1 rfl (Nat.le_of_ble_eq_true rfl) ⟨Nat.zero_le _, Nat.zero_le _⟩ dX12_knownWith_6) hH (fun H locs hH => ?_)
  refine lv_iload_n hx hb dX12_knownWith_9 rfl (lv_at hl 1 rfl) ?_
  refine lv_iconst (v := -1) hx hb dX12_knownWith_10 (by decide) ?_
  refine lv_ixor hx hb dX12_knownWith_11 ?_
  refine lv_iand hx hb dX12_knownWith_12 ?_
  obtain ⟨r_20, w_18, hq_19, hf⟩ := am_b2_some hf
  refine am_calli (r := r_20) (w' := w_18) (am_runV (n := 1) (As := [.int (r_17 &&& (a1 ^^^ (-1 : Int32)))]) (rest := [.int r_14]) ⟨hx, hb, hml, hown, hts⟩ hK hE hH (k_X12_remaining hq_19) (am_gV am_q1806 am_q1808 am_qs104 am_q13 am_q1809) (am_o12 (p := 271) (by decide +kernel)) rfl ⟨rfl, rfl⟩ (by decide +kernel) ⟨Nat.le_of_ble_eq_true rfl, Nat.le_of_ble_eq_true rfl⟩ rfl hl.1 rfl (Nat.le_of_ble_eq_true rfl) ⟨Nat.zero_le _, Nat.zero_le _⟩ dX12_knownWith_13) hH (fun H locs hH => ?_)
  refine lv_iconst (v := -1) hx hb dX12_knownWith_16 (by decide) ?_
  refine lv_ixor hx hb dX12_knownWith_17 ?_
  refine lv_iand hx hb dX12_knownWith_18 ?_
  obtain ⟨x3_21, hx3_21, hf⟩ := am_v_some hf
  refine am_topi hx3_21 ?_
  refine lv_istore_n (lv' := [(3, .int x3_21), (0, .ref (G.1 + 271)), (1, .int a1), (2, .int a2)]) hx hb dX12_knownWith_19 rfl hl (by decide) rfl (fun ls hl => ?_)
  refine lv_iload_n hx hb dX12_knownWith_20 rfl (lv_at hl 3 rfl) ?_
  refine lv_if_eq (tgt := 28) hx hb dX12_knownWith_21 (by decide) (fun hc_22 => ?_) (fun hc_22 => ?_)
  · have hf := (if_pos hc_22).symm.trans hf
    refine lv_iload_n hx hb dX12_knownWith_28 rfl (lv_at hl 0 rfl) ?_
    refine lv_iload_n hx hb dX12_knownWith_29 rfl (lv_at hl 2 rfl) ?_
    refine lv_iconst (v := -1) hx hb dX12_knownWith_30 (by decide) ?_
    refine lv_ixor hx hb dX12_knownWith_31 ?_
    refine lv_iand hx hb dX12_knownWith_32 ?_
    exact P33 (x3_21 &&& (a1 ^^^ (-1 : Int32))) w_18 H locs ls hf hH (lv_sub hl [] rfl)
  · have hf := (if_neg hc_22).symm.trans hf
    refine lv_iload_n hx hb dX12_knownWith_24 rfl (lv_at hl 0 rfl) ?_
    refine lv_goto (tgt := 33) hx hb dX12_knownWith_25 (by decide) ?_
    exact P33 x3_21 w_18 H locs ls hf hH (lv_sub hl [] rfl)

def f_X12_blame_16 (a1 : Int32) (w : am_S) : Option (Int32 × am_S) :=
  some ((-1 : Int32), w)
def f_X12_blame_70 (a1 : Int32) (x3 : Int32) (s0 : Int32) (s1 : Int32) (w : am_S) : Option ((Int32 × am_S) ⊕ (Int32 × Int32 × am_S)) :=
  am_v (s1 ||| s0) fun (x2_26 : Int32) => am_v (x3 + (1 : Int32)) fun (x3_27 : Int32) => some (.inr (x2_26, x3_27, w))
def f_X12_blame_69 (a1 : Int32) (x3 : Int32) (s0 : Int32) (w : am_S) : Option ((Int32 × am_S) ⊕ (Int32 × Int32 × am_S)) :=
  f_X12_blame_70 a1 x3 (0 : Int32) s0 w
def f_X12_blame_26b (a1 : Int32) (x2 : Int32) (x3 : Int32) (w : am_S) : Option ((Int32 × am_S) ⊕ (Int32 × Int32 × am_S)) :=
  if (w.1 271 13) ≤ x3 then (am_x (some (x2, w))) else (if x3 = a1 then (f_X12_blame_69 a1 x3 x2 w) else (am_b2 (f_X12_isUnknown x3 w) fun r_33 w_31 => if r_33 = 0 then (f_X12_blame_69 a1 x3 x2 w_31) else (am_b2 (f_X12_knownWith ((1 : Int32) <<< (x3 &&& 31)) (1 : Int32) w_31) fun r_37 w_35 => am_b2 (f_X12_has r_37 a1 w_35) fun r_40 w_38 => if r_40 = 0 then (f_X12_blame_69 a1 x3 x2 w_38) else (f_X12_blame_70 a1 x3 ((1 : Int32) <<< (x3 &&& 31)) x2 w_38))))
def f_X12_blame_26 (a1 : Int32) (x2 : Int32) (x3 : Int32) (w : am_S) : Option (Int32 × am_S) :=
  am_loop (fun (st : (Int32 × Int32 × am_S)) => f_X12_blame_26b a1 st.1 st.2.1 st.2.2) am_fuel (x2, x3, w)
def f_X12_blame (a1 : Int32) (w : am_S) : Option (Int32 × am_S) :=
  am_b2 (f_X12_isUser a1 w) fun r_44 w_42 => if r_44 = 0 then (f_X12_blame_16 a1 w_42) else (am_b2 (f_X12_isUnknown a1 w_42) fun r_48 w_46 => if r_48 = 0 then (f_X12_blame_16 a1 w_46) else (am_b1 (f_X12_layOccupied w_46) fun w_50 => f_X12_blame_26 a1 (0 : Int32) (0 : Int32) w_50))
set_option maxRecDepth 100000 in
set_option maxHeartbeats 4000000 in
theorem k_X12_blame {G : am_G} {l : Launch} {a1 : Int32}  {w : am_S} {rr : Int32} {ww : am_S} (hf : f_X12_blame a1 w = some (rr, ww)) : am_Mi G l yX12_blame (Cond.code yX12_blame cX12_blame 4 (some .int) :: am_T) { frames := 4, cells := 0, slots := 0, locals := 256 } [.ref (G.1 + 271), .int a1] w rr ww := by
  refine Met.ofW (cc := cX12_blame) (maxL := 4) (ret := (some .int)) (by decide) rfl ?_
  intro p e s m args below meth c s₁ B hml hv
  obtain ⟨rfl, hx, hb, hr, hts, hown, hlocks, hK, hE, hH⟩ := am_begin B hv
  have hown : s.vm.findClass RX12 = some m.cls := hown
  show W p l e { frames := 4, cells := 0, slots := 0, locals := 256 } s m _ below meth c s.heap [] 0 0 _ _
  have P16 : ∀ (w : am_S) (H : Heap) (locs : List Loc) (ls : Array Slot), f_X12_blame_16 a1 w = some (rr, ww) → am_H G w s H locs → lv_has ls 4 [] → W p l e { frames := 4, cells := 0, slots := 0, locals := 256 } s m [.ref (G.1 + 271), .int a1].toArray below meth c H locs 0 0 (MQ below (va_Qi (fun (x : Int32) (u : am_S) => x = rr ∧ u = ww) (am_U G) (am_A G)) [.ref (G.1 + 271), .int a1].toArray s 0 0 (am_A G)) (F0 m 16 ls []) := by
    intro w H locs ls hf hH hl
    unfold f_X12_blame_16 at hf
    refine lv_iconst (v := -1) hx hb dX12_blame_16 (by decide) ?_
    exact am_reti hx hb hr hlocks hH hf dX12_blame_17
  have P26 : ∀ (n1 : Nat) (x2 : Int32) (x3 : Int32) (w : am_S) (H : Heap) (locs : List Loc) (ls : Array Slot), am_loop (fun (st : (Int32 × Int32 × am_S)) => f_X12_blame_26b a1 st.1 st.2.1 st.2.2) n1 (x2, x3, w) = some (rr, ww) → am_H G w s H locs → lv_has ls 4 [(0, .ref (G.1 + 271)), (1, .int a1), (2, .int x2), (3, .int x3)] → W p l e { frames := 4, cells := 0, slots := 0, locals := 256 } s m [.ref (G.1 + 271), .int a1].toArray below meth c H locs 0 0 (MQ below (va_Qi (fun (x : Int32) (u : am_S) => x = rr ∧ u = ww) (am_U G) (am_A G)) [.ref (G.1 + 271), .int a1].toArray s 0 0 (am_A G)) (F0 m 26 ls []) := by
    intro n1
    induction n1 with
    | zero =>
      intro x2 x3 w H locs ls hf hH hl
      exact (am_loop_zero hf).elim
    | succ n1 ih1 =>
      intro x2 x3 w H locs ls hf hH hl
      obtain ⟨z1, hf, hk1⟩ := am_loop_succ hf
      have hf : f_X12_blame_26b a1 x2 x3 w = some z1 := hf
      have P70 : ∀ (x3 : Int32) (s0 : Int32) (s1 : Int32) (w : am_S) (z1 : ((Int32 × am_S) ⊕ (Int32 × Int32 × am_S))) (H : Heap) (locs : List Loc) (ls : Array Slot), f_X12_blame_70 a1 x3 s0 s1 w = some z1 → am_lk (fun (st : (Int32 × Int32 × am_S)) => f_X12_blame_26b a1 st.1 st.2.1 st.2.2) n1 (rr, ww) z1 → am_H G w s H locs → lv_has ls 4 [(0, .ref (G.1 + 271)), (1, .int a1), (3, .int x3)] → W p l e { frames := 4, cells := 0, slots := 0, locals := 256 } s m [.ref (G.1 + 271), .int a1].toArray below meth c H locs 0 0 (MQ below (va_Qi (fun (x : Int32) (u : am_S) => x = rr ∧ u = ww) (am_U G) (am_A G)) [.ref (G.1 + 271), .int a1].toArray s 0 0 (am_A G)) (F0 m 70 ls [.int s0, .int s1]) := by
        intro x3 s0 s1 w z1 H locs ls hf hk1 hH hl
        unfold f_X12_blame_70 at hf
        refine lv_ior hx hb dX12_blame_70 ?_
        obtain ⟨x2_26, hx2_26, hf⟩ := am_v_some hf
        refine am_topi hx2_26 ?_
        refine lv_istore_n (lv' := [(2, .int x2_26), (0, .ref (G.1 + 271)), (1, .int a1), (3, .int x3)]) hx hb dX12_blame_71 rfl hl (by decide) rfl (fun ls hl => ?_)
        obtain ⟨x3_27, hx3_27, hf⟩ := am_v_some hf
        refine lv_iinc (v := x3_27) (lv' := [(3, .int x3_27), (2, .int x2_26), (0, .ref (G.1 + 271)), (1, .int a1)]) hx hb dX12_blame_72 hl (k := 3) rfl (by rw [hx3_27]; rfl) (by decide) rfl (fun ls hl => ?_)
        refine lv_goto (tgt := 26) hx hb dX12_blame_75 (by decide) ?_
        obtain rfl := Option.some.inj hf
        exact ih1 x2_26 x3_27 w H locs ls hk1 hH (lv_sub hl [2, 3, 1, 0] rfl)
      have P69 : ∀ (x3 : Int32) (s0 : Int32) (w : am_S) (z1 : ((Int32 × am_S) ⊕ (Int32 × Int32 × am_S))) (H : Heap) (locs : List Loc) (ls : Array Slot), f_X12_blame_69 a1 x3 s0 w = some z1 → am_lk (fun (st : (Int32 × Int32 × am_S)) => f_X12_blame_26b a1 st.1 st.2.1 st.2.2) n1 (rr, ww) z1 → am_H G w s H locs → lv_has ls 4 [(0, .ref (G.1 + 271)), (1, .int a1), (3, .int x3)] → W p l e { frames := 4, cells := 0, slots := 0, locals := 256 } s m [.ref (G.1 + 271), .int a1].toArray below meth c H locs 0 0 (MQ below (va_Qi (fun (x : Int32) (u : am_S) => x = rr ∧ u = ww) (am_U G) (am_A G)) [.ref (G.1 + 271), .int a1].toArray s 0 0 (am_A G)) (F0 m 69 ls [.int s0]) := by
        intro x3 s0 w z1 H locs ls hf hk1 hH hl
        unfold f_X12_blame_69 at hf
        refine lv_iconst (v := 0) hx hb dX12_blame_69 (by decide) ?_
        exact P70 x3 (0 : Int32) s0 w z1 H locs ls hf hk1 hH (lv_sub hl [0, 1, 2] rfl)
      unfold f_X12_blame_26b at hf
      refine lv_iload_n hx hb dX12_blame_26 rfl (lv_at hl 3 rfl) ?_
      refine lv_aload_n hx hb dX12_blame_27 rfl (lv_at hl 0 rfl) ?_
      refine am_get hx hb hts hK hown hH (am_o12 (p := 271) (by decide +kernel)) rfl am_inX12 13 (by decide) am_q1332 (v := .int (w.1 271 13)) rfl dX12_blame_28 ?_
      refine lv_icmp_ge (tgt := 78) hx hb dX12_blame_31 (by decide) (fun hc_28 => ?_) (fun hc_28 => ?_)
      · have hf := (if_pos hc_28).symm.trans hf
        obtain ⟨y_29, hf, hzy_29⟩ := am_x_some hf
        rw [hzy_29] at hk1
        have hf := hf.trans (congrArg some (show y_29 = (rr, ww) from hk1))
        refine lv_iload_n hx hb dX12_blame_78 rfl (lv_at hl 2 rfl) ?_
        exact am_reti hx hb hr hlocks hH hf dX12_blame_79
      · have hf := (if_neg hc_28).symm.trans hf
        refine lv_iload_n hx hb dX12_blame_34 rfl (lv_at hl 2 rfl) ?_
        refine lv_iload_n hx hb dX12_blame_35 rfl (lv_at hl 3 rfl) ?_
        refine lv_iload_n hx hb dX12_blame_36 rfl (lv_at hl 1 rfl) ?_
        refine lv_icmp_eq (tgt := 69) hx hb dX12_blame_37 (by decide) (fun hc_30 => ?_) (fun hc_30 => ?_)
        · have hf := (if_pos hc_30).symm.trans hf
          exact P69 x3 x2 w z1 H locs ls hf hk1 hH (lv_sub hl [0, 1, 3] rfl)
        · have hf := (if_neg hc_30).symm.trans hf
          refine lv_aload_n hx hb dX12_blame_40 rfl (lv_at hl 0 rfl) ?_
          refine lv_iload_n hx hb dX12_blame_41 rfl (lv_at hl 3 rfl) ?_
          obtain ⟨r_33, w_31, hq_32, hf⟩ := am_b2_some hf
          refine am_calli (r := r_33) (w' := w_31) (am_runV (n := 1) (As := [.int x3]) (rest := [.int x2]) ⟨hx, hb, hml, hown, hts⟩ hK hE hH (k_X12_isUnknown hq_32) (am_gV am_q1534 am_q1536 am_qs64 am_q13 am_q1537) (am_o12 (p := 271) (by decide +kernel)) rfl ⟨rfl, rfl⟩ (by decide +kernel) ⟨Nat.le_of_ble_eq_true rfl, Nat.le_of_ble_eq_true rfl⟩ rfl hl.1 rfl (Nat.le_of_ble_eq_true rfl) ⟨Nat.zero_le _, Nat.zero_le _⟩ dX12_blame_42) hH (fun H locs hH => ?_)
          refine lv_if_eq (tgt := 69) hx hb dX12_blame_45 (by decide) (fun hc_34 => ?_) (fun hc_34 => ?_)
          · have hf := (if_pos hc_34).symm.trans hf
            exact P69 x3 x2 w_31 z1 H locs ls hf hk1 hH (lv_sub hl [0, 1, 3] rfl)
          · have hf := (if_neg hc_34).symm.trans hf
            refine lv_aload_n hx hb dX12_blame_48 rfl (lv_at hl 0 rfl) ?_
            refine lv_iconst (v := 1) hx hb dX12_blame_49 (by decide) ?_
            refine lv_iload_n hx hb dX12_blame_50 rfl (lv_at hl 3 rfl) ?_
            refine lv_ishl hx hb dX12_blame_51 ?_
            refine lv_iconst (v := 1) hx hb dX12_blame_52 (by decide) ?_
            obtain ⟨r_37, w_35, hq_36, hf⟩ := am_b2_some hf
            refine am_calli (r := r_37) (w' := w_35) (am_runV (n := 2) (As := [.int ((1 : Int32) <<< (x3 &&& 31)), .int (1 : Int32)]) (rest := [.int x2]) ⟨hx, hb, hml, hown, hts⟩ hK hE hH (k_X12_knownWith hq_36) (am_gV am_q1846 am_q1848 am_qs108 am_q13 am_q1849) (am_o12 (p := 271) (by decide +kernel)) rfl ⟨rfl, rfl⟩ (by decide +kernel) ⟨Nat.le_of_ble_eq_true rfl, Nat.le_of_ble_eq_true rfl⟩ rfl hl.1 rfl (Nat.le_of_ble_eq_true rfl) ⟨Nat.zero_le _, Nat.zero_le _⟩ dX12_blame_53) hH (fun H locs hH => ?_)
            refine lv_iload_n hx hb dX12_blame_56 rfl (lv_at hl 1 rfl) ?_
            obtain ⟨r_40, w_38, hq_39, hf⟩ := am_b2_some hf
            refine am_calli (r := r_40) (w' := w_38) (am_runS (n := 2) (As := [.int r_37, .int a1]) (rest := [.int x2]) ⟨hx, hb, hml, hown, hts⟩ hK hE hH (k_X12_has hq_39) (am_gS am_q1454 am_q1455 am_q13 am_q1456) ⟨rfl, rfl⟩ (by decide +kernel) ⟨Nat.le_of_ble_eq_true rfl, Nat.le_of_ble_eq_true rfl⟩ rfl hl.1 rfl (Nat.le_of_ble_eq_true rfl) ⟨Nat.zero_le _, Nat.zero_le _⟩ dX12_blame_57) hH (fun H locs hH => ?_)
            refine lv_if_eq (tgt := 69) hx hb dX12_blame_60 (by decide) (fun hc_41 => ?_) (fun hc_41 => ?_)
            · have hf := (if_pos hc_41).symm.trans hf
              exact P69 x3 x2 w_38 z1 H locs ls hf hk1 hH (lv_sub hl [0, 1, 3] rfl)
            · have hf := (if_neg hc_41).symm.trans hf
              refine lv_iconst (v := 1) hx hb dX12_blame_63 (by decide) ?_
              refine lv_iload_n hx hb dX12_blame_64 rfl (lv_at hl 3 rfl) ?_
              refine lv_ishl hx hb dX12_blame_65 ?_
              refine lv_goto (tgt := 70) hx hb dX12_blame_66 (by decide) ?_
              exact P70 x3 ((1 : Int32) <<< (x3 &&& 31)) x2 w_38 z1 H locs ls hf hk1 hH (lv_sub hl [0, 1, 3] rfl)
  refine am_enter (lv := [(0, .ref (G.1 + 271)), (1, .int a1)]) (Nat.le_of_ble_eq_true rfl) rfl (fun ls hl => ?_)
  unfold f_X12_blame at hf
  refine am_start hH (fun H locs hH => ?_)
  refine lv_aload_n hx hb dX12_blame_0 rfl (lv_at hl 0 rfl) ?_
  refine lv_iload_n hx hb dX12_blame_1 rfl (lv_at hl 1 rfl) ?_
  obtain ⟨r_44, w_42, hq_43, hf⟩ := am_b2_some hf
  refine am_calli (r := r_44) (w' := w_42) (am_runV (n := 1) (As := [.int a1]) (rest := []) ⟨hx, hb, hml, hown, hts⟩ hK hE hH (k_X12_isUser hq_43) (am_gV am_q1554 am_q1556 am_qs69 am_q13 am_q1557) (am_o12 (p := 271) (by decide +kernel)) rfl ⟨rfl, rfl⟩ (by decide +kernel) ⟨Nat.le_of_ble_eq_true rfl, Nat.le_of_ble_eq_true rfl⟩ rfl hl.1 rfl (Nat.le_of_ble_eq_true rfl) ⟨Nat.zero_le _, Nat.zero_le _⟩ dX12_blame_2) hH (fun H locs hH => ?_)
  refine lv_if_eq (tgt := 16) hx hb dX12_blame_5 (by decide) (fun hc_45 => ?_) (fun hc_45 => ?_)
  · have hf := (if_pos hc_45).symm.trans hf
    exact P16 w_42 H locs ls hf hH (lv_sub hl [] rfl)
  · have hf := (if_neg hc_45).symm.trans hf
    refine lv_aload_n hx hb dX12_blame_8 rfl (lv_at hl 0 rfl) ?_
    refine lv_iload_n hx hb dX12_blame_9 rfl (lv_at hl 1 rfl) ?_
    obtain ⟨r_48, w_46, hq_47, hf⟩ := am_b2_some hf
    refine am_calli (r := r_48) (w' := w_46) (am_runV (n := 1) (As := [.int a1]) (rest := []) ⟨hx, hb, hml, hown, hts⟩ hK hE hH (k_X12_isUnknown hq_47) (am_gV am_q1534 am_q1536 am_qs64 am_q13 am_q1537) (am_o12 (p := 271) (by decide +kernel)) rfl ⟨rfl, rfl⟩ (by decide +kernel) ⟨Nat.le_of_ble_eq_true rfl, Nat.le_of_ble_eq_true rfl⟩ rfl hl.1 rfl (Nat.le_of_ble_eq_true rfl) ⟨Nat.zero_le _, Nat.zero_le _⟩ dX12_blame_10) hH (fun H locs hH => ?_)
    refine lv_if_ne (tgt := 18) hx hb dX12_blame_13 (by decide) (fun hc_49 => ?_) (fun hc_49 => ?_)
    · have hf := (if_neg hc_49).symm.trans hf
      refine lv_aload_n hx hb dX12_blame_18 rfl (lv_at hl 0 rfl) ?_
      obtain ⟨w_50, hq_51, hf⟩ := am_b1_some hf
      refine am_callv (w' := w_50) (am_runV (n := 0) (As := []) (rest := []) ⟨hx, hb, hml, hown, hts⟩ hK hE hH (k_X12_layOccupied hq_51) (am_gV am_q1794 am_q1796 am_qs101 am_q13 am_q1797) (am_o12 (p := 271) (by decide +kernel)) rfl ⟨rfl, rfl⟩ (by decide +kernel) ⟨Nat.le_of_ble_eq_true rfl, Nat.le_of_ble_eq_true rfl⟩ rfl hl.1 rfl (Nat.le_of_ble_eq_true rfl) ⟨Nat.zero_le _, Nat.zero_le _⟩ dX12_blame_19) hH (fun H locs hH => ?_)
      refine lv_iconst (v := 0) hx hb dX12_blame_22 (by decide) ?_
      refine lv_istore_n (lv' := [(2, .int (0 : Int32)), (0, .ref (G.1 + 271)), (1, .int a1)]) hx hb dX12_blame_23 rfl hl (by decide) rfl (fun ls hl => ?_)
      refine lv_iconst (v := 0) hx hb dX12_blame_24 (by decide) ?_
      refine lv_istore_n (lv' := [(3, .int (0 : Int32)), (2, .int (0 : Int32)), (0, .ref (G.1 + 271)), (1, .int a1)]) hx hb dX12_blame_25 rfl hl (by decide) rfl (fun ls hl => ?_)
      exact P26 am_fuel (0 : Int32) (0 : Int32) w_50 H locs ls hf hH (lv_sub hl [2, 3, 1, 0] rfl)
    · have hf := (if_pos hc_49).symm.trans hf
      exact P16 w_46 H locs ls hf hH (lv_sub hl [] rfl)

def f_X12_shelfAt (a1 : Int32) (w : am_S) : Option (Int32 × am_S) :=
  some ((31 : Int32) + ((11 : Int32) * a1), w)
set_option maxRecDepth 100000 in
set_option maxHeartbeats 4000000 in
theorem k_X12_shelfAt {G : am_G} {l : Launch} {a1 : Int32}  {w : am_S} {rr : Int32} {ww : am_S} (hf : f_X12_shelfAt a1 w = some (rr, ww)) : am_Mi G l yX12_shelfAt (Cond.code yX12_shelfAt cX12_shelfAt 2 (some .int) :: am_T) { frames := 0, cells := 0, slots := 0, locals := 0 } [.ref (G.1 + 271), .int a1] w rr ww := by
  refine Met.ofW (cc := cX12_shelfAt) (maxL := 2) (ret := (some .int)) (by decide) rfl ?_
  intro p e s m args below meth c s₁ B hml hv
  obtain ⟨rfl, hx, hb, hr, hts, hown, hlocks, hK, hE, hH⟩ := am_begin B hv
  have hown : s.vm.findClass RX12 = some m.cls := hown
  show W p l e { frames := 0, cells := 0, slots := 0, locals := 0 } s m _ below meth c s.heap [] 0 0 _ _
  refine am_enter (lv := [(0, .ref (G.1 + 271)), (1, .int a1)]) (Nat.le_of_ble_eq_true rfl) rfl (fun ls hl => ?_)
  unfold f_X12_shelfAt at hf
  refine am_start hH (fun H locs hH => ?_)
  refine lv_bipush (v := 31) hx hb dX12_shelfAt_0 (by decide) ?_
  refine lv_bipush (v := 11) hx hb dX12_shelfAt_2 (by decide) ?_
  refine lv_iload_n hx hb dX12_shelfAt_4 rfl (lv_at hl 1 rfl) ?_
  refine lv_imul hx hb dX12_shelfAt_5 ?_
  refine lv_iadd hx hb dX12_shelfAt_6 ?_
  exact am_reti hx hb hr hlocks hH hf dX12_shelfAt_7

def f_X12_whyNotFiled_24 (a1 : Int32) (a2 : Int32) (w : am_S) : Option (Int32 × am_S) :=
  some ((0 : Int32), w)
def f_X12_whyNotFiled_72 (a1 : Int32) (a2 : Int32) (s0 : Int32) (w : am_S) : Option (Int32 × am_S) :=
  some (s0, w)
def f_X12_whyNotFiled_67 (a1 : Int32) (a2 : Int32) (w : am_S) : Option (Int32 × am_S) :=
  f_X12_whyNotFiled_72 a1 a2 (3 : Int32) w
def f_X12_whyNotFiled (a1 : Int32) (a2 : Int32) (w : am_S) : Option (Int32 × am_S) :=
  am_b2 (f_X12_isField w) fun r_26 w_24 => if r_26 = 0 then (f_X12_whyNotFiled_24 a1 a2 w_24) else (am_b2 (f_X12_in a1 (0 : Int32) (2 : Int32) w_24) fun r_30 w_28 => if r_30 = 0 then (f_X12_whyNotFiled_24 a1 a2 w_28) else (am_b2 (f_X12_isUser a2 w_28) fun r_34 w_32 => if r_34 = 0 then (f_X12_whyNotFiled_24 a1 a2 w_32) else (am_b2 (f_X12_isUnknown a2 w_32) fun r_38 w_36 => if r_38 = 0 then (am_chk ((0 : Int32) + a2) 245 (if (w_36.1 281 ((0 : Int32) + a2).toNatClampNeg) = (a1 + (1 : Int32)) then (am_b2 (f_X12_shelfAt a1 w_36) fun r_44 w_42 => am_chk r_44 245 (if (w_42.1 281 r_44.toNatClampNeg) = (10 : Int32) then (f_X12_whyNotFiled_67 a1 a2 w_42) else (f_X12_whyNotFiled_72 a1 a2 (-1 : Int32) w_42))) else (f_X12_whyNotFiled_67 a1 a2 w_36))) else (f_X12_whyNotFiled_72 a1 a2 (2 : Int32) w_36))))
set_option maxRecDepth 100000 in
set_option maxHeartbeats 4000000 in
theorem k_X12_whyNotFiled {G : am_G} {l : Launch} {a1 : Int32} {a2 : Int32}  {w : am_S} {rr : Int32} {ww : am_S} (hf : f_X12_whyNotFiled a1 a2 w = some (rr, ww)) : am_Mi G l yX12_whyNotFiled (Cond.code yX12_whyNotFiled cX12_whyNotFiled 3 (some .int) :: am_T) { frames := 2, cells := 0, slots := 0, locals := 128 } [.ref (G.1 + 271), .int a1, .int a2] w rr ww := by
  refine Met.ofW (cc := cX12_whyNotFiled) (maxL := 3) (ret := (some .int)) (by decide) rfl ?_
  intro p e s m args below meth c s₁ B hml hv
  obtain ⟨rfl, hx, hb, hr, hts, hown, hlocks, hK, hE, hH⟩ := am_begin B hv
  have hown : s.vm.findClass RX12 = some m.cls := hown
  show W p l e { frames := 2, cells := 0, slots := 0, locals := 128 } s m _ below meth c s.heap [] 0 0 _ _
  have P24 : ∀ (w : am_S) (H : Heap) (locs : List Loc) (ls : Array Slot), f_X12_whyNotFiled_24 a1 a2 w = some (rr, ww) → am_H G w s H locs → lv_has ls 3 [] → W p l e { frames := 2, cells := 0, slots := 0, locals := 128 } s m [.ref (G.1 + 271), .int a1, .int a2].toArray below meth c H locs 0 0 (MQ below (va_Qi (fun (x : Int32) (u : am_S) => x = rr ∧ u = ww) (am_U G) (am_A G)) [.ref (G.1 + 271), .int a1, .int a2].toArray s 0 0 (am_A G)) (F0 m 24 ls []) := by
    intro w H locs ls hf hH hl
    unfold f_X12_whyNotFiled_24 at hf
    refine lv_iconst (v := 0) hx hb dX12_whyNotFiled_24 (by decide) ?_
    exact am_reti hx hb hr hlocks hH hf dX12_whyNotFiled_25
  have P72 : ∀ (s0 : Int32) (w : am_S) (H : Heap) (locs : List Loc) (ls : Array Slot), f_X12_whyNotFiled_72 a1 a2 s0 w = some (rr, ww) → am_H G w s H locs → lv_has ls 3 [] → W p l e { frames := 2, cells := 0, slots := 0, locals := 128 } s m [.ref (G.1 + 271), .int a1, .int a2].toArray below meth c H locs 0 0 (MQ below (va_Qi (fun (x : Int32) (u : am_S) => x = rr ∧ u = ww) (am_U G) (am_A G)) [.ref (G.1 + 271), .int a1, .int a2].toArray s 0 0 (am_A G)) (F0 m 72 ls [.int s0]) := by
    intro s0 w H locs ls hf hH hl
    unfold f_X12_whyNotFiled_72 at hf
    exact am_reti hx hb hr hlocks hH hf dX12_whyNotFiled_72
  have P67 : ∀ (w : am_S) (H : Heap) (locs : List Loc) (ls : Array Slot), f_X12_whyNotFiled_67 a1 a2 w = some (rr, ww) → am_H G w s H locs → lv_has ls 3 [] → W p l e { frames := 2, cells := 0, slots := 0, locals := 128 } s m [.ref (G.1 + 271), .int a1, .int a2].toArray below meth c H locs 0 0 (MQ below (va_Qi (fun (x : Int32) (u : am_S) => x = rr ∧ u = ww) (am_U G) (am_A G)) [.ref (G.1 + 271), .int a1, .int a2].toArray s 0 0 (am_A G)) (F0 m 67 ls []) := by
    intro w H locs ls hf hH hl
    unfold f_X12_whyNotFiled_67 at hf
    refine lv_iconst (v := 3) hx hb dX12_whyNotFiled_67 (by decide) ?_
    refine lv_goto (tgt := 72) hx hb dX12_whyNotFiled_68 (by decide) ?_
    exact P72 (3 : Int32) w H locs ls hf hH (lv_sub hl [] rfl)
  refine am_enter (lv := [(0, .ref (G.1 + 271)), (1, .int a1), (2, .int a2)]) (Nat.le_of_ble_eq_true rfl) rfl (fun ls hl => ?_)
  unfold f_X12_whyNotFiled at hf
  refine am_start hH (fun H locs hH => ?_)
  refine lv_aload_n hx hb dX12_whyNotFiled_0 rfl (lv_at hl 0 rfl) ?_
  obtain ⟨r_26, w_24, hq_25, hf⟩ := am_b2_some hf
  refine am_calli (r := r_26) (w' := w_24) (am_runV (n := 0) (As := []) (rest := []) ⟨hx, hb, hml, hown, hts⟩ hK hE hH (k_X12_isField hq_25) (am_gV am_q1514 am_q1516 am_qs59 am_q13 am_q1517) (am_o12 (p := 271) (by decide +kernel)) rfl ⟨rfl, rfl⟩ (by decide +kernel) ⟨Nat.le_of_ble_eq_true rfl, Nat.le_of_ble_eq_true rfl⟩ rfl hl.1 rfl (Nat.le_of_ble_eq_true rfl) ⟨Nat.zero_le _, Nat.zero_le _⟩ dX12_whyNotFiled_1) hH (fun H locs hH => ?_)
  refine lv_if_eq (tgt := 24) hx hb dX12_whyNotFiled_4 (by decide) (fun hc_27 => ?_) (fun hc_27 => ?_)
  · have hf := (if_pos hc_27).symm.trans hf
    exact P24 w_24 H locs ls hf hH (lv_sub hl [] rfl)
  · have hf := (if_neg hc_27).symm.trans hf
    refine lv_iload_n hx hb dX12_whyNotFiled_7 rfl (lv_at hl 1 rfl) ?_
    refine lv_iconst (v := 0) hx hb dX12_whyNotFiled_8 (by decide) ?_
    refine lv_iconst (v := 2) hx hb dX12_whyNotFiled_9 (by decide) ?_
    obtain ⟨r_30, w_28, hq_29, hf⟩ := am_b2_some hf
    refine am_calli (r := r_30) (w' := w_28) (am_runS (n := 3) (As := [.int a1, .int (0 : Int32), .int (2 : Int32)]) (rest := []) ⟨hx, hb, hml, hown, hts⟩ hK hE hH (k_X12_in hq_29) (am_gS am_q1425 am_q1426 am_q13 am_q1427) ⟨rfl, rfl⟩ (by decide +kernel) ⟨Nat.le_of_ble_eq_true rfl, Nat.le_of_ble_eq_true rfl⟩ rfl hl.1 rfl (Nat.le_of_ble_eq_true rfl) ⟨Nat.zero_le _, Nat.zero_le _⟩ dX12_whyNotFiled_10) hH (fun H locs hH => ?_)
    refine lv_if_eq (tgt := 24) hx hb dX12_whyNotFiled_13 (by decide) (fun hc_31 => ?_) (fun hc_31 => ?_)
    · have hf := (if_pos hc_31).symm.trans hf
      exact P24 w_28 H locs ls hf hH (lv_sub hl [] rfl)
    · have hf := (if_neg hc_31).symm.trans hf
      refine lv_aload_n hx hb dX12_whyNotFiled_16 rfl (lv_at hl 0 rfl) ?_
      refine lv_iload_n hx hb dX12_whyNotFiled_17 rfl (lv_at hl 2 rfl) ?_
      obtain ⟨r_34, w_32, hq_33, hf⟩ := am_b2_some hf
      refine am_calli (r := r_34) (w' := w_32) (am_runV (n := 1) (As := [.int a2]) (rest := []) ⟨hx, hb, hml, hown, hts⟩ hK hE hH (k_X12_isUser hq_33) (am_gV am_q1554 am_q1556 am_qs69 am_q13 am_q1557) (am_o12 (p := 271) (by decide +kernel)) rfl ⟨rfl, rfl⟩ (by decide +kernel) ⟨Nat.le_of_ble_eq_true rfl, Nat.le_of_ble_eq_true rfl⟩ rfl hl.1 rfl (Nat.le_of_ble_eq_true rfl) ⟨Nat.zero_le _, Nat.zero_le _⟩ dX12_whyNotFiled_18) hH (fun H locs hH => ?_)
      refine lv_if_ne (tgt := 26) hx hb dX12_whyNotFiled_21 (by decide) (fun hc_35 => ?_) (fun hc_35 => ?_)
      · have hf := (if_neg hc_35).symm.trans hf
        refine lv_aload_n hx hb dX12_whyNotFiled_26 rfl (lv_at hl 0 rfl) ?_
        refine lv_iload_n hx hb dX12_whyNotFiled_27 rfl (lv_at hl 2 rfl) ?_
        obtain ⟨r_38, w_36, hq_37, hf⟩ := am_b2_some hf
        refine am_calli (r := r_38) (w' := w_36) (am_runV (n := 1) (As := [.int a2]) (rest := []) ⟨hx, hb, hml, hown, hts⟩ hK hE hH (k_X12_isUnknown hq_37) (am_gV am_q1534 am_q1536 am_qs64 am_q13 am_q1537) (am_o12 (p := 271) (by decide +kernel)) rfl ⟨rfl, rfl⟩ (by decide +kernel) ⟨Nat.le_of_ble_eq_true rfl, Nat.le_of_ble_eq_true rfl⟩ rfl hl.1 rfl (Nat.le_of_ble_eq_true rfl) ⟨Nat.zero_le _, Nat.zero_le _⟩ dX12_whyNotFiled_28) hH (fun H locs hH => ?_)
        refine lv_if_eq (tgt := 38) hx hb dX12_whyNotFiled_31 (by decide) (fun hc_39 => ?_) (fun hc_39 => ?_)
        · have hf := (if_pos hc_39).symm.trans hf
          refine lv_aload_n hx hb dX12_whyNotFiled_38 rfl (lv_at hl 0 rfl) ?_
          refine am_get hx hb hts hK hown hH (am_o12 (p := 271) (by decide +kernel)) rfl am_inX12 17 (by decide) am_q1336 (v := .ref (G.1 + 281)) rfl dX12_whyNotFiled_39 ?_
          refine lv_iconst (v := 0) hx hb dX12_whyNotFiled_42 (by decide) ?_
          refine lv_iload_n hx hb dX12_whyNotFiled_43 rfl (lv_at hl 2 rfl) ?_
          refine lv_iadd hx hb dX12_whyNotFiled_44 ?_
          obtain ⟨hi_40, hf⟩ := am_chk_some hf
          refine am_iald hx hb hK hH (am_ai_of (N := 245) (by decide +kernel)) hi_40 dX12_whyNotFiled_45 ?_
          refine lv_iload_n hx hb dX12_whyNotFiled_46 rfl (lv_at hl 1 rfl) ?_
          refine lv_iconst (v := 1) hx hb dX12_whyNotFiled_47 (by decide) ?_
          refine lv_iadd hx hb dX12_whyNotFiled_48 ?_
          refine lv_icmp_ne (tgt := 67) hx hb dX12_whyNotFiled_49 (by decide) (fun hc_41 => ?_) (fun hc_41 => ?_)
          · have hf := (if_neg hc_41).symm.trans hf
            exact P67 w_36 H locs ls hf hH (lv_sub hl [] rfl)
          · have hf := (if_pos hc_41).symm.trans hf
            refine lv_aload_n hx hb dX12_whyNotFiled_52 rfl (lv_at hl 0 rfl) ?_
            refine am_get hx hb hts hK hown hH (am_o12 (p := 271) (by decide +kernel)) rfl am_inX12 17 (by decide) am_q1336 (v := .ref (G.1 + 281)) rfl dX12_whyNotFiled_53 ?_
            refine lv_aload_n hx hb dX12_whyNotFiled_56 rfl (lv_at hl 0 rfl) ?_
            refine lv_iload_n hx hb dX12_whyNotFiled_57 rfl (lv_at hl 1 rfl) ?_
            obtain ⟨r_44, w_42, hq_43, hf⟩ := am_b2_some hf
            refine am_calli (r := r_44) (w' := w_42) (am_runV (n := 1) (As := [.int a1]) (rest := [.ref (G.1 + 281)]) ⟨hx, hb, hml, hown, hts⟩ hK hE hH (k_X12_shelfAt hq_43) (am_gV am_q1582 am_q1584 am_qs76 am_q13 am_q1585) (am_o12 (p := 271) (by decide +kernel)) rfl ⟨rfl, rfl⟩ (by decide +kernel) ⟨Nat.le_of_ble_eq_true rfl, Nat.le_of_ble_eq_true rfl⟩ rfl hl.1 rfl (Nat.le_of_ble_eq_true rfl) ⟨Nat.zero_le _, Nat.zero_le _⟩ dX12_whyNotFiled_58) hH (fun H locs hH => ?_)
            obtain ⟨hi_45, hf⟩ := am_chk_some hf
            refine am_iald hx hb hK hH (am_ai_of (N := 245) (by decide +kernel)) hi_45 dX12_whyNotFiled_61 ?_
            refine lv_bipush (v := 10) hx hb dX12_whyNotFiled_62 (by decide) ?_
            refine lv_icmp_ne (tgt := 71) hx hb dX12_whyNotFiled_64 (by decide) (fun hc_46 => ?_) (fun hc_46 => ?_)
            · have hf := (if_neg hc_46).symm.trans hf
              refine lv_iconst (v := -1) hx hb dX12_whyNotFiled_71 (by decide) ?_
              exact P72 (-1 : Int32) w_42 H locs ls hf hH (lv_sub hl [] rfl)
            · have hf := (if_pos hc_46).symm.trans hf
              exact P67 w_42 H locs ls hf hH (lv_sub hl [] rfl)
        · have hf := (if_neg hc_39).symm.trans hf
          refine lv_iconst (v := 2) hx hb dX12_whyNotFiled_34 (by decide) ?_
          refine lv_goto (tgt := 72) hx hb dX12_whyNotFiled_35 (by decide) ?_
          exact P72 (2 : Int32) w_36 H locs ls hf hH (lv_sub hl [] rfl)
      · have hf := (if_pos hc_35).symm.trans hf
        exact P24 w_32 H locs ls hf hH (lv_sub hl [] rfl)

def f_X12_haveLikeCopies_47 (a1 : Int32) (a2 : Int32) (s0 : Int32) (w : am_S) : Option (Int32 × am_S) :=
  am_nar .boolean s0 (some (s0, w))
def f_X12_haveLikeCopies_46 (a1 : Int32) (a2 : Int32) (w : am_S) : Option (Int32 × am_S) :=
  f_X12_haveLikeCopies_47 a1 a2 (0 : Int32) w
def f_X12_haveLikeCopies (a1 : Int32) (a2 : Int32) (w : am_S) : Option (Int32 × am_S) :=
  am_chk ((10 : Int32) + a1) 245 (am_chk ((10 : Int32) + a2) 245 (if (w.1 281 ((10 : Int32) + a1).toNatClampNeg) = (w.1 281 ((10 : Int32) + a2).toNatClampNeg) then (am_chk ((20 : Int32) + a1) 245 (am_chk ((20 : Int32) + a2) 245 (if (w.1 281 ((20 : Int32) + a1).toNatClampNeg) = (w.1 281 ((20 : Int32) + a2).toNatClampNeg) then (f_X12_haveLikeCopies_47 a1 a2 (1 : Int32) w) else (f_X12_haveLikeCopies_46 a1 a2 w)))) else (f_X12_haveLikeCopies_46 a1 a2 w)))
set_option maxRecDepth 100000 in
set_option maxHeartbeats 4000000 in
theorem k_X12_haveLikeCopies {G : am_G} {l : Launch} {a1 : Int32} {a2 : Int32}  {w : am_S} {rr : Int32} {ww : am_S} (hf : f_X12_haveLikeCopies a1 a2 w = some (rr, ww)) : am_Mi G l yX12_haveLikeCopies (Cond.code yX12_haveLikeCopies cX12_haveLikeCopies 3 (some .boolean) :: am_T) { frames := 0, cells := 0, slots := 0, locals := 0 } [.ref (G.1 + 271), .int a1, .int a2] w rr ww := by
  refine Met.ofW (cc := cX12_haveLikeCopies) (maxL := 3) (ret := (some .boolean)) (by decide) rfl ?_
  intro p e s m args below meth c s₁ B hml hv
  obtain ⟨rfl, hx, hb, hr, hts, hown, hlocks, hK, hE, hH⟩ := am_begin B hv
  have hown : s.vm.findClass RX12 = some m.cls := hown
  show W p l e { frames := 0, cells := 0, slots := 0, locals := 0 } s m _ below meth c s.heap [] 0 0 _ _
  have P47 : ∀ (s0 : Int32) (w : am_S) (H : Heap) (locs : List Loc) (ls : Array Slot), f_X12_haveLikeCopies_47 a1 a2 s0 w = some (rr, ww) → am_H G w s H locs → lv_has ls 3 [] → W p l e { frames := 0, cells := 0, slots := 0, locals := 0 } s m [.ref (G.1 + 271), .int a1, .int a2].toArray below meth c H locs 0 0 (MQ below (va_Qi (fun (x : Int32) (u : am_S) => x = rr ∧ u = ww) (am_U G) (am_A G)) [.ref (G.1 + 271), .int a1, .int a2].toArray s 0 0 (am_A G)) (F0 m 47 ls [.int s0]) := by
    intro s0 w H locs ls hf hH hl
    unfold f_X12_haveLikeCopies_47 at hf
    obtain ⟨hr_7, hf⟩ := am_nar_some hf
    exact am_retz hx hb hr hr_7.1 hlocks hH hf dX12_haveLikeCopies_47
  have P46 : ∀ (w : am_S) (H : Heap) (locs : List Loc) (ls : Array Slot), f_X12_haveLikeCopies_46 a1 a2 w = some (rr, ww) → am_H G w s H locs → lv_has ls 3 [] → W p l e { frames := 0, cells := 0, slots := 0, locals := 0 } s m [.ref (G.1 + 271), .int a1, .int a2].toArray below meth c H locs 0 0 (MQ below (va_Qi (fun (x : Int32) (u : am_S) => x = rr ∧ u = ww) (am_U G) (am_A G)) [.ref (G.1 + 271), .int a1, .int a2].toArray s 0 0 (am_A G)) (F0 m 46 ls []) := by
    intro w H locs ls hf hH hl
    unfold f_X12_haveLikeCopies_46 at hf
    refine lv_iconst (v := 0) hx hb dX12_haveLikeCopies_46 (by decide) ?_
    exact P47 (0 : Int32) w H locs ls hf hH (lv_sub hl [] rfl)
  refine am_enter (lv := [(0, .ref (G.1 + 271)), (1, .int a1), (2, .int a2)]) (Nat.le_of_ble_eq_true rfl) rfl (fun ls hl => ?_)
  unfold f_X12_haveLikeCopies at hf
  refine am_start hH (fun H locs hH => ?_)
  refine lv_aload_n hx hb dX12_haveLikeCopies_0 rfl (lv_at hl 0 rfl) ?_
  refine am_get hx hb hts hK hown hH (am_o12 (p := 271) (by decide +kernel)) rfl am_inX12 17 (by decide) am_q1336 (v := .ref (G.1 + 281)) rfl dX12_haveLikeCopies_1 ?_
  refine lv_bipush (v := 10) hx hb dX12_haveLikeCopies_4 (by decide) ?_
  refine lv_iload_n hx hb dX12_haveLikeCopies_6 rfl (lv_at hl 1 rfl) ?_
  refine lv_iadd hx hb dX12_haveLikeCopies_7 ?_
  obtain ⟨hi_8, hf⟩ := am_chk_some hf
  refine am_iald hx hb hK hH (am_ai_of (N := 245) (by decide +kernel)) hi_8 dX12_haveLikeCopies_8 ?_
  refine lv_aload_n hx hb dX12_haveLikeCopies_9 rfl (lv_at hl 0 rfl) ?_
  refine am_get hx hb hts hK hown hH (am_o12 (p := 271) (by decide +kernel)) rfl am_inX12 17 (by decide) am_q1336 (v := .ref (G.1 + 281)) rfl dX12_haveLikeCopies_10 ?_
  refine lv_bipush (v := 10) hx hb dX12_haveLikeCopies_13 (by decide) ?_
  refine lv_iload_n hx hb dX12_haveLikeCopies_15 rfl (lv_at hl 2 rfl) ?_
  refine lv_iadd hx hb dX12_haveLikeCopies_16 ?_
  obtain ⟨hi_9, hf⟩ := am_chk_some hf
  refine am_iald hx hb hK hH (am_ai_of (N := 245) (by decide +kernel)) hi_9 dX12_haveLikeCopies_17 ?_
  refine lv_icmp_ne (tgt := 46) hx hb dX12_haveLikeCopies_18 (by decide) (fun hc_10 => ?_) (fun hc_10 => ?_)
  · have hf := (if_neg hc_10).symm.trans hf
    exact P46 w H locs ls hf hH (lv_sub hl [] rfl)
  · have hf := (if_pos hc_10).symm.trans hf
    refine lv_aload_n hx hb dX12_haveLikeCopies_21 rfl (lv_at hl 0 rfl) ?_
    refine am_get hx hb hts hK hown hH (am_o12 (p := 271) (by decide +kernel)) rfl am_inX12 17 (by decide) am_q1336 (v := .ref (G.1 + 281)) rfl dX12_haveLikeCopies_22 ?_
    refine lv_bipush (v := 20) hx hb dX12_haveLikeCopies_25 (by decide) ?_
    refine lv_iload_n hx hb dX12_haveLikeCopies_27 rfl (lv_at hl 1 rfl) ?_
    refine lv_iadd hx hb dX12_haveLikeCopies_28 ?_
    obtain ⟨hi_11, hf⟩ := am_chk_some hf
    refine am_iald hx hb hK hH (am_ai_of (N := 245) (by decide +kernel)) hi_11 dX12_haveLikeCopies_29 ?_
    refine lv_aload_n hx hb dX12_haveLikeCopies_30 rfl (lv_at hl 0 rfl) ?_
    refine am_get hx hb hts hK hown hH (am_o12 (p := 271) (by decide +kernel)) rfl am_inX12 17 (by decide) am_q1336 (v := .ref (G.1 + 281)) rfl dX12_haveLikeCopies_31 ?_
    refine lv_bipush (v := 20) hx hb dX12_haveLikeCopies_34 (by decide) ?_
    refine lv_iload_n hx hb dX12_haveLikeCopies_36 rfl (lv_at hl 2 rfl) ?_
    refine lv_iadd hx hb dX12_haveLikeCopies_37 ?_
    obtain ⟨hi_12, hf⟩ := am_chk_some hf
    refine am_iald hx hb hK hH (am_ai_of (N := 245) (by decide +kernel)) hi_12 dX12_haveLikeCopies_38 ?_
    refine lv_icmp_ne (tgt := 46) hx hb dX12_haveLikeCopies_39 (by decide) (fun hc_13 => ?_) (fun hc_13 => ?_)
    · have hf := (if_neg hc_13).symm.trans hf
      exact P46 w H locs ls hf hH (lv_sub hl [] rfl)
    · have hf := (if_pos hc_13).symm.trans hf
      refine lv_iconst (v := 1) hx hb dX12_haveLikeCopies_42 (by decide) ?_
      refine lv_goto (tgt := 47) hx hb dX12_haveLikeCopies_43 (by decide) ?_
      exact P47 (1 : Int32) w H locs ls hf hH (lv_sub hl [] rfl)

def f_X12_whyNotSwapped_16 (a1 : Int32) (a2 : Int32) (w : am_S) : Option (Int32 × am_S) :=
  some ((0 : Int32), w)
def f_X12_whyNotSwapped_59 (a1 : Int32) (a2 : Int32) (s0 : Int32) (w : am_S) : Option (Int32 × am_S) :=
  some (s0, w)
def f_X12_whyNotSwapped (a1 : Int32) (a2 : Int32) (w : am_S) : Option (Int32 × am_S) :=
  am_b2 (f_X12_isUser a1 w) fun r_18 w_16 => if r_18 = 0 then (f_X12_whyNotSwapped_16 a1 a2 w_16) else (am_b2 (f_X12_isUser a2 w_16) fun r_22 w_20 => if r_22 = 0 then (f_X12_whyNotSwapped_16 a1 a2 w_20) else (am_chk (((5 : Int32) * a1) + (2 : Int32)) 50 (am_chk (((5 : Int32) * a2) + (2 : Int32)) 50 (if (w_20.1 277 (((5 : Int32) * a1) + (2 : Int32)).toNatClampNeg) = (w_20.1 277 (((5 : Int32) * a2) + (2 : Int32)).toNatClampNeg) then (am_b2 (f_X12_haveLikeCopies a1 a2 w_20) fun r_29 w_27 => if r_29 = 0 then (f_X12_whyNotSwapped_59 a1 a2 (-1 : Int32) w_27) else (f_X12_whyNotSwapped_59 a1 a2 (2 : Int32) w_27)) else (f_X12_whyNotSwapped_59 a1 a2 (1 : Int32) w_20)))))
set_option maxRecDepth 100000 in
set_option maxHeartbeats 4000000 in
theorem k_X12_whyNotSwapped {G : am_G} {l : Launch} {a1 : Int32} {a2 : Int32}  {w : am_S} {rr : Int32} {ww : am_S} (hf : f_X12_whyNotSwapped a1 a2 w = some (rr, ww)) : am_Mi G l yX12_whyNotSwapped (Cond.code yX12_whyNotSwapped cX12_whyNotSwapped 3 (some .int) :: am_T) { frames := 2, cells := 0, slots := 0, locals := 128 } [.ref (G.1 + 271), .int a1, .int a2] w rr ww := by
  refine Met.ofW (cc := cX12_whyNotSwapped) (maxL := 3) (ret := (some .int)) (by decide) rfl ?_
  intro p e s m args below meth c s₁ B hml hv
  obtain ⟨rfl, hx, hb, hr, hts, hown, hlocks, hK, hE, hH⟩ := am_begin B hv
  have hown : s.vm.findClass RX12 = some m.cls := hown
  show W p l e { frames := 2, cells := 0, slots := 0, locals := 128 } s m _ below meth c s.heap [] 0 0 _ _
  have P16 : ∀ (w : am_S) (H : Heap) (locs : List Loc) (ls : Array Slot), f_X12_whyNotSwapped_16 a1 a2 w = some (rr, ww) → am_H G w s H locs → lv_has ls 3 [] → W p l e { frames := 2, cells := 0, slots := 0, locals := 128 } s m [.ref (G.1 + 271), .int a1, .int a2].toArray below meth c H locs 0 0 (MQ below (va_Qi (fun (x : Int32) (u : am_S) => x = rr ∧ u = ww) (am_U G) (am_A G)) [.ref (G.1 + 271), .int a1, .int a2].toArray s 0 0 (am_A G)) (F0 m 16 ls []) := by
    intro w H locs ls hf hH hl
    unfold f_X12_whyNotSwapped_16 at hf
    refine lv_iconst (v := 0) hx hb dX12_whyNotSwapped_16 (by decide) ?_
    exact am_reti hx hb hr hlocks hH hf dX12_whyNotSwapped_17
  have P59 : ∀ (s0 : Int32) (w : am_S) (H : Heap) (locs : List Loc) (ls : Array Slot), f_X12_whyNotSwapped_59 a1 a2 s0 w = some (rr, ww) → am_H G w s H locs → lv_has ls 3 [] → W p l e { frames := 2, cells := 0, slots := 0, locals := 128 } s m [.ref (G.1 + 271), .int a1, .int a2].toArray below meth c H locs 0 0 (MQ below (va_Qi (fun (x : Int32) (u : am_S) => x = rr ∧ u = ww) (am_U G) (am_A G)) [.ref (G.1 + 271), .int a1, .int a2].toArray s 0 0 (am_A G)) (F0 m 59 ls [.int s0]) := by
    intro s0 w H locs ls hf hH hl
    unfold f_X12_whyNotSwapped_59 at hf
    exact am_reti hx hb hr hlocks hH hf dX12_whyNotSwapped_59
  refine am_enter (lv := [(0, .ref (G.1 + 271)), (1, .int a1), (2, .int a2)]) (Nat.le_of_ble_eq_true rfl) rfl (fun ls hl => ?_)
  unfold f_X12_whyNotSwapped at hf
  refine am_start hH (fun H locs hH => ?_)
  refine lv_aload_n hx hb dX12_whyNotSwapped_0 rfl (lv_at hl 0 rfl) ?_
  refine lv_iload_n hx hb dX12_whyNotSwapped_1 rfl (lv_at hl 1 rfl) ?_
  obtain ⟨r_18, w_16, hq_17, hf⟩ := am_b2_some hf
  refine am_calli (r := r_18) (w' := w_16) (am_runV (n := 1) (As := [.int a1]) (rest := []) ⟨hx, hb, hml, hown, hts⟩ hK hE hH (k_X12_isUser hq_17) (am_gV am_q1554 am_q1556 am_qs69 am_q13 am_q1557) (am_o12 (p := 271) (by decide +kernel)) rfl ⟨rfl, rfl⟩ (by decide +kernel) ⟨Nat.le_of_ble_eq_true rfl, Nat.le_of_ble_eq_true rfl⟩ rfl hl.1 rfl (Nat.le_of_ble_eq_true rfl) ⟨Nat.zero_le _, Nat.zero_le _⟩ dX12_whyNotSwapped_2) hH (fun H locs hH => ?_)
  refine lv_if_eq (tgt := 16) hx hb dX12_whyNotSwapped_5 (by decide) (fun hc_19 => ?_) (fun hc_19 => ?_)
  · have hf := (if_pos hc_19).symm.trans hf
    exact P16 w_16 H locs ls hf hH (lv_sub hl [] rfl)
  · have hf := (if_neg hc_19).symm.trans hf
    refine lv_aload_n hx hb dX12_whyNotSwapped_8 rfl (lv_at hl 0 rfl) ?_
    refine lv_iload_n hx hb dX12_whyNotSwapped_9 rfl (lv_at hl 2 rfl) ?_
    obtain ⟨r_22, w_20, hq_21, hf⟩ := am_b2_some hf
    refine am_calli (r := r_22) (w' := w_20) (am_runV (n := 1) (As := [.int a2]) (rest := []) ⟨hx, hb, hml, hown, hts⟩ hK hE hH (k_X12_isUser hq_21) (am_gV am_q1554 am_q1556 am_qs69 am_q13 am_q1557) (am_o12 (p := 271) (by decide +kernel)) rfl ⟨rfl, rfl⟩ (by decide +kernel) ⟨Nat.le_of_ble_eq_true rfl, Nat.le_of_ble_eq_true rfl⟩ rfl hl.1 rfl (Nat.le_of_ble_eq_true rfl) ⟨Nat.zero_le _, Nat.zero_le _⟩ dX12_whyNotSwapped_10) hH (fun H locs hH => ?_)
    refine lv_if_ne (tgt := 18) hx hb dX12_whyNotSwapped_13 (by decide) (fun hc_23 => ?_) (fun hc_23 => ?_)
    · have hf := (if_neg hc_23).symm.trans hf
      refine lv_aload_n hx hb dX12_whyNotSwapped_18 rfl (lv_at hl 0 rfl) ?_
      refine am_get hx hb hts hK hown hH (am_o12 (p := 271) (by decide +kernel)) rfl am_inX12 11 (by decide) am_q1330 (v := .ref (G.1 + 277)) rfl dX12_whyNotSwapped_19 ?_
      refine lv_iconst (v := 5) hx hb dX12_whyNotSwapped_22 (by decide) ?_
      refine lv_iload_n hx hb dX12_whyNotSwapped_23 rfl (lv_at hl 1 rfl) ?_
      refine lv_imul hx hb dX12_whyNotSwapped_24 ?_
      refine lv_iconst (v := 2) hx hb dX12_whyNotSwapped_25 (by decide) ?_
      refine lv_iadd hx hb dX12_whyNotSwapped_26 ?_
      obtain ⟨hi_24, hf⟩ := am_chk_some hf
      refine am_iald hx hb hK hH (am_ai_of (N := 50) (by decide +kernel)) hi_24 dX12_whyNotSwapped_27 ?_
      refine lv_aload_n hx hb dX12_whyNotSwapped_28 rfl (lv_at hl 0 rfl) ?_
      refine am_get hx hb hts hK hown hH (am_o12 (p := 271) (by decide +kernel)) rfl am_inX12 11 (by decide) am_q1330 (v := .ref (G.1 + 277)) rfl dX12_whyNotSwapped_29 ?_
      refine lv_iconst (v := 5) hx hb dX12_whyNotSwapped_32 (by decide) ?_
      refine lv_iload_n hx hb dX12_whyNotSwapped_33 rfl (lv_at hl 2 rfl) ?_
      refine lv_imul hx hb dX12_whyNotSwapped_34 ?_
      refine lv_iconst (v := 2) hx hb dX12_whyNotSwapped_35 (by decide) ?_
      refine lv_iadd hx hb dX12_whyNotSwapped_36 ?_
      obtain ⟨hi_25, hf⟩ := am_chk_some hf
      refine am_iald hx hb hK hH (am_ai_of (N := 50) (by decide +kernel)) hi_25 dX12_whyNotSwapped_37 ?_
      refine lv_icmp_eq (tgt := 45) hx hb dX12_whyNotSwapped_38 (by decide) (fun hc_26 => ?_) (fun hc_26 => ?_)
      · have hf := (if_pos hc_26).symm.trans hf
        refine lv_aload_n hx hb dX12_whyNotSwapped_45 rfl (lv_at hl 0 rfl) ?_
        refine lv_iload_n hx hb dX12_whyNotSwapped_46 rfl (lv_at hl 1 rfl) ?_
        refine lv_iload_n hx hb dX12_whyNotSwapped_47 rfl (lv_at hl 2 rfl) ?_
        obtain ⟨r_29, w_27, hq_28, hf⟩ := am_b2_some hf
        refine am_calli (r := r_29) (w' := w_27) (am_runV (n := 2) (As := [.int a1, .int a2]) (rest := []) ⟨hx, hb, hml, hown, hts⟩ hK hE hH (k_X12_haveLikeCopies hq_28) (am_gV am_q1590 am_q1592 am_qs78 am_q13 am_q1593) (am_o12 (p := 271) (by decide +kernel)) rfl ⟨rfl, rfl⟩ (by decide +kernel) ⟨Nat.le_of_ble_eq_true rfl, Nat.le_of_ble_eq_true rfl⟩ rfl hl.1 rfl (Nat.le_of_ble_eq_true rfl) ⟨Nat.zero_le _, Nat.zero_le _⟩ dX12_whyNotSwapped_48) hH (fun H locs hH => ?_)
        refine lv_if_eq (tgt := 58) hx hb dX12_whyNotSwapped_51 (by decide) (fun hc_30 => ?_) (fun hc_30 => ?_)
        · have hf := (if_pos hc_30).symm.trans hf
          refine lv_iconst (v := -1) hx hb dX12_whyNotSwapped_58 (by decide) ?_
          exact P59 (-1 : Int32) w_27 H locs ls hf hH (lv_sub hl [] rfl)
        · have hf := (if_neg hc_30).symm.trans hf
          refine lv_iconst (v := 2) hx hb dX12_whyNotSwapped_54 (by decide) ?_
          refine lv_goto (tgt := 59) hx hb dX12_whyNotSwapped_55 (by decide) ?_
          exact P59 (2 : Int32) w_27 H locs ls hf hH (lv_sub hl [] rfl)
      · have hf := (if_neg hc_26).symm.trans hf
        refine lv_iconst (v := 1) hx hb dX12_whyNotSwapped_41 (by decide) ?_
        refine lv_goto (tgt := 59) hx hb dX12_whyNotSwapped_42 (by decide) ?_
        exact P59 (1 : Int32) w_20 H locs ls hf hH (lv_sub hl [] rfl)
    · have hf := (if_pos hc_23).symm.trans hf
      exact P16 w_20 H locs ls hf hH (lv_sub hl [] rfl)

def f_X12_firstClear_2b (a1 : Int32) (a2 : Int32) (x3 : Int32) (w : am_S) : Option ((Int32 × am_S) ⊕ (Int32 × am_S)) :=
  if a2 ≤ x3 then (am_x (some ((-1 : Int32), w))) else (am_b2 (f_X12_clearIn x3 w) fun r_11 w_9 => if r_11 = 0 then (am_v (x3 + (1 : Int32)) fun (x3_13 : Int32) => some (.inr (x3_13, w_9))) else (am_x (some (x3, w_9))))
def f_X12_firstClear_2 (a1 : Int32) (a2 : Int32) (x3 : Int32) (w : am_S) : Option (Int32 × am_S) :=
  am_loop (fun (st : (Int32 × am_S)) => f_X12_firstClear_2b a1 a2 st.1 st.2) am_fuel (x3, w)
def f_X12_firstClear (a1 : Int32) (a2 : Int32) (w : am_S) : Option (Int32 × am_S) :=
  f_X12_firstClear_2 a1 a2 a1 w
set_option maxRecDepth 100000 in
set_option maxHeartbeats 4000000 in
theorem k_X12_firstClear {G : am_G} {l : Launch} {a1 : Int32} {a2 : Int32}  {w : am_S} {rr : Int32} {ww : am_S} (hf : f_X12_firstClear a1 a2 w = some (rr, ww)) : am_Mi G l yX12_firstClear (Cond.code yX12_firstClear cX12_firstClear 4 (some .int) :: am_T) { frames := 6, cells := 0, slots := 0, locals := 384 } [.ref (G.1 + 271), .int a1, .int a2] w rr ww := by
  refine Met.ofW (cc := cX12_firstClear) (maxL := 4) (ret := (some .int)) (by decide) rfl ?_
  intro p e s m args below meth c s₁ B hml hv
  obtain ⟨rfl, hx, hb, hr, hts, hown, hlocks, hK, hE, hH⟩ := am_begin B hv
  have hown : s.vm.findClass RX12 = some m.cls := hown
  show W p l e { frames := 6, cells := 0, slots := 0, locals := 384 } s m _ below meth c s.heap [] 0 0 _ _
  have P2 : ∀ (n1 : Nat) (x3 : Int32) (w : am_S) (H : Heap) (locs : List Loc) (ls : Array Slot), am_loop (fun (st : (Int32 × am_S)) => f_X12_firstClear_2b a1 a2 st.1 st.2) n1 (x3, w) = some (rr, ww) → am_H G w s H locs → lv_has ls 4 [(0, .ref (G.1 + 271)), (2, .int a2), (3, .int x3)] → W p l e { frames := 6, cells := 0, slots := 0, locals := 384 } s m [.ref (G.1 + 271), .int a1, .int a2].toArray below meth c H locs 0 0 (MQ below (va_Qi (fun (x : Int32) (u : am_S) => x = rr ∧ u = ww) (am_U G) (am_A G)) [.ref (G.1 + 271), .int a1, .int a2].toArray s 0 0 (am_A G)) (F0 m 2 ls []) := by
    intro n1
    induction n1 with
    | zero =>
      intro x3 w H locs ls hf hH hl
      exact (am_loop_zero hf).elim
    | succ n1 ih1 =>
      intro x3 w H locs ls hf hH hl
      obtain ⟨z1, hf, hk1⟩ := am_loop_succ hf
      have hf : f_X12_firstClear_2b a1 a2 x3 w = some z1 := hf
      unfold f_X12_firstClear_2b at hf
      refine lv_iload_n hx hb dX12_firstClear_2 rfl (lv_at hl 2 rfl) ?_
      refine lv_iload_n hx hb dX12_firstClear_3 rfl (lv_at hl 1 rfl) ?_
      refine lv_icmp_ge (tgt := 23) hx hb dX12_firstClear_4 (by decide) (fun hc_7 => ?_) (fun hc_7 => ?_)
      · have hf := (if_pos hc_7).symm.trans hf
        obtain ⟨y_8, hf, hzy_8⟩ := am_x_some hf
        rw [hzy_8] at hk1
        have hf := hf.trans (congrArg some (show y_8 = (rr, ww) from hk1))
        refine lv_iconst (v := -1) hx hb dX12_firstClear_23 (by decide) ?_
        exact am_reti hx hb hr hlocks hH hf dX12_firstClear_24
      · have hf := (if_neg hc_7).symm.trans hf
        refine lv_aload_n hx hb dX12_firstClear_7 rfl (lv_at hl 0 rfl) ?_
        refine lv_iload_n hx hb dX12_firstClear_8 rfl (lv_at hl 2 rfl) ?_
        obtain ⟨r_11, w_9, hq_10, hf⟩ := am_b2_some hf
        refine am_calli (r := r_11) (w' := w_9) (am_runV (n := 1) (As := [.int x3]) (rest := []) ⟨hx, hb, hml, hown, hts⟩ hK hE hH (k_X12_clearIn hq_10) (am_gV am_q1526 am_q1528 am_qs62 am_q13 am_q1529) (am_o12 (p := 271) (by decide +kernel)) rfl ⟨rfl, rfl⟩ (by decide +kernel) ⟨Nat.le_of_ble_eq_true rfl, Nat.le_of_ble_eq_true rfl⟩ rfl hl.1 rfl (Nat.le_of_ble_eq_true rfl) ⟨Nat.zero_le _, Nat.zero_le _⟩ dX12_firstClear_9) hH (fun H locs hH => ?_)
        refine lv_if_eq (tgt := 17) hx hb dX12_firstClear_12 (by decide) (fun hc_12 => ?_) (fun hc_12 => ?_)
        · have hf := (if_pos hc_12).symm.trans hf
          obtain ⟨x3_13, hx3_13, hf⟩ := am_v_some hf
          refine lv_iinc (v := x3_13) (lv' := [(3, .int x3_13), (0, .ref (G.1 + 271)), (2, .int a2)]) hx hb dX12_firstClear_17 hl (k := 2) rfl (by rw [hx3_13]; rfl) (by decide) rfl (fun ls hl => ?_)
          refine lv_goto (tgt := 2) hx hb dX12_firstClear_20 (by decide) ?_
          obtain rfl := Option.some.inj hf
          exact ih1 x3_13 w_9 H locs ls hk1 hH (lv_sub hl [1, 2, 0] rfl)
        · have hf := (if_neg hc_12).symm.trans hf
          obtain ⟨y_14, hf, hzy_14⟩ := am_x_some hf
          rw [hzy_14] at hk1
          have hf := hf.trans (congrArg some (show y_14 = (rr, ww) from hk1))
          refine lv_iload_n hx hb dX12_firstClear_15 rfl (lv_at hl 2 rfl) ?_
          exact am_reti hx hb hr hlocks hH hf dX12_firstClear_16
  refine am_enter (lv := [(0, .ref (G.1 + 271)), (1, .int a1), (2, .int a2)]) (Nat.le_of_ble_eq_true rfl) rfl (fun ls hl => ?_)
  unfold f_X12_firstClear at hf
  refine am_start hH (fun H locs hH => ?_)
  refine lv_iload_n hx hb dX12_firstClear_0 rfl (lv_at hl 1 rfl) ?_
  refine lv_istore_n (lv' := [(3, .int a1), (0, .ref (G.1 + 271)), (1, .int a1), (2, .int a2)]) hx hb dX12_firstClear_1 rfl hl (by decide) rfl (fun ls hl => ?_)
  exact P2 am_fuel a1 w H locs ls hf hH (lv_sub hl [1, 3, 0] rfl)

def f_X12_isSlot (a1 : Int32) (w : am_S) : Option (Int32 × am_S) :=
  am_b2 (f_X12_slotMany w) fun r_10 w_8 => am_b2 (f_X12_in a1 (0 : Int32) (r_10 - (1 : Int32)) w_8) fun r_13 w_11 => am_nar .boolean r_13 (some (r_13, w_11))
set_option maxRecDepth 100000 in
set_option maxHeartbeats 4000000 in
theorem k_X12_isSlot {G : am_G} {l : Launch} {a1 : Int32}  {w : am_S} {rr : Int32} {ww : am_S} (hf : f_X12_isSlot a1 w = some (rr, ww)) : am_Mi G l yX12_isSlot (Cond.code yX12_isSlot cX12_isSlot 2 (some .boolean) :: am_T) { frames := 2, cells := 0, slots := 0, locals := 128 } [.ref (G.1 + 271), .int a1] w rr ww := by
  refine Met.ofW (cc := cX12_isSlot) (maxL := 2) (ret := (some .boolean)) (by decide) rfl ?_
  intro p e s m args below meth c s₁ B hml hv
  obtain ⟨rfl, hx, hb, hr, hts, hown, hlocks, hK, hE, hH⟩ := am_begin B hv
  have hown : s.vm.findClass RX12 = some m.cls := hown
  show W p l e { frames := 2, cells := 0, slots := 0, locals := 128 } s m _ below meth c s.heap [] 0 0 _ _
  refine am_enter (lv := [(0, .ref (G.1 + 271)), (1, .int a1)]) (Nat.le_of_ble_eq_true rfl) rfl (fun ls hl => ?_)
  unfold f_X12_isSlot at hf
  refine am_start hH (fun H locs hH => ?_)
  refine lv_iload_n hx hb dX12_isSlot_0 rfl (lv_at hl 1 rfl) ?_
  refine lv_iconst (v := 0) hx hb dX12_isSlot_1 (by decide) ?_
  refine lv_aload_n hx hb dX12_isSlot_2 rfl (lv_at hl 0 rfl) ?_
  obtain ⟨r_10, w_8, hq_9, hf⟩ := am_b2_some hf
  refine am_calli (r := r_10) (w' := w_8) (am_runV (n := 0) (As := []) (rest := [.int (0 : Int32), .int a1]) ⟨hx, hb, hml, hown, hts⟩ hK hE hH (k_X12_slotMany hq_9) (am_gV am_q1518 am_q1520 am_qs60 am_q13 am_q1521) (am_o12 (p := 271) (by decide +kernel)) rfl ⟨rfl, rfl⟩ (by decide +kernel) ⟨Nat.le_of_ble_eq_true rfl, Nat.le_of_ble_eq_true rfl⟩ rfl hl.1 rfl (Nat.le_of_ble_eq_true rfl) ⟨Nat.zero_le _, Nat.zero_le _⟩ dX12_isSlot_3) hH (fun H locs hH => ?_)
  refine lv_iconst (v := 1) hx hb dX12_isSlot_6 (by decide) ?_
  refine lv_isub hx hb dX12_isSlot_7 ?_
  obtain ⟨r_13, w_11, hq_12, hf⟩ := am_b2_some hf
  refine am_calli (r := r_13) (w' := w_11) (am_runS (n := 3) (As := [.int a1, .int (0 : Int32), .int (r_10 - (1 : Int32))]) (rest := []) ⟨hx, hb, hml, hown, hts⟩ hK hE hH (k_X12_in hq_12) (am_gS am_q1425 am_q1426 am_q13 am_q1427) ⟨rfl, rfl⟩ (by decide +kernel) ⟨Nat.le_of_ble_eq_true rfl, Nat.le_of_ble_eq_true rfl⟩ rfl hl.1 rfl (Nat.le_of_ble_eq_true rfl) ⟨Nat.zero_le _, Nat.zero_le _⟩ dX12_isSlot_8) hH (fun H locs hH => ?_)
  obtain ⟨hr_14, hf⟩ := am_nar_some hf
  exact am_retz hx hb hr hr_14.1 hlocks hH hf dX12_isSlot_11

def f_X12_degreesOfAll_4b  (x1 : Int32) (x2 : Int32) (w : am_S) : Option ((Int32 × am_S) ⊕ (Int32 × Int32 × am_S)) :=
  if (6 : Int32) < x2 then (am_x (some (x1, w))) else (am_chk x2 7 (am_v (x1 + (w.1 278 x2.toNatClampNeg)) fun (x1_8 : Int32) => am_v (x2 + (1 : Int32)) fun (x2_9 : Int32) => some (.inr (x1_8, x2_9, w))))
def f_X12_degreesOfAll_4  (x1 : Int32) (x2 : Int32) (w : am_S) : Option (Int32 × am_S) :=
  am_loop (fun (st : (Int32 × Int32 × am_S)) => f_X12_degreesOfAll_4b st.1 st.2.1 st.2.2) am_fuel (x1, x2, w)
def f_X12_degreesOfAll  (w : am_S) : Option (Int32 × am_S) :=
  f_X12_degreesOfAll_4 (0 : Int32) (1 : Int32) w
set_option maxRecDepth 100000 in
set_option maxHeartbeats 4000000 in
theorem k_X12_degreesOfAll {G : am_G} {l : Launch}   {w : am_S} {rr : Int32} {ww : am_S} (hf : f_X12_degreesOfAll  w = some (rr, ww)) : am_Mi G l yX12_degreesOfAll (Cond.code yX12_degreesOfAll cX12_degreesOfAll 3 (some .int) :: am_T) { frames := 0, cells := 0, slots := 0, locals := 0 } [.ref (G.1 + 271)] w rr ww := by
  refine Met.ofW (cc := cX12_degreesOfAll) (maxL := 3) (ret := (some .int)) (by decide) rfl ?_
  intro p e s m args below meth c s₁ B hml hv
  obtain ⟨rfl, hx, hb, hr, hts, hown, hlocks, hK, hE, hH⟩ := am_begin B hv
  have hown : s.vm.findClass RX12 = some m.cls := hown
  show W p l e { frames := 0, cells := 0, slots := 0, locals := 0 } s m _ below meth c s.heap [] 0 0 _ _
  have P4 : ∀ (n1 : Nat) (x1 : Int32) (x2 : Int32) (w : am_S) (H : Heap) (locs : List Loc) (ls : Array Slot), am_loop (fun (st : (Int32 × Int32 × am_S)) => f_X12_degreesOfAll_4b st.1 st.2.1 st.2.2) n1 (x1, x2, w) = some (rr, ww) → am_H G w s H locs → lv_has ls 3 [(0, .ref (G.1 + 271)), (1, .int x1), (2, .int x2)] → W p l e { frames := 0, cells := 0, slots := 0, locals := 0 } s m [.ref (G.1 + 271)].toArray below meth c H locs 0 0 (MQ below (va_Qi (fun (x : Int32) (u : am_S) => x = rr ∧ u = ww) (am_U G) (am_A G)) [.ref (G.1 + 271)].toArray s 0 0 (am_A G)) (F0 m 4 ls []) := by
    intro n1
    induction n1 with
    | zero =>
      intro x1 x2 w H locs ls hf hH hl
      exact (am_loop_zero hf).elim
    | succ n1 ih1 =>
      intro x1 x2 w H locs ls hf hH hl
      obtain ⟨z1, hf, hk1⟩ := am_loop_succ hf
      have hf : f_X12_degreesOfAll_4b x1 x2 w = some z1 := hf
      unfold f_X12_degreesOfAll_4b at hf
      refine lv_iload_n hx hb dX12_degreesOfAll_4 rfl (lv_at hl 2 rfl) ?_
      refine lv_bipush (v := 6) hx hb dX12_degreesOfAll_5 (by decide) ?_
      refine lv_icmp_gt (tgt := 25) hx hb dX12_degreesOfAll_7 (by decide) (fun hc_5 => ?_) (fun hc_5 => ?_)
      · have hf := (if_pos hc_5).symm.trans hf
        obtain ⟨y_6, hf, hzy_6⟩ := am_x_some hf
        rw [hzy_6] at hk1
        have hf := hf.trans (congrArg some (show y_6 = (rr, ww) from hk1))
        refine lv_iload_n hx hb dX12_degreesOfAll_25 rfl (lv_at hl 1 rfl) ?_
        exact am_reti hx hb hr hlocks hH hf dX12_degreesOfAll_26
      · have hf := (if_neg hc_5).symm.trans hf
        refine lv_iload_n hx hb dX12_degreesOfAll_10 rfl (lv_at hl 1 rfl) ?_
        refine lv_aload_n hx hb dX12_degreesOfAll_11 rfl (lv_at hl 0 rfl) ?_
        refine am_get hx hb hts hK hown hH (am_o12 (p := 271) (by decide +kernel)) rfl am_inX12 12 (by decide) am_q1331 (v := .ref (G.1 + 278)) rfl dX12_degreesOfAll_12 ?_
        refine lv_iload_n hx hb dX12_degreesOfAll_15 rfl (lv_at hl 2 rfl) ?_
        obtain ⟨hi_7, hf⟩ := am_chk_some hf
        refine am_iald hx hb hK hH (am_ai_of (N := 7) (by decide +kernel)) hi_7 dX12_degreesOfAll_16 ?_
        refine lv_iadd hx hb dX12_degreesOfAll_17 ?_
        obtain ⟨x1_8, hx1_8, hf⟩ := am_v_some hf
        refine am_topi hx1_8 ?_
        refine lv_istore_n (lv' := [(1, .int x1_8), (0, .ref (G.1 + 271)), (2, .int x2)]) hx hb dX12_degreesOfAll_18 rfl hl (by decide) rfl (fun ls hl => ?_)
        obtain ⟨x2_9, hx2_9, hf⟩ := am_v_some hf
        refine lv_iinc (v := x2_9) (lv' := [(2, .int x2_9), (1, .int x1_8), (0, .ref (G.1 + 271))]) hx hb dX12_degreesOfAll_19 hl (k := 2) rfl (by rw [hx2_9]; rfl) (by decide) rfl (fun ls hl => ?_)
        refine lv_goto (tgt := 4) hx hb dX12_degreesOfAll_22 (by decide) ?_
        obtain rfl := Option.some.inj hf
        exact ih1 x1_8 x2_9 w H locs ls hk1 hH (lv_sub hl [2, 1, 0] rfl)
  refine am_enter (lv := [(0, .ref (G.1 + 271))]) (Nat.le_of_ble_eq_true rfl) rfl (fun ls hl => ?_)
  unfold f_X12_degreesOfAll at hf
  refine am_start hH (fun H locs hH => ?_)
  refine lv_iconst (v := 0) hx hb dX12_degreesOfAll_0 (by decide) ?_
  refine lv_istore_n (lv' := [(1, .int (0 : Int32)), (0, .ref (G.1 + 271))]) hx hb dX12_degreesOfAll_1 rfl hl (by decide) rfl (fun ls hl => ?_)
  refine lv_iconst (v := 1) hx hb dX12_degreesOfAll_2 (by decide) ?_
  refine lv_istore_n (lv' := [(2, .int (1 : Int32)), (1, .int (0 : Int32)), (0, .ref (G.1 + 271))]) hx hb dX12_degreesOfAll_3 rfl hl (by decide) rfl (fun ls hl => ?_)
  exact P4 am_fuel (0 : Int32) (1 : Int32) w H locs ls hf hH (lv_sub hl [2, 1, 0] rfl)

def f_X12_beginOf (a1 : Int32) (w : am_S) : Option (Int32 × am_S) :=
  am_chk (0 : Int32) 4 (am_chk (((5 : Int32) * a1) + (2 : Int32)) 50 (some ((w.1 276 (0 : Int32).toNatClampNeg) * (w.1 277 (((5 : Int32) * a1) + (2 : Int32)).toNatClampNeg), w)))
set_option maxRecDepth 100000 in
set_option maxHeartbeats 4000000 in
theorem k_X12_beginOf {G : am_G} {l : Launch} {a1 : Int32}  {w : am_S} {rr : Int32} {ww : am_S} (hf : f_X12_beginOf a1 w = some (rr, ww)) : am_Mi G l yX12_beginOf (Cond.code yX12_beginOf cX12_beginOf 2 (some .int) :: am_T) { frames := 0, cells := 0, slots := 0, locals := 0 } [.ref (G.1 + 271), .int a1] w rr ww := by
  refine Met.ofW (cc := cX12_beginOf) (maxL := 2) (ret := (some .int)) (by decide) rfl ?_
  intro p e s m args below meth c s₁ B hml hv
  obtain ⟨rfl, hx, hb, hr, hts, hown, hlocks, hK, hE, hH⟩ := am_begin B hv
  have hown : s.vm.findClass RX12 = some m.cls := hown
  show W p l e { frames := 0, cells := 0, slots := 0, locals := 0 } s m _ below meth c s.heap [] 0 0 _ _
  refine am_enter (lv := [(0, .ref (G.1 + 271)), (1, .int a1)]) (Nat.le_of_ble_eq_true rfl) rfl (fun ls hl => ?_)
  unfold f_X12_beginOf at hf
  refine am_start hH (fun H locs hH => ?_)
  refine lv_aload_n hx hb dX12_beginOf_0 rfl (lv_at hl 0 rfl) ?_
  refine am_get hx hb hts hK hown hH (am_o12 (p := 271) (by decide +kernel)) rfl am_inX12 10 (by decide) am_q1329 (v := .ref (G.1 + 276)) rfl dX12_beginOf_1 ?_
  refine lv_iconst (v := 0) hx hb dX12_beginOf_4 (by decide) ?_
  obtain ⟨hi_3, hf⟩ := am_chk_some hf
  refine am_iald hx hb hK hH (am_ai_of (N := 4) (by decide +kernel)) hi_3 dX12_beginOf_5 ?_
  refine lv_aload_n hx hb dX12_beginOf_6 rfl (lv_at hl 0 rfl) ?_
  refine am_get hx hb hts hK hown hH (am_o12 (p := 271) (by decide +kernel)) rfl am_inX12 11 (by decide) am_q1330 (v := .ref (G.1 + 277)) rfl dX12_beginOf_7 ?_
  refine lv_iconst (v := 5) hx hb dX12_beginOf_10 (by decide) ?_
  refine lv_iload_n hx hb dX12_beginOf_11 rfl (lv_at hl 1 rfl) ?_
  refine lv_imul hx hb dX12_beginOf_12 ?_
  refine lv_iconst (v := 2) hx hb dX12_beginOf_13 (by decide) ?_
  refine lv_iadd hx hb dX12_beginOf_14 ?_
  obtain ⟨hi_4, hf⟩ := am_chk_some hf
  refine am_iald hx hb hK hH (am_ai_of (N := 50) (by decide +kernel)) hi_4 dX12_beginOf_15 ?_
  refine lv_imul hx hb dX12_beginOf_16 ?_
  exact am_reti hx hb hr hlocks hH hf dX12_beginOf_17

def f_X12_widthOf_32 (a1 : Int32) (s0 : Int32) (s1 : Int32) (w : am_S) : Option (Int32 × am_S) :=
  some (s1 * s0, w)
def f_X12_widthOf (a1 : Int32) (w : am_S) : Option (Int32 × am_S) :=
  am_chk (0 : Int32) 4 (am_chk (((5 : Int32) * a1) + (2 : Int32)) 50 (am_chk (1 : Int32) 4 (if (w.1 276 (1 : Int32).toNatClampNeg) ≤ ((w.1 277 (((5 : Int32) * a1) + (2 : Int32)).toNatClampNeg) + (1 : Int32)) then (f_X12_widthOf_32 a1 (1 : Int32) (w.1 276 (0 : Int32).toNatClampNeg) w) else (f_X12_widthOf_32 a1 (2 : Int32) (w.1 276 (0 : Int32).toNatClampNeg) w))))
set_option maxRecDepth 100000 in
set_option maxHeartbeats 4000000 in
theorem k_X12_widthOf {G : am_G} {l : Launch} {a1 : Int32}  {w : am_S} {rr : Int32} {ww : am_S} (hf : f_X12_widthOf a1 w = some (rr, ww)) : am_Mi G l yX12_widthOf (Cond.code yX12_widthOf cX12_widthOf 2 (some .int) :: am_T) { frames := 0, cells := 0, slots := 0, locals := 0 } [.ref (G.1 + 271), .int a1] w rr ww := by
  refine Met.ofW (cc := cX12_widthOf) (maxL := 2) (ret := (some .int)) (by decide) rfl ?_
  intro p e s m args below meth c s₁ B hml hv
  obtain ⟨rfl, hx, hb, hr, hts, hown, hlocks, hK, hE, hH⟩ := am_begin B hv
  have hown : s.vm.findClass RX12 = some m.cls := hown
  show W p l e { frames := 0, cells := 0, slots := 0, locals := 0 } s m _ below meth c s.heap [] 0 0 _ _
  have P32 : ∀ (s0 : Int32) (s1 : Int32) (w : am_S) (H : Heap) (locs : List Loc) (ls : Array Slot), f_X12_widthOf_32 a1 s0 s1 w = some (rr, ww) → am_H G w s H locs → lv_has ls 2 [] → W p l e { frames := 0, cells := 0, slots := 0, locals := 0 } s m [.ref (G.1 + 271), .int a1].toArray below meth c H locs 0 0 (MQ below (va_Qi (fun (x : Int32) (u : am_S) => x = rr ∧ u = ww) (am_U G) (am_A G)) [.ref (G.1 + 271), .int a1].toArray s 0 0 (am_A G)) (F0 m 32 ls [.int s0, .int s1]) := by
    intro s0 s1 w H locs ls hf hH hl
    unfold f_X12_widthOf_32 at hf
    refine lv_imul hx hb dX12_widthOf_32 ?_
    exact am_reti hx hb hr hlocks hH hf dX12_widthOf_33
  refine am_enter (lv := [(0, .ref (G.1 + 271)), (1, .int a1)]) (Nat.le_of_ble_eq_true rfl) rfl (fun ls hl => ?_)
  unfold f_X12_widthOf at hf
  refine am_start hH (fun H locs hH => ?_)
  refine lv_aload_n hx hb dX12_widthOf_0 rfl (lv_at hl 0 rfl) ?_
  refine am_get hx hb hts hK hown hH (am_o12 (p := 271) (by decide +kernel)) rfl am_inX12 10 (by decide) am_q1329 (v := .ref (G.1 + 276)) rfl dX12_widthOf_1 ?_
  refine lv_iconst (v := 0) hx hb dX12_widthOf_4 (by decide) ?_
  obtain ⟨hi_5, hf⟩ := am_chk_some hf
  refine am_iald hx hb hK hH (am_ai_of (N := 4) (by decide +kernel)) hi_5 dX12_widthOf_5 ?_
  refine lv_aload_n hx hb dX12_widthOf_6 rfl (lv_at hl 0 rfl) ?_
  refine am_get hx hb hts hK hown hH (am_o12 (p := 271) (by decide +kernel)) rfl am_inX12 11 (by decide) am_q1330 (v := .ref (G.1 + 277)) rfl dX12_widthOf_7 ?_
  refine lv_iconst (v := 5) hx hb dX12_widthOf_10 (by decide) ?_
  refine lv_iload_n hx hb dX12_widthOf_11 rfl (lv_at hl 1 rfl) ?_
  refine lv_imul hx hb dX12_widthOf_12 ?_
  refine lv_iconst (v := 2) hx hb dX12_widthOf_13 (by decide) ?_
  refine lv_iadd hx hb dX12_widthOf_14 ?_
  obtain ⟨hi_6, hf⟩ := am_chk_some hf
  refine am_iald hx hb hK hH (am_ai_of (N := 50) (by decide +kernel)) hi_6 dX12_widthOf_15 ?_
  refine lv_iconst (v := 1) hx hb dX12_widthOf_16 (by decide) ?_
  refine lv_iadd hx hb dX12_widthOf_17 ?_
  refine lv_aload_n hx hb dX12_widthOf_18 rfl (lv_at hl 0 rfl) ?_
  refine am_get hx hb hts hK hown hH (am_o12 (p := 271) (by decide +kernel)) rfl am_inX12 10 (by decide) am_q1329 (v := .ref (G.1 + 276)) rfl dX12_widthOf_19 ?_
  refine lv_iconst (v := 1) hx hb dX12_widthOf_22 (by decide) ?_
  obtain ⟨hi_7, hf⟩ := am_chk_some hf
  refine am_iald hx hb hK hH (am_ai_of (N := 4) (by decide +kernel)) hi_7 dX12_widthOf_23 ?_
  refine lv_icmp_ge (tgt := 31) hx hb dX12_widthOf_24 (by decide) (fun hc_8 => ?_) (fun hc_8 => ?_)
  · have hf := (if_pos hc_8).symm.trans hf
    refine lv_iconst (v := 1) hx hb dX12_widthOf_31 (by decide) ?_
    exact P32 (1 : Int32) (w.1 276 (0 : Int32).toNatClampNeg) w H locs ls hf hH (lv_sub hl [] rfl)
  · have hf := (if_neg hc_8).symm.trans hf
    refine lv_iconst (v := 2) hx hb dX12_widthOf_27 (by decide) ?_
    refine lv_goto (tgt := 32) hx hb dX12_widthOf_28 (by decide) ?_
    exact P32 (2 : Int32) (w.1 276 (0 : Int32).toNatClampNeg) w H locs ls hf hH (lv_sub hl [] rfl)

def f_X12_isOf (a1 : Int32) (a2 : Int32) (w : am_S) : Option (Int32 × am_S) :=
  am_b2 (f_X12_beginOf a1 w) fun r_16 w_14 => am_b2 (f_X12_beginOf a1 w_14) fun r_19 w_17 => am_b2 (f_X12_widthOf a1 w_17) fun r_22 w_20 => am_b2 (f_X12_in a2 r_16 ((r_19 + r_22) - (1 : Int32)) w_20) fun r_25 w_23 => am_nar .boolean r_25 (some (r_25, w_23))
set_option maxRecDepth 100000 in
set_option maxHeartbeats 4000000 in
theorem k_X12_isOf {G : am_G} {l : Launch} {a1 : Int32} {a2 : Int32}  {w : am_S} {rr : Int32} {ww : am_S} (hf : f_X12_isOf a1 a2 w = some (rr, ww)) : am_Mi G l yX12_isOf (Cond.code yX12_isOf cX12_isOf 3 (some .boolean) :: am_T) { frames := 1, cells := 0, slots := 0, locals := 64 } [.ref (G.1 + 271), .int a1, .int a2] w rr ww := by
  refine Met.ofW (cc := cX12_isOf) (maxL := 3) (ret := (some .boolean)) (by decide) rfl ?_
  intro p e s m args below meth c s₁ B hml hv
  obtain ⟨rfl, hx, hb, hr, hts, hown, hlocks, hK, hE, hH⟩ := am_begin B hv
  have hown : s.vm.findClass RX12 = some m.cls := hown
  show W p l e { frames := 1, cells := 0, slots := 0, locals := 64 } s m _ below meth c s.heap [] 0 0 _ _
  refine am_enter (lv := [(0, .ref (G.1 + 271)), (1, .int a1), (2, .int a2)]) (Nat.le_of_ble_eq_true rfl) rfl (fun ls hl => ?_)
  unfold f_X12_isOf at hf
  refine am_start hH (fun H locs hH => ?_)
  refine lv_iload_n hx hb dX12_isOf_0 rfl (lv_at hl 2 rfl) ?_
  refine lv_aload_n hx hb dX12_isOf_1 rfl (lv_at hl 0 rfl) ?_
  refine lv_iload_n hx hb dX12_isOf_2 rfl (lv_at hl 1 rfl) ?_
  obtain ⟨r_16, w_14, hq_15, hf⟩ := am_b2_some hf
  refine am_calli (r := r_16) (w' := w_14) (am_runV (n := 1) (As := [.int a1]) (rest := [.int a2]) ⟨hx, hb, hml, hown, hts⟩ hK hE hH (k_X12_beginOf hq_15) (am_gV am_q1566 am_q1568 am_qs72 am_q13 am_q1569) (am_o12 (p := 271) (by decide +kernel)) rfl ⟨rfl, rfl⟩ (by decide +kernel) ⟨Nat.le_of_ble_eq_true rfl, Nat.le_of_ble_eq_true rfl⟩ rfl hl.1 rfl (Nat.le_of_ble_eq_true rfl) ⟨Nat.zero_le _, Nat.zero_le _⟩ dX12_isOf_3) hH (fun H locs hH => ?_)
  refine lv_aload_n hx hb dX12_isOf_6 rfl (lv_at hl 0 rfl) ?_
  refine lv_iload_n hx hb dX12_isOf_7 rfl (lv_at hl 1 rfl) ?_
  obtain ⟨r_19, w_17, hq_18, hf⟩ := am_b2_some hf
  refine am_calli (r := r_19) (w' := w_17) (am_runV (n := 1) (As := [.int a1]) (rest := [.int r_16, .int a2]) ⟨hx, hb, hml, hown, hts⟩ hK hE hH (k_X12_beginOf hq_18) (am_gV am_q1566 am_q1568 am_qs72 am_q13 am_q1569) (am_o12 (p := 271) (by decide +kernel)) rfl ⟨rfl, rfl⟩ (by decide +kernel) ⟨Nat.le_of_ble_eq_true rfl, Nat.le_of_ble_eq_true rfl⟩ rfl hl.1 rfl (Nat.le_of_ble_eq_true rfl) ⟨Nat.zero_le _, Nat.zero_le _⟩ dX12_isOf_8) hH (fun H locs hH => ?_)
  refine lv_aload_n hx hb dX12_isOf_11 rfl (lv_at hl 0 rfl) ?_
  refine lv_iload_n hx hb dX12_isOf_12 rfl (lv_at hl 1 rfl) ?_
  obtain ⟨r_22, w_20, hq_21, hf⟩ := am_b2_some hf
  refine am_calli (r := r_22) (w' := w_20) (am_runV (n := 1) (As := [.int a1]) (rest := [.int r_19, .int r_16, .int a2]) ⟨hx, hb, hml, hown, hts⟩ hK hE hH (k_X12_widthOf hq_21) (am_gV am_q1570 am_q1572 am_qs73 am_q13 am_q1573) (am_o12 (p := 271) (by decide +kernel)) rfl ⟨rfl, rfl⟩ (by decide +kernel) ⟨Nat.le_of_ble_eq_true rfl, Nat.le_of_ble_eq_true rfl⟩ rfl hl.1 rfl (Nat.le_of_ble_eq_true rfl) ⟨Nat.zero_le _, Nat.zero_le _⟩ dX12_isOf_13) hH (fun H locs hH => ?_)
  refine lv_iadd hx hb dX12_isOf_16 ?_
  refine lv_iconst (v := 1) hx hb dX12_isOf_17 (by decide) ?_
  refine lv_isub hx hb dX12_isOf_18 ?_
  obtain ⟨r_25, w_23, hq_24, hf⟩ := am_b2_some hf
  refine am_calli (r := r_25) (w' := w_23) (am_runS (n := 3) (As := [.int a2, .int r_16, .int ((r_19 + r_22) - (1 : Int32))]) (rest := []) ⟨hx, hb, hml, hown, hts⟩ hK hE hH (k_X12_in hq_24) (am_gS am_q1425 am_q1426 am_q13 am_q1427) ⟨rfl, rfl⟩ (by decide +kernel) ⟨Nat.le_of_ble_eq_true rfl, Nat.le_of_ble_eq_true rfl⟩ rfl hl.1 rfl (Nat.le_of_ble_eq_true rfl) ⟨Nat.zero_le _, Nat.zero_le _⟩ dX12_isOf_19) hH (fun H locs hH => ?_)
  obtain ⟨hr_26, hf⟩ := am_nar_some hf
  exact am_retz hx hb hr hr_26.1 hlocks hH hf dX12_isOf_22

def f_X12_whyNot_77 (a1 : Int32) (a2 : Int32) (a3 : Int32) (s0 : Int32) (w : am_S) : Option (Int32 × am_S) :=
  some (s0, w)
def f_X12_whyNot_48 (a1 : Int32) (a2 : Int32) (a3 : Int32) (w : am_S) : Option (Int32 × am_S) :=
  am_b2 (f_X12_isField w) fun r_74 w_72 => if r_74 = 0 then (f_X12_whyNot_77 a1 a2 a3 (0 : Int32) w_72) else (am_b2 (f_X12_slotMany w_72) fun r_78 w_76 => am_b2 (f_X12_firstClear (0 : Int32) r_78 w_76) fun r_81 w_79 => if r_81 = (-1 : Int32) then (f_X12_whyNot_77 a1 a2 a3 (2 : Int32) w_79) else (f_X12_whyNot_77 a1 a2 a3 (-1 : Int32) w_79))
def f_X12_whyNot_103 (a1 : Int32) (a2 : Int32) (a3 : Int32) (s0 : Int32) (w : am_S) : Option (Int32 × am_S) :=
  some (s0, w)
def f_X12_whyNot_129 (a1 : Int32) (a2 : Int32) (a3 : Int32) (s0 : Int32) (w : am_S) : Option (Int32 × am_S) :=
  some (s0, w)
def f_X12_whyNot_164 (a1 : Int32) (a2 : Int32) (a3 : Int32) (s0 : Int32) (w : am_S) : Option (Int32 × am_S) :=
  some (s0, w)
def f_X12_whyNot_146 (a1 : Int32) (a2 : Int32) (a3 : Int32) (w : am_S) : Option (Int32 × am_S) :=
  f_X12_whyNot_164 a1 a2 a3 (0 : Int32) w
def f_X12_whyNot_206 (a1 : Int32) (a2 : Int32) (a3 : Int32) (s0 : Int32) (w : am_S) : Option (Int32 × am_S) :=
  some (s0, w)
def f_X12_whyNot_231 (a1 : Int32) (a2 : Int32) (a3 : Int32) (s0 : Int32) (w : am_S) : Option (Int32 × am_S) :=
  some (s0, w)
def f_X12_whyNot (a1 : Int32) (a2 : Int32) (a3 : Int32) (w : am_S) : Option (Int32 × am_S) :=
  (if a1 = (0 : Int32) then (f_X12_whyNot_48 a1 a2 a3 w) else (if a1 = (1 : Int32) then (f_X12_whyNot_48 a1 a2 a3 w) else (if a1 = (2 : Int32) then (am_b2 (f_X12_isUser a2 w) fun r_93 w_91 => if r_93 = 0 then (f_X12_whyNot_103 a1 a2 a3 (0 : Int32) w_91) else (am_b2 (f_X12_isUnknown a2 w_91) fun r_97 w_95 => if r_97 = 0 then (f_X12_whyNot_103 a1 a2 a3 (2 : Int32) w_95) else (f_X12_whyNot_103 a1 a2 a3 (-1 : Int32) w_95))) else (if a1 = (3 : Int32) then (am_b2 (f_X12_isUser a2 w) fun r_101 w_99 => if r_101 = 0 then (f_X12_whyNot_129 a1 a2 a3 (0 : Int32) w_99) else (am_b2 (f_X12_isUnknown a2 w_99) fun r_105 w_103 => if r_105 = 0 then (f_X12_whyNot_129 a1 a2 a3 (-1 : Int32) w_103) else (f_X12_whyNot_129 a1 a2 a3 (2 : Int32) w_103))) else (if a1 = (4 : Int32) then (am_b2 (f_X12_isUser a2 w) fun r_109 w_107 => if r_109 = 0 then (f_X12_whyNot_146 a1 a2 a3 w_107) else (am_b2 (f_X12_isSlot a3 w_107) fun r_113 w_111 => if r_113 = 0 then (f_X12_whyNot_146 a1 a2 a3 w_111) else (am_b2 (f_X12_isOf a2 a3 w_111) fun r_117 w_115 => if r_117 = 0 then (f_X12_whyNot_164 a1 a2 a3 (1 : Int32) w_115) else (f_X12_whyNot_164 a1 a2 a3 (-1 : Int32) w_115)))) else (if a1 = (5 : Int32) then (am_b2 (f_X12_isField w) fun r_121 w_119 => if r_121 = 0 then (f_X12_whyNot_206 a1 a2 a3 (0 : Int32) w_119) else (am_b2 (f_X12_in a2 (0 : Int32) (99 : Int32) w_119) fun r_125 w_123 => if r_125 = 0 then (f_X12_whyNot_206 a1 a2 a3 (1 : Int32) w_123) else (am_chk (30 : Int32) 245 (if a2 = (w_123.1 281 (30 : Int32).toNatClampNeg) then (f_X12_whyNot_206 a1 a2 a3 (2 : Int32) w_123) else (f_X12_whyNot_206 a1 a2 a3 (-1 : Int32) w_123))))) else (if a1 = (6 : Int32) then (am_b2 (f_X12_isUser a2 w) fun r_131 w_129 => if r_131 = 0 then (f_X12_whyNot_231 a1 a2 a3 (0 : Int32) w_129) else (am_b2 (f_X12_degreesOfAll w_129) fun r_135 w_133 => if r_135 = 0 then (f_X12_whyNot_231 a1 a2 a3 (2 : Int32) w_133) else (f_X12_whyNot_231 a1 a2 a3 (-1 : Int32) w_133))) else (if a1 = (7 : Int32) then (am_b2 (f_X12_whyNotFiled a2 a3 w) fun r_139 w_137 => some (r_139, w_137)) else (am_b2 (f_X12_whyNotSwapped a2 a3 w) fun r_142 w_140 => some (r_142, w_140))))))))))
set_option maxRecDepth 100000 in
set_option maxHeartbeats 4000000 in
theorem k_X12_whyNot {G : am_G} {l : Launch} {a1 : Int32} {a2 : Int32} {a3 : Int32}  {w : am_S} {rr : Int32} {ww : am_S} (hf : f_X12_whyNot a1 a2 a3 w = some (rr, ww)) : am_Mi G l yX12_whyNot (Cond.code yX12_whyNot cX12_whyNot 4 (some .int) :: am_T) { frames := 7, cells := 0, slots := 0, locals := 448 } [.ref (G.1 + 271), .int a1, .int a2, .int a3] w rr ww := by
  refine Met.ofW (cc := cX12_whyNot) (maxL := 4) (ret := (some .int)) (by decide) rfl ?_
  intro p e s m args below meth c s₁ B hml hv
  obtain ⟨rfl, hx, hb, hr, hts, hown, hlocks, hK, hE, hH⟩ := am_begin B hv
  have hown : s.vm.findClass RX12 = some m.cls := hown
  show W p l e { frames := 7, cells := 0, slots := 0, locals := 448 } s m _ below meth c s.heap [] 0 0 _ _
  have P77 : ∀ (s0 : Int32) (w : am_S) (H : Heap) (locs : List Loc) (ls : Array Slot), f_X12_whyNot_77 a1 a2 a3 s0 w = some (rr, ww) → am_H G w s H locs → lv_has ls 4 [] → W p l e { frames := 7, cells := 0, slots := 0, locals := 448 } s m [.ref (G.1 + 271), .int a1, .int a2, .int a3].toArray below meth c H locs 0 0 (MQ below (va_Qi (fun (x : Int32) (u : am_S) => x = rr ∧ u = ww) (am_U G) (am_A G)) [.ref (G.1 + 271), .int a1, .int a2, .int a3].toArray s 0 0 (am_A G)) (F0 m 77 ls [.int s0]) := by
    intro s0 w H locs ls hf hH hl
    unfold f_X12_whyNot_77 at hf
    exact am_reti hx hb hr hlocks hH hf dX12_whyNot_77
  have P48 : ∀ (w : am_S) (H : Heap) (locs : List Loc) (ls : Array Slot), f_X12_whyNot_48 a1 a2 a3 w = some (rr, ww) → am_H G w s H locs → lv_has ls 4 [(0, .ref (G.1 + 271))] → W p l e { frames := 7, cells := 0, slots := 0, locals := 448 } s m [.ref (G.1 + 271), .int a1, .int a2, .int a3].toArray below meth c H locs 0 0 (MQ below (va_Qi (fun (x : Int32) (u : am_S) => x = rr ∧ u = ww) (am_U G) (am_A G)) [.ref (G.1 + 271), .int a1, .int a2, .int a3].toArray s 0 0 (am_A G)) (F0 m 48 ls []) := by
    intro w H locs ls hf hH hl
    unfold f_X12_whyNot_48 at hf
    refine lv_aload_n hx hb dX12_whyNot_48 rfl (lv_at hl 0 rfl) ?_
    obtain ⟨r_74, w_72, hq_73, hf⟩ := am_b2_some hf
    refine am_calli (r := r_74) (w' := w_72) (am_runV (n := 0) (As := []) (rest := []) ⟨hx, hb, hml, hown, hts⟩ hK hE hH (k_X12_isField hq_73) (am_gV am_q1514 am_q1516 am_qs59 am_q13 am_q1517) (am_o12 (p := 271) (by decide +kernel)) rfl ⟨rfl, rfl⟩ (by decide +kernel) ⟨Nat.le_of_ble_eq_true rfl, Nat.le_of_ble_eq_true rfl⟩ rfl hl.1 rfl (Nat.le_of_ble_eq_true rfl) ⟨Nat.zero_le _, Nat.zero_le _⟩ dX12_whyNot_49) hH (fun H locs hH => ?_)
    refine lv_if_ne (tgt := 59) hx hb dX12_whyNot_52 (by decide) (fun hc_75 => ?_) (fun hc_75 => ?_)
    · have hf := (if_neg hc_75).symm.trans hf
      refine lv_aload_n hx hb dX12_whyNot_59 rfl (lv_at hl 0 rfl) ?_
      refine lv_iconst (v := 0) hx hb dX12_whyNot_60 (by decide) ?_
      refine lv_aload_n hx hb dX12_whyNot_61 rfl (lv_at hl 0 rfl) ?_
      obtain ⟨r_78, w_76, hq_77, hf⟩ := am_b2_some hf
      refine am_calli (r := r_78) (w' := w_76) (am_runV (n := 0) (As := []) (rest := [.int (0 : Int32), .ref (G.1 + 271)]) ⟨hx, hb, hml, hown, hts⟩ hK hE hH (k_X12_slotMany hq_77) (am_gV am_q1518 am_q1520 am_qs60 am_q13 am_q1521) (am_o12 (p := 271) (by decide +kernel)) rfl ⟨rfl, rfl⟩ (by decide +kernel) ⟨Nat.le_of_ble_eq_true rfl, Nat.le_of_ble_eq_true rfl⟩ rfl hl.1 rfl (Nat.le_of_ble_eq_true rfl) ⟨Nat.zero_le _, Nat.zero_le _⟩ dX12_whyNot_62) hH (fun H locs hH => ?_)
      obtain ⟨r_81, w_79, hq_80, hf⟩ := am_b2_some hf
      refine am_calli (r := r_81) (w' := w_79) (am_runV (n := 2) (As := [.int (0 : Int32), .int r_78]) (rest := []) ⟨hx, hb, hml, hown, hts⟩ hK hE hH (k_X12_firstClear hq_80) (am_gV am_q1522 am_q1524 am_qs61 am_q13 am_q1525) (am_o12 (p := 271) (by decide +kernel)) rfl ⟨rfl, rfl⟩ (by decide +kernel) ⟨Nat.le_of_ble_eq_true rfl, Nat.le_of_ble_eq_true rfl⟩ rfl hl.1 rfl (Nat.le_of_ble_eq_true rfl) ⟨Nat.zero_le _, Nat.zero_le _⟩ dX12_whyNot_65) hH (fun H locs hH => ?_)
      refine lv_iconst (v := -1) hx hb dX12_whyNot_68 (by decide) ?_
      refine lv_icmp_ne (tgt := 76) hx hb dX12_whyNot_69 (by decide) (fun hc_82 => ?_) (fun hc_82 => ?_)
      · have hf := (if_neg hc_82).symm.trans hf
        refine lv_iconst (v := -1) hx hb dX12_whyNot_76 (by decide) ?_
        exact P77 (-1 : Int32) w_79 H locs ls hf hH (lv_sub hl [] rfl)
      · have hf := (if_pos hc_82).symm.trans hf
        refine lv_iconst (v := 2) hx hb dX12_whyNot_72 (by decide) ?_
        refine lv_goto (tgt := 77) hx hb dX12_whyNot_73 (by decide) ?_
        exact P77 (2 : Int32) w_79 H locs ls hf hH (lv_sub hl [] rfl)
    · have hf := (if_pos hc_75).symm.trans hf
      refine lv_iconst (v := 0) hx hb dX12_whyNot_55 (by decide) ?_
      refine lv_goto (tgt := 77) hx hb dX12_whyNot_56 (by decide) ?_
      exact P77 (0 : Int32) w_72 H locs ls hf hH (lv_sub hl [] rfl)
  have P103 : ∀ (s0 : Int32) (w : am_S) (H : Heap) (locs : List Loc) (ls : Array Slot), f_X12_whyNot_103 a1 a2 a3 s0 w = some (rr, ww) → am_H G w s H locs → lv_has ls 4 [] → W p l e { frames := 7, cells := 0, slots := 0, locals := 448 } s m [.ref (G.1 + 271), .int a1, .int a2, .int a3].toArray below meth c H locs 0 0 (MQ below (va_Qi (fun (x : Int32) (u : am_S) => x = rr ∧ u = ww) (am_U G) (am_A G)) [.ref (G.1 + 271), .int a1, .int a2, .int a3].toArray s 0 0 (am_A G)) (F0 m 103 ls [.int s0]) := by
    intro s0 w H locs ls hf hH hl
    unfold f_X12_whyNot_103 at hf
    exact am_reti hx hb hr hlocks hH hf dX12_whyNot_103
  have P129 : ∀ (s0 : Int32) (w : am_S) (H : Heap) (locs : List Loc) (ls : Array Slot), f_X12_whyNot_129 a1 a2 a3 s0 w = some (rr, ww) → am_H G w s H locs → lv_has ls 4 [] → W p l e { frames := 7, cells := 0, slots := 0, locals := 448 } s m [.ref (G.1 + 271), .int a1, .int a2, .int a3].toArray below meth c H locs 0 0 (MQ below (va_Qi (fun (x : Int32) (u : am_S) => x = rr ∧ u = ww) (am_U G) (am_A G)) [.ref (G.1 + 271), .int a1, .int a2, .int a3].toArray s 0 0 (am_A G)) (F0 m 129 ls [.int s0]) := by
    intro s0 w H locs ls hf hH hl
    unfold f_X12_whyNot_129 at hf
    exact am_reti hx hb hr hlocks hH hf dX12_whyNot_129
  have P164 : ∀ (s0 : Int32) (w : am_S) (H : Heap) (locs : List Loc) (ls : Array Slot), f_X12_whyNot_164 a1 a2 a3 s0 w = some (rr, ww) → am_H G w s H locs → lv_has ls 4 [] → W p l e { frames := 7, cells := 0, slots := 0, locals := 448 } s m [.ref (G.1 + 271), .int a1, .int a2, .int a3].toArray below meth c H locs 0 0 (MQ below (va_Qi (fun (x : Int32) (u : am_S) => x = rr ∧ u = ww) (am_U G) (am_A G)) [.ref (G.1 + 271), .int a1, .int a2, .int a3].toArray s 0 0 (am_A G)) (F0 m 164 ls [.int s0]) := by
    intro s0 w H locs ls hf hH hl
    unfold f_X12_whyNot_164 at hf
    exact am_reti hx hb hr hlocks hH hf dX12_whyNot_164
  have P146 : ∀ (w : am_S) (H : Heap) (locs : List Loc) (ls : Array Slot), f_X12_whyNot_146 a1 a2 a3 w = some (rr, ww) → am_H G w s H locs → lv_has ls 4 [] → W p l e { frames := 7, cells := 0, slots := 0, locals := 448 } s m [.ref (G.1 + 271), .int a1, .int a2, .int a3].toArray below meth c H locs 0 0 (MQ below (va_Qi (fun (x : Int32) (u : am_S) => x = rr ∧ u = ww) (am_U G) (am_A G)) [.ref (G.1 + 271), .int a1, .int a2, .int a3].toArray s 0 0 (am_A G)) (F0 m 146 ls []) := by
    intro w H locs ls hf hH hl
    unfold f_X12_whyNot_146 at hf
    refine lv_iconst (v := 0) hx hb dX12_whyNot_146 (by decide) ?_
    refine lv_goto (tgt := 164) hx hb dX12_whyNot_147 (by decide) ?_
    exact P164 (0 : Int32) w H locs ls hf hH (lv_sub hl [] rfl)
  have P206 : ∀ (s0 : Int32) (w : am_S) (H : Heap) (locs : List Loc) (ls : Array Slot), f_X12_whyNot_206 a1 a2 a3 s0 w = some (rr, ww) → am_H G w s H locs → lv_has ls 4 [] → W p l e { frames := 7, cells := 0, slots := 0, locals := 448 } s m [.ref (G.1 + 271), .int a1, .int a2, .int a3].toArray below meth c H locs 0 0 (MQ below (va_Qi (fun (x : Int32) (u : am_S) => x = rr ∧ u = ww) (am_U G) (am_A G)) [.ref (G.1 + 271), .int a1, .int a2, .int a3].toArray s 0 0 (am_A G)) (F0 m 206 ls [.int s0]) := by
    intro s0 w H locs ls hf hH hl
    unfold f_X12_whyNot_206 at hf
    exact am_reti hx hb hr hlocks hH hf dX12_whyNot_206
  have P231 : ∀ (s0 : Int32) (w : am_S) (H : Heap) (locs : List Loc) (ls : Array Slot), f_X12_whyNot_231 a1 a2 a3 s0 w = some (rr, ww) → am_H G w s H locs → lv_has ls 4 [] → W p l e { frames := 7, cells := 0, slots := 0, locals := 448 } s m [.ref (G.1 + 271), .int a1, .int a2, .int a3].toArray below meth c H locs 0 0 (MQ below (va_Qi (fun (x : Int32) (u : am_S) => x = rr ∧ u = ww) (am_U G) (am_A G)) [.ref (G.1 + 271), .int a1, .int a2, .int a3].toArray s 0 0 (am_A G)) (F0 m 231 ls [.int s0]) := by
    intro s0 w H locs ls hf hH hl
    unfold f_X12_whyNot_231 at hf
    exact am_reti hx hb hr hlocks hH hf dX12_whyNot_231
  refine am_enter (lv := [(0, .ref (G.1 + 271)), (1, .int a1), (2, .int a2), (3, .int a3)]) (Nat.le_of_ble_eq_true rfl) rfl (fun ls hl => ?_)
  unfold f_X12_whyNot at hf
  refine am_start hH (fun H locs hH => ?_)
  refine lv_iload_n hx hb dX12_whyNot_0 rfl (lv_at hl 1 rfl) ?_
  by_cases he_83 : a1 = (0 : Int32)
  · have hf := (if_pos he_83).symm.trans hf
    refine lv_tableIn (off := 47) (tgt := 48) hx hb dX12_whyNot_1 (by rw [he_83]; decide) (by rw [he_83]; decide) (by rw [he_83]; rfl) (by decide) ?_
    exact P48 w H locs ls hf hH (lv_sub hl [0] rfl)
  have hf := (if_neg he_83).symm.trans hf
  by_cases he_84 : a1 = (1 : Int32)
  · have hf := (if_pos he_84).symm.trans hf
    refine lv_tableIn (off := 47) (tgt := 48) hx hb dX12_whyNot_1 (by rw [he_84]; decide) (by rw [he_84]; decide) (by rw [he_84]; rfl) (by decide) ?_
    exact P48 w H locs ls hf hH (lv_sub hl [0] rfl)
  have hf := (if_neg he_84).symm.trans hf
  by_cases he_85 : a1 = (2 : Int32)
  · have hf := (if_pos he_85).symm.trans hf
    refine lv_tableIn (off := 77) (tgt := 78) hx hb dX12_whyNot_1 (by rw [he_85]; decide) (by rw [he_85]; decide) (by rw [he_85]; rfl) (by decide) ?_
    refine lv_aload_n hx hb dX12_whyNot_78 rfl (lv_at hl 0 rfl) ?_
    refine lv_iload_n hx hb dX12_whyNot_79 rfl (lv_at hl 2 rfl) ?_
    obtain ⟨r_93, w_91, hq_92, hf⟩ := am_b2_some hf
    refine am_calli (r := r_93) (w' := w_91) (am_runV (n := 1) (As := [.int a2]) (rest := []) ⟨hx, hb, hml, hown, hts⟩ hK hE hH (k_X12_isUser hq_92) (am_gV am_q1554 am_q1556 am_qs69 am_q13 am_q1557) (am_o12 (p := 271) (by decide +kernel)) rfl ⟨rfl, rfl⟩ (by decide +kernel) ⟨Nat.le_of_ble_eq_true rfl, Nat.le_of_ble_eq_true rfl⟩ rfl hl.1 rfl (Nat.le_of_ble_eq_true rfl) ⟨Nat.zero_le _, Nat.zero_le _⟩ dX12_whyNot_80) hH (fun H locs hH => ?_)
    refine lv_if_ne (tgt := 90) hx hb dX12_whyNot_83 (by decide) (fun hc_94 => ?_) (fun hc_94 => ?_)
    · have hf := (if_neg hc_94).symm.trans hf
      refine lv_aload_n hx hb dX12_whyNot_90 rfl (lv_at hl 0 rfl) ?_
      refine lv_iload_n hx hb dX12_whyNot_91 rfl (lv_at hl 2 rfl) ?_
      obtain ⟨r_97, w_95, hq_96, hf⟩ := am_b2_some hf
      refine am_calli (r := r_97) (w' := w_95) (am_runV (n := 1) (As := [.int a2]) (rest := []) ⟨hx, hb, hml, hown, hts⟩ hK hE hH (k_X12_isUnknown hq_96) (am_gV am_q1534 am_q1536 am_qs64 am_q13 am_q1537) (am_o12 (p := 271) (by decide +kernel)) rfl ⟨rfl, rfl⟩ (by decide +kernel) ⟨Nat.le_of_ble_eq_true rfl, Nat.le_of_ble_eq_true rfl⟩ rfl hl.1 rfl (Nat.le_of_ble_eq_true rfl) ⟨Nat.zero_le _, Nat.zero_le _⟩ dX12_whyNot_92) hH (fun H locs hH => ?_)
      refine lv_if_ne (tgt := 102) hx hb dX12_whyNot_95 (by decide) (fun hc_98 => ?_) (fun hc_98 => ?_)
      · have hf := (if_neg hc_98).symm.trans hf
        refine lv_iconst (v := -1) hx hb dX12_whyNot_102 (by decide) ?_
        exact P103 (-1 : Int32) w_95 H locs ls hf hH (lv_sub hl [] rfl)
      · have hf := (if_pos hc_98).symm.trans hf
        refine lv_iconst (v := 2) hx hb dX12_whyNot_98 (by decide) ?_
        refine lv_goto (tgt := 103) hx hb dX12_whyNot_99 (by decide) ?_
        exact P103 (2 : Int32) w_95 H locs ls hf hH (lv_sub hl [] rfl)
    · have hf := (if_pos hc_94).symm.trans hf
      refine lv_iconst (v := 0) hx hb dX12_whyNot_86 (by decide) ?_
      refine lv_goto (tgt := 103) hx hb dX12_whyNot_87 (by decide) ?_
      exact P103 (0 : Int32) w_91 H locs ls hf hH (lv_sub hl [] rfl)
  have hf := (if_neg he_85).symm.trans hf
  by_cases he_86 : a1 = (3 : Int32)
  · have hf := (if_pos he_86).symm.trans hf
    refine lv_tableIn (off := 103) (tgt := 104) hx hb dX12_whyNot_1 (by rw [he_86]; decide) (by rw [he_86]; decide) (by rw [he_86]; rfl) (by decide) ?_
    refine lv_aload_n hx hb dX12_whyNot_104 rfl (lv_at hl 0 rfl) ?_
    refine lv_iload_n hx hb dX12_whyNot_105 rfl (lv_at hl 2 rfl) ?_
    obtain ⟨r_101, w_99, hq_100, hf⟩ := am_b2_some hf
    refine am_calli (r := r_101) (w' := w_99) (am_runV (n := 1) (As := [.int a2]) (rest := []) ⟨hx, hb, hml, hown, hts⟩ hK hE hH (k_X12_isUser hq_100) (am_gV am_q1554 am_q1556 am_qs69 am_q13 am_q1557) (am_o12 (p := 271) (by decide +kernel)) rfl ⟨rfl, rfl⟩ (by decide +kernel) ⟨Nat.le_of_ble_eq_true rfl, Nat.le_of_ble_eq_true rfl⟩ rfl hl.1 rfl (Nat.le_of_ble_eq_true rfl) ⟨Nat.zero_le _, Nat.zero_le _⟩ dX12_whyNot_106) hH (fun H locs hH => ?_)
    refine lv_if_ne (tgt := 116) hx hb dX12_whyNot_109 (by decide) (fun hc_102 => ?_) (fun hc_102 => ?_)
    · have hf := (if_neg hc_102).symm.trans hf
      refine lv_aload_n hx hb dX12_whyNot_116 rfl (lv_at hl 0 rfl) ?_
      refine lv_iload_n hx hb dX12_whyNot_117 rfl (lv_at hl 2 rfl) ?_
      obtain ⟨r_105, w_103, hq_104, hf⟩ := am_b2_some hf
      refine am_calli (r := r_105) (w' := w_103) (am_runV (n := 1) (As := [.int a2]) (rest := []) ⟨hx, hb, hml, hown, hts⟩ hK hE hH (k_X12_isUnknown hq_104) (am_gV am_q1534 am_q1536 am_qs64 am_q13 am_q1537) (am_o12 (p := 271) (by decide +kernel)) rfl ⟨rfl, rfl⟩ (by decide +kernel) ⟨Nat.le_of_ble_eq_true rfl, Nat.le_of_ble_eq_true rfl⟩ rfl hl.1 rfl (Nat.le_of_ble_eq_true rfl) ⟨Nat.zero_le _, Nat.zero_le _⟩ dX12_whyNot_118) hH (fun H locs hH => ?_)
      refine lv_if_eq (tgt := 128) hx hb dX12_whyNot_121 (by decide) (fun hc_106 => ?_) (fun hc_106 => ?_)
      · have hf := (if_pos hc_106).symm.trans hf
        refine lv_iconst (v := -1) hx hb dX12_whyNot_128 (by decide) ?_
        exact P129 (-1 : Int32) w_103 H locs ls hf hH (lv_sub hl [] rfl)
      · have hf := (if_neg hc_106).symm.trans hf
        refine lv_iconst (v := 2) hx hb dX12_whyNot_124 (by decide) ?_
        refine lv_goto (tgt := 129) hx hb dX12_whyNot_125 (by decide) ?_
        exact P129 (2 : Int32) w_103 H locs ls hf hH (lv_sub hl [] rfl)
    · have hf := (if_pos hc_102).symm.trans hf
      refine lv_iconst (v := 0) hx hb dX12_whyNot_112 (by decide) ?_
      refine lv_goto (tgt := 129) hx hb dX12_whyNot_113 (by decide) ?_
      exact P129 (0 : Int32) w_99 H locs ls hf hH (lv_sub hl [] rfl)
  have hf := (if_neg he_86).symm.trans hf
  by_cases he_87 : a1 = (4 : Int32)
  · have hf := (if_pos he_87).symm.trans hf
    refine lv_tableIn (off := 129) (tgt := 130) hx hb dX12_whyNot_1 (by rw [he_87]; decide) (by rw [he_87]; decide) (by rw [he_87]; rfl) (by decide) ?_
    refine lv_aload_n hx hb dX12_whyNot_130 rfl (lv_at hl 0 rfl) ?_
    refine lv_iload_n hx hb dX12_whyNot_131 rfl (lv_at hl 2 rfl) ?_
    obtain ⟨r_109, w_107, hq_108, hf⟩ := am_b2_some hf
    refine am_calli (r := r_109) (w' := w_107) (am_runV (n := 1) (As := [.int a2]) (rest := []) ⟨hx, hb, hml, hown, hts⟩ hK hE hH (k_X12_isUser hq_108) (am_gV am_q1554 am_q1556 am_qs69 am_q13 am_q1557) (am_o12 (p := 271) (by decide +kernel)) rfl ⟨rfl, rfl⟩ (by decide +kernel) ⟨Nat.le_of_ble_eq_true rfl, Nat.le_of_ble_eq_true rfl⟩ rfl hl.1 rfl (Nat.le_of_ble_eq_true rfl) ⟨Nat.zero_le _, Nat.zero_le _⟩ dX12_whyNot_132) hH (fun H locs hH => ?_)
    refine lv_if_eq (tgt := 146) hx hb dX12_whyNot_135 (by decide) (fun hc_110 => ?_) (fun hc_110 => ?_)
    · have hf := (if_pos hc_110).symm.trans hf
      exact P146 w_107 H locs ls hf hH (lv_sub hl [] rfl)
    · have hf := (if_neg hc_110).symm.trans hf
      refine lv_aload_n hx hb dX12_whyNot_138 rfl (lv_at hl 0 rfl) ?_
      refine lv_iload_n hx hb dX12_whyNot_139 rfl (lv_at hl 3 rfl) ?_
      obtain ⟨r_113, w_111, hq_112, hf⟩ := am_b2_some hf
      refine am_calli (r := r_113) (w' := w_111) (am_runV (n := 1) (As := [.int a3]) (rest := []) ⟨hx, hb, hml, hown, hts⟩ hK hE hH (k_X12_isSlot hq_112) (am_gV am_q1558 am_q1560 am_qs70 am_q13 am_q1561) (am_o12 (p := 271) (by decide +kernel)) rfl ⟨rfl, rfl⟩ (by decide +kernel) ⟨Nat.le_of_ble_eq_true rfl, Nat.le_of_ble_eq_true rfl⟩ rfl hl.1 rfl (Nat.le_of_ble_eq_true rfl) ⟨Nat.zero_le _, Nat.zero_le _⟩ dX12_whyNot_140) hH (fun H locs hH => ?_)
      refine lv_if_ne (tgt := 150) hx hb dX12_whyNot_143 (by decide) (fun hc_114 => ?_) (fun hc_114 => ?_)
      · have hf := (if_neg hc_114).symm.trans hf
        refine lv_aload_n hx hb dX12_whyNot_150 rfl (lv_at hl 0 rfl) ?_
        refine lv_iload_n hx hb dX12_whyNot_151 rfl (lv_at hl 2 rfl) ?_
        refine lv_iload_n hx hb dX12_whyNot_152 rfl (lv_at hl 3 rfl) ?_
        obtain ⟨r_117, w_115, hq_116, hf⟩ := am_b2_some hf
        refine am_calli (r := r_117) (w' := w_115) (am_runV (n := 2) (As := [.int a2, .int a3]) (rest := []) ⟨hx, hb, hml, hown, hts⟩ hK hE hH (k_X12_isOf hq_116) (am_gV am_q1562 am_q1564 am_qs71 am_q13 am_q1565) (am_o12 (p := 271) (by decide +kernel)) rfl ⟨rfl, rfl⟩ (by decide +kernel) ⟨Nat.le_of_ble_eq_true rfl, Nat.le_of_ble_eq_true rfl⟩ rfl hl.1 rfl (Nat.le_of_ble_eq_true rfl) ⟨Nat.zero_le _, Nat.zero_le _⟩ dX12_whyNot_153) hH (fun H locs hH => ?_)
        refine lv_if_ne (tgt := 163) hx hb dX12_whyNot_156 (by decide) (fun hc_118 => ?_) (fun hc_118 => ?_)
        · have hf := (if_neg hc_118).symm.trans hf
          refine lv_iconst (v := -1) hx hb dX12_whyNot_163 (by decide) ?_
          exact P164 (-1 : Int32) w_115 H locs ls hf hH (lv_sub hl [] rfl)
        · have hf := (if_pos hc_118).symm.trans hf
          refine lv_iconst (v := 1) hx hb dX12_whyNot_159 (by decide) ?_
          refine lv_goto (tgt := 164) hx hb dX12_whyNot_160 (by decide) ?_
          exact P164 (1 : Int32) w_115 H locs ls hf hH (lv_sub hl [] rfl)
      · have hf := (if_pos hc_114).symm.trans hf
        exact P146 w_111 H locs ls hf hH (lv_sub hl [] rfl)
  have hf := (if_neg he_87).symm.trans hf
  by_cases he_88 : a1 = (5 : Int32)
  · have hf := (if_pos he_88).symm.trans hf
    refine lv_tableIn (off := 164) (tgt := 165) hx hb dX12_whyNot_1 (by rw [he_88]; decide) (by rw [he_88]; decide) (by rw [he_88]; rfl) (by decide) ?_
    refine lv_aload_n hx hb dX12_whyNot_165 rfl (lv_at hl 0 rfl) ?_
    obtain ⟨r_121, w_119, hq_120, hf⟩ := am_b2_some hf
    refine am_calli (r := r_121) (w' := w_119) (am_runV (n := 0) (As := []) (rest := []) ⟨hx, hb, hml, hown, hts⟩ hK hE hH (k_X12_isField hq_120) (am_gV am_q1514 am_q1516 am_qs59 am_q13 am_q1517) (am_o12 (p := 271) (by decide +kernel)) rfl ⟨rfl, rfl⟩ (by decide +kernel) ⟨Nat.le_of_ble_eq_true rfl, Nat.le_of_ble_eq_true rfl⟩ rfl hl.1 rfl (Nat.le_of_ble_eq_true rfl) ⟨Nat.zero_le _, Nat.zero_le _⟩ dX12_whyNot_166) hH (fun H locs hH => ?_)
    refine lv_if_ne (tgt := 176) hx hb dX12_whyNot_169 (by decide) (fun hc_122 => ?_) (fun hc_122 => ?_)
    · have hf := (if_neg hc_122).symm.trans hf
      refine lv_iload_n hx hb dX12_whyNot_176 rfl (lv_at hl 2 rfl) ?_
      refine lv_iconst (v := 0) hx hb dX12_whyNot_177 (by decide) ?_
      refine lv_bipush (v := 99) hx hb dX12_whyNot_178 (by decide) ?_
      obtain ⟨r_125, w_123, hq_124, hf⟩ := am_b2_some hf
      refine am_calli (r := r_125) (w' := w_123) (am_runS (n := 3) (As := [.int a2, .int (0 : Int32), .int (99 : Int32)]) (rest := []) ⟨hx, hb, hml, hown, hts⟩ hK hE hH (k_X12_in hq_124) (am_gS am_q1425 am_q1426 am_q13 am_q1427) ⟨rfl, rfl⟩ (by decide +kernel) ⟨Nat.le_of_ble_eq_true rfl, Nat.le_of_ble_eq_true rfl⟩ rfl hl.1 rfl (Nat.le_of_ble_eq_true rfl) ⟨Nat.zero_le _, Nat.zero_le _⟩ dX12_whyNot_180) hH (fun H locs hH => ?_)
      refine lv_if_ne (tgt := 190) hx hb dX12_whyNot_183 (by decide) (fun hc_126 => ?_) (fun hc_126 => ?_)
      · have hf := (if_neg hc_126).symm.trans hf
        refine lv_iload_n hx hb dX12_whyNot_190 rfl (lv_at hl 2 rfl) ?_
        refine lv_aload_n hx hb dX12_whyNot_191 rfl (lv_at hl 0 rfl) ?_
        refine am_get hx hb hts hK hown hH (am_o12 (p := 271) (by decide +kernel)) rfl am_inX12 17 (by decide) am_q1336 (v := .ref (G.1 + 281)) rfl dX12_whyNot_192 ?_
        refine lv_bipush (v := 30) hx hb dX12_whyNot_195 (by decide) ?_
        obtain ⟨hi_127, hf⟩ := am_chk_some hf
        refine am_iald hx hb hK hH (am_ai_of (N := 245) (by decide +kernel)) hi_127 dX12_whyNot_197 ?_
        refine lv_icmp_ne (tgt := 205) hx hb dX12_whyNot_198 (by decide) (fun hc_128 => ?_) (fun hc_128 => ?_)
        · have hf := (if_neg hc_128).symm.trans hf
          refine lv_iconst (v := -1) hx hb dX12_whyNot_205 (by decide) ?_
          exact P206 (-1 : Int32) w_123 H locs ls hf hH (lv_sub hl [] rfl)
        · have hf := (if_pos hc_128).symm.trans hf
          refine lv_iconst (v := 2) hx hb dX12_whyNot_201 (by decide) ?_
          refine lv_goto (tgt := 206) hx hb dX12_whyNot_202 (by decide) ?_
          exact P206 (2 : Int32) w_123 H locs ls hf hH (lv_sub hl [] rfl)
      · have hf := (if_pos hc_126).symm.trans hf
        refine lv_iconst (v := 1) hx hb dX12_whyNot_186 (by decide) ?_
        refine lv_goto (tgt := 206) hx hb dX12_whyNot_187 (by decide) ?_
        exact P206 (1 : Int32) w_123 H locs ls hf hH (lv_sub hl [] rfl)
    · have hf := (if_pos hc_122).symm.trans hf
      refine lv_iconst (v := 0) hx hb dX12_whyNot_172 (by decide) ?_
      refine lv_goto (tgt := 206) hx hb dX12_whyNot_173 (by decide) ?_
      exact P206 (0 : Int32) w_119 H locs ls hf hH (lv_sub hl [] rfl)
  have hf := (if_neg he_88).symm.trans hf
  by_cases he_89 : a1 = (6 : Int32)
  · have hf := (if_pos he_89).symm.trans hf
    refine lv_tableIn (off := 206) (tgt := 207) hx hb dX12_whyNot_1 (by rw [he_89]; decide) (by rw [he_89]; decide) (by rw [he_89]; rfl) (by decide) ?_
    refine lv_aload_n hx hb dX12_whyNot_207 rfl (lv_at hl 0 rfl) ?_
    refine lv_iload_n hx hb dX12_whyNot_208 rfl (lv_at hl 2 rfl) ?_
    obtain ⟨r_131, w_129, hq_130, hf⟩ := am_b2_some hf
    refine am_calli (r := r_131) (w' := w_129) (am_runV (n := 1) (As := [.int a2]) (rest := []) ⟨hx, hb, hml, hown, hts⟩ hK hE hH (k_X12_isUser hq_130) (am_gV am_q1554 am_q1556 am_qs69 am_q13 am_q1557) (am_o12 (p := 271) (by decide +kernel)) rfl ⟨rfl, rfl⟩ (by decide +kernel) ⟨Nat.le_of_ble_eq_true rfl, Nat.le_of_ble_eq_true rfl⟩ rfl hl.1 rfl (Nat.le_of_ble_eq_true rfl) ⟨Nat.zero_le _, Nat.zero_le _⟩ dX12_whyNot_209) hH (fun H locs hH => ?_)
    refine lv_if_ne (tgt := 219) hx hb dX12_whyNot_212 (by decide) (fun hc_132 => ?_) (fun hc_132 => ?_)
    · have hf := (if_neg hc_132).symm.trans hf
      refine lv_aload_n hx hb dX12_whyNot_219 rfl (lv_at hl 0 rfl) ?_
      obtain ⟨r_135, w_133, hq_134, hf⟩ := am_b2_some hf
      refine am_calli (r := r_135) (w' := w_133) (am_runV (n := 0) (As := []) (rest := []) ⟨hx, hb, hml, hown, hts⟩ hK hE hH (k_X12_degreesOfAll hq_134) (am_gV am_q1574 am_q1576 am_qs74 am_q13 am_q1577) (am_o12 (p := 271) (by decide +kernel)) rfl ⟨rfl, rfl⟩ (by decide +kernel) ⟨Nat.le_of_ble_eq_true rfl, Nat.le_of_ble_eq_true rfl⟩ rfl hl.1 rfl (Nat.le_of_ble_eq_true rfl) ⟨Nat.zero_le _, Nat.zero_le _⟩ dX12_whyNot_220) hH (fun H locs hH => ?_)
      refine lv_if_ne (tgt := 230) hx hb dX12_whyNot_223 (by decide) (fun hc_136 => ?_) (fun hc_136 => ?_)
      · have hf := (if_neg hc_136).symm.trans hf
        refine lv_iconst (v := -1) hx hb dX12_whyNot_230 (by decide) ?_
        exact P231 (-1 : Int32) w_133 H locs ls hf hH (lv_sub hl [] rfl)
      · have hf := (if_pos hc_136).symm.trans hf
        refine lv_iconst (v := 2) hx hb dX12_whyNot_226 (by decide) ?_
        refine lv_goto (tgt := 231) hx hb dX12_whyNot_227 (by decide) ?_
        exact P231 (2 : Int32) w_133 H locs ls hf hH (lv_sub hl [] rfl)
    · have hf := (if_pos hc_132).symm.trans hf
      refine lv_iconst (v := 0) hx hb dX12_whyNot_215 (by decide) ?_
      refine lv_goto (tgt := 231) hx hb dX12_whyNot_216 (by decide) ?_
      exact P231 (0 : Int32) w_129 H locs ls hf hH (lv_sub hl [] rfl)
  have hf := (if_neg he_89).symm.trans hf
  by_cases he_90 : a1 = (7 : Int32)
  · have hf := (if_pos he_90).symm.trans hf
    refine lv_tableIn (off := 231) (tgt := 232) hx hb dX12_whyNot_1 (by rw [he_90]; decide) (by rw [he_90]; decide) (by rw [he_90]; rfl) (by decide) ?_
    refine lv_aload_n hx hb dX12_whyNot_232 rfl (lv_at hl 0 rfl) ?_
    refine lv_iload_n hx hb dX12_whyNot_233 rfl (lv_at hl 2 rfl) ?_
    refine lv_iload_n hx hb dX12_whyNot_234 rfl (lv_at hl 3 rfl) ?_
    obtain ⟨r_139, w_137, hq_138, hf⟩ := am_b2_some hf
    refine am_calli (r := r_139) (w' := w_137) (am_runV (n := 2) (As := [.int a2, .int a3]) (rest := []) ⟨hx, hb, hml, hown, hts⟩ hK hE hH (k_X12_whyNotFiled hq_138) (am_gV am_q1578 am_q1580 am_qs75 am_q13 am_q1581) (am_o12 (p := 271) (by decide +kernel)) rfl ⟨rfl, rfl⟩ (by decide +kernel) ⟨Nat.le_of_ble_eq_true rfl, Nat.le_of_ble_eq_true rfl⟩ rfl hl.1 rfl (Nat.le_of_ble_eq_true rfl) ⟨Nat.zero_le _, Nat.zero_le _⟩ dX12_whyNot_235) hH (fun H locs hH => ?_)
    exact am_reti hx hb hr hlocks hH hf dX12_whyNot_238
  have hf := (if_neg he_90).symm.trans hf
  have nhe_83 := am_tne (k := 0) (0 : Int32) (by decide) he_83
  have nhe_84 := am_tne (k := 1) (1 : Int32) (by decide) he_84
  have nhe_85 := am_tne (k := 2) (2 : Int32) (by decide) he_85
  have nhe_86 := am_tne (k := 3) (3 : Int32) (by decide) he_86
  have nhe_87 := am_tne (k := 4) (4 : Int32) (by decide) he_87
  have nhe_88 := am_tne (k := 5) (5 : Int32) (by decide) he_88
  have nhe_89 := am_tne (k := 6) (6 : Int32) (by decide) he_89
  have nhe_90 := am_tne (k := 7) (7 : Int32) (by decide) he_90
  refine lv_tableOut (tgt := 239) hx hb dX12_whyNot_1 (by omega) (by decide) ?_
  refine lv_aload_n hx hb dX12_whyNot_239 rfl (lv_at hl 0 rfl) ?_
  refine lv_iload_n hx hb dX12_whyNot_240 rfl (lv_at hl 2 rfl) ?_
  refine lv_iload_n hx hb dX12_whyNot_241 rfl (lv_at hl 3 rfl) ?_
  obtain ⟨r_142, w_140, hq_141, hf⟩ := am_b2_some hf
  refine am_calli (r := r_142) (w' := w_140) (am_runV (n := 2) (As := [.int a2, .int a3]) (rest := []) ⟨hx, hb, hml, hown, hts⟩ hK hE hH (k_X12_whyNotSwapped hq_141) (am_gV am_q1586 am_q1588 am_qs77 am_q13 am_q1589) (am_o12 (p := 271) (by decide +kernel)) rfl ⟨rfl, rfl⟩ (by decide +kernel) ⟨Nat.le_of_ble_eq_true rfl, Nat.le_of_ble_eq_true rfl⟩ rfl hl.1 rfl (Nat.le_of_ble_eq_true rfl) ⟨Nat.zero_le _, Nat.zero_le _⟩ dX12_whyNot_242) hH (fun H locs hH => ?_)
  exact am_reti hx hb hr hlocks hH hf dX12_whyNot_245

def f_X12_keep_54b  (x1 : Int32) (w : am_S) : Option (am_S ⊕ (Int32 × am_S)) :=
  if (245 : Int32) ≤ x1 then (am_x (am_v (am_pi w 271 23 ((w.1 271 23) + (1 : Int32))) fun (w_16 : am_S) => some w_16)) else (am_chk x1 245 (am_chk (((245 : Int32) * (w.1 271 23)) + x1) 9800 (am_v (am_pi w 285 (((245 : Int32) * (w.1 271 23)) + x1).toNatClampNeg (w.1 281 x1.toNatClampNeg)) fun (w_19 : am_S) => am_v (x1 + (1 : Int32)) fun (x1_20 : Int32) => some (.inr (x1_20, w_19)))))
def f_X12_keep_54  (x1 : Int32) (w : am_S) : Option am_S :=
  am_loop (fun (st : (Int32 × am_S)) => f_X12_keep_54b st.1 st.2) am_fuel (x1, w)
def f_X12_keep_52  (w : am_S) : Option am_S :=
  f_X12_keep_54 (0 : Int32) w
def f_X12_keep_13b  (x1 : Int32) (w : am_S) : Option (am_S ⊕ (Int32 × am_S)) :=
  if (9800 : Int32) ≤ x1 then (am_x (am_v (am_pi w 271 23 ((w.1 271 23) - (1 : Int32))) fun (w_23 : am_S) => f_X12_keep_52 w_23)) else (am_chk x1 9800 (am_chk (x1 - (245 : Int32)) 9800 (am_v (am_pi w 285 (x1 - (245 : Int32)).toNatClampNeg (w.1 285 x1.toNatClampNeg)) fun (w_26 : am_S) => am_v (x1 + (1 : Int32)) fun (x1_27 : Int32) => some (.inr (x1_27, w_26)))))
def f_X12_keep_13  (x1 : Int32) (w : am_S) : Option am_S :=
  am_loop (fun (st : (Int32 × am_S)) => f_X12_keep_13b st.1 st.2) am_fuel (x1, w)
def f_X12_keep  (w : am_S) : Option am_S :=
  if (w.1 271 23) = (40 : Int32) then (f_X12_keep_13 (245 : Int32) w) else (f_X12_keep_52 w)
set_option maxRecDepth 100000 in
set_option maxHeartbeats 4000000 in
theorem k_X12_keep {G : am_G} {l : Launch}   {w : am_S} {ww : am_S} (hf : f_X12_keep  w = some ww) : am_Mv G l yX12_keep (Cond.code yX12_keep cX12_keep 2 none :: am_T) { frames := 0, cells := 0, slots := 0, locals := 0 } [.ref (G.1 + 271)] w ww := by
  refine Met.ofW (cc := cX12_keep) (maxL := 2) (ret := none) (by decide) rfl ?_
  intro p e s m args below meth c s₁ B hml hv
  obtain ⟨rfl, hx, hb, hr, hts, hown, hlocks, hK, hE, hH⟩ := am_begin B hv
  have hown : s.vm.findClass RX12 = some m.cls := hown
  show W p l e { frames := 0, cells := 0, slots := 0, locals := 0 } s m _ below meth c s.heap [] 0 0 _ _
  have P54 : ∀ (n1 : Nat) (x1 : Int32) (w : am_S) (H : Heap) (locs : List Loc) (ls : Array Slot), am_loop (fun (st : (Int32 × am_S)) => f_X12_keep_54b st.1 st.2) n1 (x1, w) = some ww → am_H G w s H locs → lv_has ls 2 [(0, .ref (G.1 + 271)), (1, .int x1)] → W p l e { frames := 0, cells := 0, slots := 0, locals := 0 } s m [.ref (G.1 + 271)].toArray below meth c H locs 0 0 (MQ below (va_Qv (fun (u : am_S) => u = ww) (am_U G) (am_A G)) [.ref (G.1 + 271)].toArray s 0 0 (am_A G)) (F0 m 54 ls []) := by
    intro n1
    induction n1 with
    | zero =>
      intro x1 w H locs ls hf hH hl
      exact (am_loop_zero hf).elim
    | succ n1 ih1 =>
      intro x1 w H locs ls hf hH hl
      obtain ⟨z1, hf, hk1⟩ := am_loop_succ hf
      have hf : f_X12_keep_54b x1 w = some z1 := hf
      unfold f_X12_keep_54b at hf
      refine lv_iload_n hx hb dX12_keep_54 rfl (lv_at hl 1 rfl) ?_
      refine lv_sipush (v := 245) hx hb dX12_keep_55 (by decide) ?_
      refine lv_icmp_ge (tgt := 88) hx hb dX12_keep_58 (by decide) (fun hc_14 => ?_) (fun hc_14 => ?_)
      · have hf := (if_pos hc_14).symm.trans hf
        obtain ⟨y_15, hf, hzy_15⟩ := am_x_some hf
        rw [hzy_15] at hk1
        have hf := hf.trans (congrArg some (show y_15 = ww from hk1))
        refine lv_aload_n hx hb dX12_keep_88 rfl (lv_at hl 0 rfl) ?_
        refine lv_dup hx hb dX12_keep_89 rfl ?_
        refine am_get hx hb hts hK hown hH (am_o12 (p := 271) (by decide +kernel)) rfl am_inX12 23 (by decide) am_q1342 (v := .int (w.1 271 23)) rfl dX12_keep_90 ?_
        refine lv_iconst (v := 1) hx hb dX12_keep_93 (by decide) ?_
        refine lv_iadd hx hb dX12_keep_94 ?_
        obtain ⟨w_16, hw_16, hf⟩ := am_v_some hf
        refine am_puti hx hb hts hK hown hH (am_o12 (p := 271) (by decide +kernel)) rfl am_inX12 tyX12 tyX12_ok nmX12 23 (by decide) am_q1342 rfl rfl rfl (fun _ _ => Nat.le_of_ble_eq_true rfl) (fun _ _ _ => rfl) dX12_keep_95 (fun H locs hH => ?_)
        rw [← hw_16] at hH
        exact am_retv hx hb hr hlocks hH hf dX12_keep_98
      · have hf := (if_neg hc_14).symm.trans hf
        refine lv_aload_n hx hb dX12_keep_61 rfl (lv_at hl 0 rfl) ?_
        refine am_get hx hb hts hK hown hH (am_o12 (p := 271) (by decide +kernel)) rfl am_inX12 22 (by decide) am_q1341 (v := .ref (G.1 + 285)) rfl dX12_keep_62 ?_
        refine lv_sipush (v := 245) hx hb dX12_keep_65 (by decide) ?_
        refine lv_aload_n hx hb dX12_keep_68 rfl (lv_at hl 0 rfl) ?_
        refine am_get hx hb hts hK hown hH (am_o12 (p := 271) (by decide +kernel)) rfl am_inX12 23 (by decide) am_q1342 (v := .int (w.1 271 23)) rfl dX12_keep_69 ?_
        refine lv_imul hx hb dX12_keep_72 ?_
        refine lv_iload_n hx hb dX12_keep_73 rfl (lv_at hl 1 rfl) ?_
        refine lv_iadd hx hb dX12_keep_74 ?_
        refine lv_aload_n hx hb dX12_keep_75 rfl (lv_at hl 0 rfl) ?_
        refine am_get hx hb hts hK hown hH (am_o12 (p := 271) (by decide +kernel)) rfl am_inX12 17 (by decide) am_q1336 (v := .ref (G.1 + 281)) rfl dX12_keep_76 ?_
        refine lv_iload_n hx hb dX12_keep_79 rfl (lv_at hl 1 rfl) ?_
        obtain ⟨hi_17, hf⟩ := am_chk_some hf
        refine am_iald hx hb hK hH (am_ai_of (N := 245) (by decide +kernel)) hi_17 dX12_keep_80 ?_
        obtain ⟨hi_18, hf⟩ := am_chk_some hf
        obtain ⟨w_19, hw_19, hf⟩ := am_v_some hf
        refine am_iast hx hb hK hH (am_ai_of (N := 9800) (by decide +kernel)) hi_18 dX12_keep_81 (fun H locs hH => ?_)
        rw [← hw_19] at hH
        obtain ⟨x1_20, hx1_20, hf⟩ := am_v_some hf
        refine lv_iinc (v := x1_20) (lv' := [(1, .int x1_20), (0, .ref (G.1 + 271))]) hx hb dX12_keep_82 hl (k := 1) rfl (by rw [hx1_20]; rfl) (by decide) rfl (fun ls hl => ?_)
        refine lv_goto (tgt := 54) hx hb dX12_keep_85 (by decide) ?_
        obtain rfl := Option.some.inj hf
        exact ih1 x1_20 w_19 H locs ls hk1 hH (lv_sub hl [1, 0] rfl)
  have P52 : ∀ (w : am_S) (H : Heap) (locs : List Loc) (ls : Array Slot), f_X12_keep_52 w = some ww → am_H G w s H locs → lv_has ls 2 [(0, .ref (G.1 + 271))] → W p l e { frames := 0, cells := 0, slots := 0, locals := 0 } s m [.ref (G.1 + 271)].toArray below meth c H locs 0 0 (MQ below (va_Qv (fun (u : am_S) => u = ww) (am_U G) (am_A G)) [.ref (G.1 + 271)].toArray s 0 0 (am_A G)) (F0 m 52 ls []) := by
    intro w H locs ls hf hH hl
    unfold f_X12_keep_52 at hf
    refine lv_iconst (v := 0) hx hb dX12_keep_52 (by decide) ?_
    refine lv_istore_n (lv' := [(1, .int (0 : Int32)), (0, .ref (G.1 + 271))]) hx hb dX12_keep_53 rfl hl (by decide) rfl (fun ls hl => ?_)
    exact P54 am_fuel (0 : Int32) w H locs ls hf hH (lv_sub hl [1, 0] rfl)
  have P13 : ∀ (n1 : Nat) (x1 : Int32) (w : am_S) (H : Heap) (locs : List Loc) (ls : Array Slot), am_loop (fun (st : (Int32 × am_S)) => f_X12_keep_13b st.1 st.2) n1 (x1, w) = some ww → am_H G w s H locs → lv_has ls 2 [(0, .ref (G.1 + 271)), (1, .int x1)] → W p l e { frames := 0, cells := 0, slots := 0, locals := 0 } s m [.ref (G.1 + 271)].toArray below meth c H locs 0 0 (MQ below (va_Qv (fun (u : am_S) => u = ww) (am_U G) (am_A G)) [.ref (G.1 + 271)].toArray s 0 0 (am_A G)) (F0 m 13 ls []) := by
    intro n1
    induction n1 with
    | zero =>
      intro x1 w H locs ls hf hH hl
      exact (am_loop_zero hf).elim
    | succ n1 ih1 =>
      intro x1 w H locs ls hf hH hl
      obtain ⟨z1, hf, hk1⟩ := am_loop_succ hf
      have hf : f_X12_keep_13b x1 w = some z1 := hf
      unfold f_X12_keep_13b at hf
      refine lv_iload_n hx hb dX12_keep_13 rfl (lv_at hl 1 rfl) ?_
      refine lv_sipush (v := 9800) hx hb dX12_keep_14 (by decide) ?_
      refine lv_icmp_ge (tgt := 42) hx hb dX12_keep_17 (by decide) (fun hc_21 => ?_) (fun hc_21 => ?_)
      · have hf := (if_pos hc_21).symm.trans hf
        obtain ⟨y_22, hf, hzy_22⟩ := am_x_some hf
        rw [hzy_22] at hk1
        have hf := hf.trans (congrArg some (show y_22 = ww from hk1))
        refine lv_aload_n hx hb dX12_keep_42 rfl (lv_at hl 0 rfl) ?_
        refine lv_dup hx hb dX12_keep_43 rfl ?_
        refine am_get hx hb hts hK hown hH (am_o12 (p := 271) (by decide +kernel)) rfl am_inX12 23 (by decide) am_q1342 (v := .int (w.1 271 23)) rfl dX12_keep_44 ?_
        refine lv_iconst (v := 1) hx hb dX12_keep_47 (by decide) ?_
        refine lv_isub hx hb dX12_keep_48 ?_
        obtain ⟨w_23, hw_23, hf⟩ := am_v_some hf
        refine am_puti hx hb hts hK hown hH (am_o12 (p := 271) (by decide +kernel)) rfl am_inX12 tyX12 tyX12_ok nmX12 23 (by decide) am_q1342 rfl rfl rfl (fun _ _ => Nat.le_of_ble_eq_true rfl) (fun _ _ _ => rfl) dX12_keep_49 (fun H locs hH => ?_)
        rw [← hw_23] at hH
        exact P52 w_23 H locs ls hf hH (lv_sub hl [0] rfl)
      · have hf := (if_neg hc_21).symm.trans hf
        refine lv_aload_n hx hb dX12_keep_20 rfl (lv_at hl 0 rfl) ?_
        refine am_get hx hb hts hK hown hH (am_o12 (p := 271) (by decide +kernel)) rfl am_inX12 22 (by decide) am_q1341 (v := .ref (G.1 + 285)) rfl dX12_keep_21 ?_
        refine lv_iload_n hx hb dX12_keep_24 rfl (lv_at hl 1 rfl) ?_
        refine lv_sipush (v := 245) hx hb dX12_keep_25 (by decide) ?_
        refine lv_isub hx hb dX12_keep_28 ?_
        refine lv_aload_n hx hb dX12_keep_29 rfl (lv_at hl 0 rfl) ?_
        refine am_get hx hb hts hK hown hH (am_o12 (p := 271) (by decide +kernel)) rfl am_inX12 22 (by decide) am_q1341 (v := .ref (G.1 + 285)) rfl dX12_keep_30 ?_
        refine lv_iload_n hx hb dX12_keep_33 rfl (lv_at hl 1 rfl) ?_
        obtain ⟨hi_24, hf⟩ := am_chk_some hf
        refine am_iald hx hb hK hH (am_ai_of (N := 9800) (by decide +kernel)) hi_24 dX12_keep_34 ?_
        obtain ⟨hi_25, hf⟩ := am_chk_some hf
        obtain ⟨w_26, hw_26, hf⟩ := am_v_some hf
        refine am_iast hx hb hK hH (am_ai_of (N := 9800) (by decide +kernel)) hi_25 dX12_keep_35 (fun H locs hH => ?_)
        rw [← hw_26] at hH
        obtain ⟨x1_27, hx1_27, hf⟩ := am_v_some hf
        refine lv_iinc (v := x1_27) (lv' := [(1, .int x1_27), (0, .ref (G.1 + 271))]) hx hb dX12_keep_36 hl (k := 1) rfl (by rw [hx1_27]; rfl) (by decide) rfl (fun ls hl => ?_)
        refine lv_goto (tgt := 13) hx hb dX12_keep_39 (by decide) ?_
        obtain rfl := Option.some.inj hf
        exact ih1 x1_27 w_26 H locs ls hk1 hH (lv_sub hl [1, 0] rfl)
  refine am_enter (lv := [(0, .ref (G.1 + 271))]) (Nat.le_of_ble_eq_true rfl) rfl (fun ls hl => ?_)
  unfold f_X12_keep at hf
  refine am_start hH (fun H locs hH => ?_)
  refine lv_aload_n hx hb dX12_keep_0 rfl (lv_at hl 0 rfl) ?_
  refine am_get hx hb hts hK hown hH (am_o12 (p := 271) (by decide +kernel)) rfl am_inX12 23 (by decide) am_q1342 (v := .int (w.1 271 23)) rfl dX12_keep_1 ?_
  refine lv_bipush (v := 40) hx hb dX12_keep_4 (by decide) ?_
  refine lv_icmp_ne (tgt := 52) hx hb dX12_keep_6 (by decide) (fun hc_28 => ?_) (fun hc_28 => ?_)
  · have hf := (if_neg hc_28).symm.trans hf
    exact P52 w H locs ls hf hH (lv_sub hl [0] rfl)
  · have hf := (if_pos hc_28).symm.trans hf
    refine lv_sipush (v := 245) hx hb dX12_keep_9 (by decide) ?_
    refine lv_istore_n (lv' := [(1, .int (245 : Int32)), (0, .ref (G.1 + 271))]) hx hb dX12_keep_12 rfl hl (by decide) rfl (fun ls hl => ?_)
    exact P13 am_fuel (245 : Int32) w H locs ls hf hH (lv_sub hl [1, 0] rfl)
