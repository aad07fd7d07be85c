/-! functions and contracts of methods, by program (wip/whole/gen.py) -/
def f_X11_jam_26 (a1 : Int32) (a2 : Int32) (a3 : Int32) (w : am_S) : Option (Int32 × am_S) :=
  some ((-1 : Int32), w)
def f_X11_jam (a1 : Int32) (a2 : Int32) (a3 : Int32) (w : am_S) : Option (Int32 × am_S) :=
  am_b2 (f_X11_noUser a1 w) fun r_18 w_16 => if r_18 = 0 then (am_b2 (f_X11_noFrame a2 w_16) fun r_22 w_20 => if r_22 = 0 then (if a3 < 0 then (f_X11_jam_26 a1 a2 a3 w_20) else (if a3 ≤ (100 : Int32) then (am_b1 (f_X7_lookAt 23 w_20) fun w_26 => am_b2 (f_X6_partsKnown a1 a2 a3 w_26) fun r_30 w_28 => some (r_30, w_28)) else (f_X11_jam_26 a1 a2 a3 w_20))) else (f_X11_jam_26 a1 a2 a3 w_20)) else (f_X11_jam_26 a1 a2 a3 w_16)
set_option maxRecDepth 100000 in
set_option maxHeartbeats 4000000 in
theorem k_X11_jam {G : am_G} {l : Launch} {a1 : Int32} {a2 : Int32} {a3 : Int32}  {w : am_S} {rr : Int32} {ww : am_S} (hf : f_X11_jam a1 a2 a3 w = some (rr, ww)) : am_Mi G l yX11_jam (Cond.code yX11_jam cX11_jam 4 (some .int) :: am_T) { frames := 20, cells := 0, slots := 0, locals := 1280 } [.ref (G.1 + 0), .int a1, .int a2, .int a3] w rr ww := by
  refine Met.ofW (cc := cX11_jam) (maxL := 4) (ret := (some .int)) (by decide) rfl ?_
  intro p e s m args below meth c s₁ B hml hv
  obtain ⟨rfl, hx, hb, hr, hts, hown, hlocks, hK, hE, hH⟩ := am_begin B hv
  have hown : s.vm.findClass RX11 = some m.cls := hown
  show W p l e { frames := 20, cells := 0, slots := 0, locals := 1280 } s m _ below meth c s.heap [] 0 0 _ _
  have P26 : ∀ (w : am_S) (H : Heap) (locs : List Loc) (ls : Array Slot), f_X11_jam_26 a1 a2 a3 w = some (rr, ww) → am_H G w s H locs → lv_has ls 4 [] → W p l e { frames := 20, cells := 0, slots := 0, locals := 1280 } s m [.ref (G.1 + 0), .int a1, .int a2, .int a3].toArray below meth c H locs 0 0 (MQ below (va_Qi (fun (x : Int32) (u : am_S) => x = rr ∧ u = ww) (am_U G) (am_A G)) [.ref (G.1 + 0), .int a1, .int a2, .int a3].toArray s 0 0 (am_A G)) (F0 m 26 ls []) := by
    intro w H locs ls hf hH hl
    unfold f_X11_jam_26 at hf
    refine lv_iconst (v := -1) hx hb dX11_jam_26 (by decide) ?_
    exact am_reti hx hb hr hlocks hH hf dX11_jam_27
  refine am_enter (lv := [(0, .ref (G.1 + 0)), (1, .int a1), (2, .int a2), (3, .int a3)]) (Nat.le_of_ble_eq_true rfl) rfl (fun ls hl => ?_)
  unfold f_X11_jam at hf
  refine am_start hH (fun H locs hH => ?_)
  refine lv_aload_n hx hb dX11_jam_0 rfl (lv_at hl 0 rfl) ?_
  refine lv_iload_n hx hb dX11_jam_1 rfl (lv_at hl 1 rfl) ?_
  obtain ⟨r_18, w_16, hq_17, hf⟩ := am_b2_some hf
  refine am_calli (r := r_18) (w' := w_16) (am_runV (n := 1) (As := [.int a1]) (rest := []) ⟨hx, hb, hml, hown, hts⟩ hK hE hH (k_X11_noUser hq_17) (am_gV am_q641 am_q643 am_qs12 am_q1 am_q644) (am_o11 (p := 0) (by decide +kernel)) rfl ⟨rfl, rfl⟩ (by decide +kernel) ⟨Nat.le_of_ble_eq_true rfl, Nat.le_of_ble_eq_true rfl⟩ rfl hl.1 rfl (Nat.le_of_ble_eq_true rfl) ⟨Nat.zero_le _, Nat.zero_le _⟩ dX11_jam_2) hH (fun H locs hH => ?_)
  refine lv_if_ne (tgt := 26) hx hb dX11_jam_5 (by decide) (fun hc_19 => ?_) (fun hc_19 => ?_)
  · have hf := (if_neg hc_19).symm.trans hf
    exact P26 w_16 H locs ls hf hH (lv_sub hl [] rfl)
  · have hf := (if_pos hc_19).symm.trans hf
    refine lv_aload_n hx hb dX11_jam_8 rfl (lv_at hl 0 rfl) ?_
    refine lv_iload_n hx hb dX11_jam_9 rfl (lv_at hl 2 rfl) ?_
    obtain ⟨r_22, w_20, hq_21, hf⟩ := am_b2_some hf
    refine am_calli (r := r_22) (w' := w_20) (am_runV (n := 1) (As := [.int a2]) (rest := []) ⟨hx, hb, hml, hown, hts⟩ hK hE hH (k_X11_noFrame hq_21) (am_gV am_q993 am_q995 am_qs34 am_q1 am_q996) (am_o11 (p := 0) (by decide +kernel)) rfl ⟨rfl, rfl⟩ (by decide +kernel) ⟨Nat.le_of_ble_eq_true rfl, Nat.le_of_ble_eq_true rfl⟩ rfl hl.1 rfl (Nat.le_of_ble_eq_true rfl) ⟨Nat.zero_le _, Nat.zero_le _⟩ dX11_jam_10) hH (fun H locs hH => ?_)
    refine lv_if_ne (tgt := 26) hx hb dX11_jam_13 (by decide) (fun hc_23 => ?_) (fun hc_23 => ?_)
    · have hf := (if_neg hc_23).symm.trans hf
      exact P26 w_20 H locs ls hf hH (lv_sub hl [] rfl)
    · have hf := (if_pos hc_23).symm.trans hf
      refine lv_iload_n hx hb dX11_jam_16 rfl (lv_at hl 3 rfl) ?_
      refine lv_if_lt (tgt := 26) hx hb dX11_jam_17 (by decide) (fun hc_24 => ?_) (fun hc_24 => ?_)
      · have hf := (if_pos hc_24).symm.trans hf
        exact P26 w_20 H locs ls hf hH (lv_sub hl [] rfl)
      · have hf := (if_neg hc_24).symm.trans hf
        refine lv_iload_n hx hb dX11_jam_20 rfl (lv_at hl 3 rfl) ?_
        refine lv_bipush (v := 100) hx hb dX11_jam_21 (by decide) ?_
        refine lv_icmp_le (tgt := 28) hx hb dX11_jam_23 (by decide) (fun hc_25 => ?_) (fun hc_25 => ?_)
        · have hf := (if_pos hc_25).symm.trans hf
          refine lv_aload_n hx hb dX11_jam_28 rfl (lv_at hl 0 rfl) ?_
          refine am_get hx hb hts hK hown hH (am_o11 (p := 0) (by decide +kernel)) rfl am_inX11 13 (by decide) am_q344 (v := .ref (G.1 + 250)) rfl dX11_jam_29 ?_
          refine lv_aload_n hx hb dX11_jam_32 rfl (lv_at hl 0 rfl) ?_
          refine am_get hx hb hts hK hown hH (am_o11 (p := 0) (by decide +kernel)) rfl am_inX11 5 (by decide) am_q336 (v := .ref (G.1 + 23)) rfl dX11_jam_33 ?_
          obtain ⟨w_26, hq_27, hf⟩ := am_b1_some hf
          refine am_callv (w' := w_26) (am_runV (n := 1) (As := [.ref (G.1 + 23)]) (rest := []) ⟨hx, hb, hml, hown, hts⟩ hK hE hH (k_X7_lookAt (by decide +kernel) hq_27) (am_gV am_q670 am_q671 am_q672 am_q9 am_q673) (am_o7 (p := 250) (by decide +kernel)) rfl ⟨rfl, rfl⟩ (by decide +kernel) ⟨Nat.le_of_ble_eq_true rfl, Nat.le_of_ble_eq_true rfl⟩ rfl hl.1 rfl (Nat.le_of_ble_eq_true rfl) ⟨Nat.zero_le _, Nat.zero_le _⟩ dX11_jam_36) hH (fun H locs hH => ?_)
          refine lv_aload_n hx hb dX11_jam_39 rfl (lv_at hl 0 rfl) ?_
          refine am_get hx hb hts hK hown hH (am_o11 (p := 0) (by decide +kernel)) rfl am_inX11 15 (by decide) am_q346 (v := .ref (G.1 + 257)) rfl dX11_jam_40 ?_
          refine lv_iload_n hx hb dX11_jam_43 rfl (lv_at hl 1 rfl) ?_
          refine lv_iload_n hx hb dX11_jam_44 rfl (lv_at hl 2 rfl) ?_
          refine lv_iload_n hx hb dX11_jam_45 rfl (lv_at hl 3 rfl) ?_
          obtain ⟨r_30, w_28, hq_29, hf⟩ := am_b2_some hf
          refine am_calli (r := r_30) (w' := w_28) (am_runV (n := 3) (As := [.int a1, .int a2, .int a3]) (rest := []) ⟨hx, hb, hml, hown, hts⟩ hK hE hH (k_X6_partsKnown hq_29) (am_gV am_q1099 am_q1100 am_q1101 am_q11 am_q1102) (am_o6 (p := 257) (by decide +kernel)) rfl ⟨rfl, rfl⟩ (by decide +kernel) ⟨Nat.le_of_ble_eq_true rfl, Nat.le_of_ble_eq_true rfl⟩ rfl hl.1 rfl (Nat.le_of_ble_eq_true rfl) ⟨Nat.zero_le _, Nat.zero_le _⟩ dX11_jam_46) hH (fun H locs hH => ?_)
          exact am_reti hx hb hr hlocks hH hf dX11_jam_49
        · have hf := (if_neg hc_25).symm.trans hf
          exact P26 w_20 H locs ls hf hH (lv_sub hl [] rfl)

def f_X6_othersKnownWithout (a1 : Int32) (w : am_S) : Option (Int32 × am_S) :=
  am_b2 (f_X7_stuckOf ((w.1 250 6) &&& (((1 : Int32) <<< (a1 &&& 31)) ^^^ (-1 : Int32))) w) fun r_9 w_7 => am_b2 (f_J6_bitCount_0f7a4 r_9 w_7) fun r_12 w_10 => some (((w.1 11 11) - (1 : Int32)) - r_12, w_10)
set_option maxRecDepth 100000 in
set_option maxHeartbeats 4000000 in
theorem k_X6_othersKnownWithout {G : am_G} {l : Launch} {a1 : Int32}  {w : am_S} {rr : Int32} {ww : am_S} (hf : f_X6_othersKnownWithout a1 w = some (rr, ww)) : am_Mi G l yX6_othersKnownWithout (Cond.code yX6_othersKnownWithout cX6_othersKnownWithout 2 (some .int) :: am_T) { frames := 4, cells := 0, slots := 0, locals := 256 } [.ref (G.1 + 257), .int a1] w rr ww := by
  refine Met.ofW (cc := cX6_othersKnownWithout) (maxL := 2) (ret := (some .int)) (by decide) rfl ?_
  intro p e s m args below meth c s₁ B hml hv
  obtain ⟨rfl, hx, hb, hr, hts, hown, hlocks, hK, hE, hH⟩ := am_begin B hv
  have hown : s.vm.findClass RX6 = some m.cls := hown
  show W p l e { frames := 4, cells := 0, slots := 0, locals := 256 } s m _ below meth c s.heap [] 0 0 _ _
  refine am_enter (lv := [(0, .ref (G.1 + 257)), (1, .int a1)]) (Nat.le_of_ble_eq_true rfl) rfl (fun ls hl => ?_)
  unfold f_X6_othersKnownWithout at hf
  refine am_start hH (fun H locs hH => ?_)
  refine lv_aload_n hx hb dX6_othersKnownWithout_0 rfl (lv_at hl 0 rfl) ?_
  refine am_get hx hb hts hK hown hH (am_o6 (p := 257) (by decide +kernel)) rfl am_inX6 0 (by decide) am_q314 (v := .ref (G.1 + 11)) rfl dX6_othersKnownWithout_1 ?_
  refine am_get hx hb hts hK hown hH (am_o1 (p := 11) (by decide +kernel)) rfl am_inX1 11 (by decide) am_q107 (v := .int (w.1 11 11)) rfl dX6_othersKnownWithout_4 ?_
  refine lv_iconst (v := 1) hx hb dX6_othersKnownWithout_7 (by decide) ?_
  refine lv_isub hx hb dX6_othersKnownWithout_8 ?_
  refine lv_aload_n hx hb dX6_othersKnownWithout_9 rfl (lv_at hl 0 rfl) ?_
  refine am_get hx hb hts hK hown hH (am_o6 (p := 257) (by decide +kernel)) rfl am_inX6 1 (by decide) am_q315 (v := .ref (G.1 + 250)) rfl dX6_othersKnownWithout_10 ?_
  refine lv_aload_n hx hb dX6_othersKnownWithout_13 rfl (lv_at hl 0 rfl) ?_
  refine am_get hx hb hts hK hown hH (am_o6 (p := 257) (by decide +kernel)) rfl am_inX6 1 (by decide) am_q315 (v := .ref (G.1 + 250)) rfl dX6_othersKnownWithout_14 ?_
  refine am_get hx hb hts hK hown hH (am_o7 (p := 250) (by decide +kernel)) rfl am_inX7 6 (by decide) am_q270 (v := .int (w.1 250 6)) rfl dX6_othersKnownWithout_17 ?_
  refine lv_iconst (v := 1) hx hb dX6_othersKnownWithout_20 (by decide) ?_
  refine lv_iload_n hx hb dX6_othersKnownWithout_21 rfl (lv_at hl 1 rfl) ?_
  refine lv_ishl hx hb dX6_othersKnownWithout_22 ?_
  refine lv_iconst (v := -1) hx hb dX6_othersKnownWithout_23 (by decide) ?_
  refine lv_ixor hx hb dX6_othersKnownWithout_24 ?_
  refine lv_iand hx hb dX6_othersKnownWithout_25 ?_
  obtain ⟨r_9, w_7, hq_8, hf⟩ := am_b2_some hf
  refine am_calli (r := r_9) (w' := w_7) (am_runV (n := 1) (As := [.int ((w.1 250 6) &&& (((1 : Int32) <<< (a1 &&& 31)) ^^^ (-1 : Int32)))]) (rest := [.int ((w.1 11 11) - (1 : Int32))]) ⟨hx, hb, hml, hown, hts⟩ hK hE hH (k_X7_stuckOf hq_8) (am_gV am_q973 am_q950 am_q951 am_q9 am_q952) (am_o7 (p := 250) (by decide +kernel)) rfl ⟨rfl, rfl⟩ (by decide +kernel) ⟨Nat.le_of_ble_eq_true rfl, Nat.le_of_ble_eq_true rfl⟩ rfl hl.1 rfl (Nat.le_of_ble_eq_true rfl) ⟨Nat.zero_le _, Nat.zero_le _⟩ dX6_othersKnownWithout_26) hH (fun H locs hH => ?_)
  obtain ⟨r_12, w_10, hq_11, hf⟩ := am_b2_some hf
  refine am_calli (r := r_12) (w' := w_10) (am_runS (n := 1) (As := [.int r_9]) (rest := [.int ((w.1 11 11) - (1 : Int32))]) ⟨hx, hb, hml, hown, hts⟩ hK hE hH (k_J6_bitCount_0f7a4 hq_11) (am_gS am_q974 am_q716 am_q23 am_q717) ⟨rfl, rfl⟩ (by decide +kernel) ⟨Nat.le_of_ble_eq_true rfl, Nat.le_of_ble_eq_true rfl⟩ rfl hl.1 rfl (Nat.le_of_ble_eq_true rfl) ⟨Nat.zero_le _, Nat.zero_le _⟩ dX6_othersKnownWithout_29) hH (fun H locs hH => ?_)
  refine lv_isub hx hb dX6_othersKnownWithout_32 ?_
  exact am_reti hx hb hr hlocks hH hf dX6_othersKnownWithout_33

def f_X6_helperOfMost_65  (x1 : Int32) (x2 : Int32) (x3 : Int32) (w : am_S) : Option ((Int32 × am_S) ⊕ (Int32 × Int32 × Int32 × am_S)) :=
  am_v (x3 + (1 : Int32)) fun (x3_9 : Int32) => some (.inr (x1, x2, x3_9, w))
def f_X6_helperOfMost_52  (x1 : Int32) (x2 : Int32) (x3 : Int32) (s0 : Int32) (w : am_S) : Option ((Int32 × am_S) ⊕ (Int32 × Int32 × Int32 × am_S)) :=
  if s0 ≤ x2 then (f_X6_helperOfMost_65 x1 x2 x3 w) else (f_X6_helperOfMost_65 x3 s0 x3 w)
def f_X6_helperOfMost_36  (x1 : Int32) (x2 : Int32) (x3 : Int32) (s0 : Int32) (w : am_S) : Option ((Int32 × am_S) ⊕ (Int32 × Int32 × Int32 × am_S)) :=
  if s0 = 0 then (f_X6_helperOfMost_52 x1 x2 x3 (-1 : Int32) w) else (am_b2 (f_X6_othersKnownWithout x3 w) fun r_14 w_12 => f_X6_helperOfMost_52 x1 x2 x3 r_14 w_12)
def f_X6_helperOfMost_6b  (x1 : Int32) (x2 : Int32) (x3 : Int32) (w : am_S) : Option ((Int32 × am_S) ⊕ (Int32 × Int32 × Int32 × am_S)) :=
  if (w.1 11 11) ≤ x3 then (am_x (some (x1, w))) else (if (((w.1 250 6) >>> (x3 &&& 31)) &&& (1 : Int32)) = 0 then (f_X6_helperOfMost_36 x1 x2 x3 (0 : Int32) w) else (f_X6_helperOfMost_36 x1 x2 x3 (1 : Int32) w))
def f_X6_helperOfMost_6  (x1 : Int32) (x2 : Int32) (x3 : Int32) (w : am_S) : Option (Int32 × am_S) :=
  am_loop (fun (st : (Int32 × Int32 × Int32 × am_S)) => f_X6_helperOfMost_6b st.1 st.2.1 st.2.2.1 st.2.2.2) am_fuel (x1, x2, x3, w)
def f_X6_helperOfMost  (w : am_S) : Option (Int32 × am_S) :=
  f_X6_helperOfMost_6 (-1 : Int32) (-1 : Int32) (0 : Int32) w
set_option maxRecDepth 100000 in
set_option maxHeartbeats 4000000 in
theorem k_X6_helperOfMost {G : am_G} {l : Launch}   {w : am_S} {rr : Int32} {ww : am_S} (hf : f_X6_helperOfMost  w = some (rr, ww)) : am_Mi G l yX6_helperOfMost (Cond.code yX6_helperOfMost cX6_helperOfMost 6 (some .int) :: am_T) { frames := 5, cells := 0, slots := 0, locals := 320 } [.ref (G.1 + 257)] w rr ww := by
  refine Met.ofW (cc := cX6_helperOfMost) (maxL := 6) (ret := (some .int)) (by decide) rfl ?_
  intro p e s m args below meth c s₁ B hml hv
  obtain ⟨rfl, hx, hb, hr, hts, hown, hlocks, hK, hE, hH⟩ := am_begin B hv
  have hown : s.vm.findClass RX6 = some m.cls := hown
  show W p l e { frames := 5, cells := 0, slots := 0, locals := 320 } s m _ below meth c s.heap [] 0 0 _ _
  have P6 : ∀ (n1 : Nat) (x1 : Int32) (x2 : Int32) (x3 : Int32) (w : am_S) (H : Heap) (locs : List Loc) (ls : Array Slot), am_loop (fun (st : (Int32 × Int32 × Int32 × am_S)) => f_X6_helperOfMost_6b st.1 st.2.1 st.2.2.1 st.2.2.2) n1 (x1, x2, x3, w) = some (rr, ww) → am_H G w s H locs → lv_has ls 6 [(0, .ref (G.1 + 257)), (1, .int x1), (2, .int x2), (3, .int x3)] → W p l e { frames := 5, cells := 0, slots := 0, locals := 320 } s m [.ref (G.1 + 257)].toArray below meth c H locs 0 0 (MQ below (va_Qi (fun (x : Int32) (u : am_S) => x = rr ∧ u = ww) (am_U G) (am_A G)) [.ref (G.1 + 257)].toArray s 0 0 (am_A G)) (F0 m 6 ls []) := by
    intro n1
    induction n1 with
    | zero =>
      intro x1 x2 x3 w H locs ls hf hH hl
      exact (am_loop_zero hf).elim
    | succ n1 ih1 =>
      intro x1 x2 x3 w H locs ls hf hH hl
      obtain ⟨z1, hf, hk1⟩ := am_loop_succ hf
      have hf : f_X6_helperOfMost_6b x1 x2 x3 w = some z1 := hf
      have P65 : ∀ (x1 : Int32) (x2 : Int32) (x3 : Int32) (w : am_S) (z1 : ((Int32 × am_S) ⊕ (Int32 × Int32 × Int32 × am_S))) (H : Heap) (locs : List Loc) (ls : Array Slot), f_X6_helperOfMost_65 x1 x2 x3 w = some z1 → am_lk (fun (st : (Int32 × Int32 × Int32 × am_S)) => f_X6_helperOfMost_6b st.1 st.2.1 st.2.2.1 st.2.2.2) n1 (rr, ww) z1 → am_H G w s H locs → lv_has ls 6 [(0, .ref (G.1 + 257)), (1, .int x1), (2, .int x2), (3, .int x3)] → W p l e { frames := 5, cells := 0, slots := 0, locals := 320 } s m [.ref (G.1 + 257)].toArray below meth c H locs 0 0 (MQ below (va_Qi (fun (x : Int32) (u : am_S) => x = rr ∧ u = ww) (am_U G) (am_A G)) [.ref (G.1 + 257)].toArray s 0 0 (am_A G)) (F0 m 65 ls []) := by
        intro x1 x2 x3 w z1 H locs ls hf hk1 hH hl
        unfold f_X6_helperOfMost_65 at hf
        obtain ⟨x3_9, hx3_9, hf⟩ := am_v_some hf
        refine lv_iinc (v := x3_9) (lv' := [(3, .int x3_9), (0, .ref (G.1 + 257)), (1, .int x1), (2, .int x2)]) hx hb dX6_helperOfMost_65 hl (k := 3) rfl (by rw [hx3_9]; rfl) (by decide) rfl (fun ls hl => ?_)
        refine lv_goto (tgt := 6) hx hb dX6_helperOfMost_68 (by decide) ?_
        obtain rfl := Option.some.inj hf
        exact ih1 x1 x2 x3_9 w H locs ls hk1 hH (lv_sub hl [1, 2, 3, 0] rfl)
      have P52 : ∀ (x1 : Int32) (x2 : Int32) (x3 : Int32) (s0 : Int32) (w : am_S) (z1 : ((Int32 × am_S) ⊕ (Int32 × Int32 × Int32 × am_S))) (H : Heap) (locs : List Loc) (ls : Array Slot), f_X6_helperOfMost_52 x1 x2 x3 s0 w = some z1 → am_lk (fun (st : (Int32 × Int32 × Int32 × am_S)) => f_X6_helperOfMost_6b st.1 st.2.1 st.2.2.1 st.2.2.2) n1 (rr, ww) z1 → am_H G w s H locs → lv_has ls 6 [(0, .ref (G.1 + 257)), (1, .int x1), (2, .int x2), (3, .int x3)] → W p l e { frames := 5, cells := 0, slots := 0, locals := 320 } s m [.ref (G.1 + 257)].toArray below meth c H locs 0 0 (MQ below (va_Qi (fun (x : Int32) (u : am_S) => x = rr ∧ u = ww) (am_U G) (am_A G)) [.ref (G.1 + 257)].toArray s 0 0 (am_A G)) (F0 m 52 ls [.int s0]) := by
        intro x1 x2 x3 s0 w z1 H locs ls hf hk1 hH hl
        unfold f_X6_helperOfMost_52 at hf
        refine lv_istore (lv' := [(5, .int s0), (0, .ref (G.1 + 257)), (1, .int x1), (2, .int x2), (3, .int x3)]) hx hb dX6_helperOfMost_52 hl (by decide) rfl (fun ls hl => ?_)
        refine lv_iload hx hb dX6_helperOfMost_54 (lv_at hl 0 rfl) ?_
        refine lv_iload_n hx hb dX6_helperOfMost_56 rfl (lv_at hl 3 rfl) ?_
        refine lv_icmp_le (tgt := 65) hx hb dX6_helperOfMost_57 (by decide) (fun hc_10 => ?_) (fun hc_10 => ?_)
        · have hf := (if_pos hc_10).symm.trans hf
          exact P65 x1 x2 x3 w z1 H locs ls hf hk1 hH (lv_sub hl [1, 2, 3, 4] rfl)
        · have hf := (if_neg hc_10).symm.trans hf
          refine lv_iload_n hx hb dX6_helperOfMost_60 rfl (lv_at hl 4 rfl) ?_
          refine lv_istore_n (lv' := [(1, .int x3), (5, .int s0), (0, .ref (G.1 + 257)), (2, .int x2), (3, .int x3)]) hx hb dX6_helperOfMost_61 rfl hl (by decide) rfl (fun ls hl => ?_)
          refine lv_iload hx hb dX6_helperOfMost_62 (lv_at hl 1 rfl) ?_
          refine lv_istore_n (lv' := [(2, .int s0), (1, .int x3), (5, .int s0), (0, .ref (G.1 + 257)), (3, .int x3)]) hx hb dX6_helperOfMost_64 rfl hl (by decide) rfl (fun ls hl => ?_)
          exact P65 x3 s0 x3 w z1 H locs ls hf hk1 hH (lv_sub hl [3, 1, 0, 4] rfl)
      have P36 : ∀ (x1 : Int32) (x2 : Int32) (x3 : Int32) (s0 : Int32) (w : am_S) (z1 : ((Int32 × am_S) ⊕ (Int32 × Int32 × Int32 × am_S))) (H : Heap) (locs : List Loc) (ls : Array Slot), f_X6_helperOfMost_36 x1 x2 x3 s0 w = some z1 → am_lk (fun (st : (Int32 × Int32 × Int32 × am_S)) => f_X6_helperOfMost_6b st.1 st.2.1 st.2.2.1 st.2.2.2) n1 (rr, ww) z1 → am_H G w s H locs → lv_has ls 6 [(0, .ref (G.1 + 257)), (1, .int x1), (2, .int x2), (3, .int x3)] → W p l e { frames := 5, cells := 0, slots := 0, locals := 320 } s m [.ref (G.1 + 257)].toArray below meth c H locs 0 0 (MQ below (va_Qi (fun (x : Int32) (u : am_S) => x = rr ∧ u = ww) (am_U G) (am_A G)) [.ref (G.1 + 257)].toArray s 0 0 (am_A G)) (F0 m 36 ls [.int s0]) := by
        intro x1 x2 x3 s0 w z1 H locs ls hf hk1 hH hl
        unfold f_X6_helperOfMost_36 at hf
        refine lv_istore (lv' := [(4, .int s0), (0, .ref (G.1 + 257)), (1, .int x1), (2, .int x2), (3, .int x3)]) hx hb dX6_helperOfMost_36 hl (by decide) rfl (fun ls hl => ?_)
        refine lv_iload hx hb dX6_helperOfMost_38 (lv_at hl 0 rfl) ?_
        refine lv_if_eq (tgt := 51) hx hb dX6_helperOfMost_40 (by decide) (fun hc_11 => ?_) (fun hc_11 => ?_)
        · have hf := (if_pos hc_11).symm.trans hf
          refine lv_iconst (v := -1) hx hb dX6_helperOfMost_51 (by decide) ?_
          exact P52 x1 x2 x3 (-1 : Int32) w z1 H locs ls hf hk1 hH (lv_sub hl [1, 2, 3, 4] rfl)
        · have hf := (if_neg hc_11).symm.trans hf
          refine lv_aload_n hx hb dX6_helperOfMost_43 rfl (lv_at hl 1 rfl) ?_
          refine lv_iload_n hx hb dX6_helperOfMost_44 rfl (lv_at hl 4 rfl) ?_
          obtain ⟨r_14, w_12, hq_13, hf⟩ := am_b2_some hf
          refine am_calli (r := r_14) (w' := w_12) (am_runV (n := 1) (As := [.int x3]) (rest := []) ⟨hx, hb, hml, hown, hts⟩ hK hE hH (k_X6_othersKnownWithout hq_13) (am_gV am_q1071 am_q1072 am_q1073 am_q11 am_q1074) (am_o6 (p := 257) (by decide +kernel)) rfl ⟨rfl, rfl⟩ (by decide +kernel) ⟨Nat.le_of_ble_eq_true rfl, Nat.le_of_ble_eq_true rfl⟩ rfl hl.1 rfl (Nat.le_of_ble_eq_true rfl) ⟨Nat.zero_le _, Nat.zero_le _⟩ dX6_helperOfMost_45) hH (fun H locs hH => ?_)
          refine lv_goto (tgt := 52) hx hb dX6_helperOfMost_48 (by decide) ?_
          exact P52 x1 x2 x3 r_14 w_12 z1 H locs ls hf hk1 hH (lv_sub hl [1, 2, 3, 4] rfl)
      unfold f_X6_helperOfMost_6b at hf
      refine lv_iload_n hx hb dX6_helperOfMost_6 rfl (lv_at hl 3 rfl) ?_
      refine lv_aload_n hx hb dX6_helperOfMost_7 rfl (lv_at hl 0 rfl) ?_
      refine am_get hx hb hts hK hown hH (am_o6 (p := 257) (by decide +kernel)) rfl am_inX6 0 (by decide) am_q314 (v := .ref (G.1 + 11)) rfl dX6_helperOfMost_8 ?_
      refine am_get hx hb hts hK hown hH (am_o1 (p := 11) (by decide +kernel)) rfl am_inX1 11 (by decide) am_q107 (v := .int (w.1 11 11)) rfl dX6_helperOfMost_11 ?_
      refine lv_icmp_ge (tgt := 71) hx hb dX6_helperOfMost_14 (by decide) (fun hc_15 => ?_) (fun hc_15 => ?_)
      · have hf := (if_pos hc_15).symm.trans hf
        obtain ⟨y_16, hf, hzy_16⟩ := am_x_some hf
        rw [hzy_16] at hk1
        have hf := hf.trans (congrArg some (show y_16 = (rr, ww) from hk1))
        refine lv_iload_n hx hb dX6_helperOfMost_71 rfl (lv_at hl 1 rfl) ?_
        exact am_reti hx hb hr hlocks hH hf dX6_helperOfMost_72
      · have hf := (if_neg hc_15).symm.trans hf
        refine lv_aload_n hx hb dX6_helperOfMost_17 rfl (lv_at hl 0 rfl) ?_
        refine am_get hx hb hts hK hown hH (am_o6 (p := 257) (by decide +kernel)) rfl am_inX6 1 (by decide) am_q315 (v := .ref (G.1 + 250)) rfl dX6_helperOfMost_18 ?_
        refine am_get hx hb hts hK hown hH (am_o7 (p := 250) (by decide +kernel)) rfl am_inX7 6 (by decide) am_q270 (v := .int (w.1 250 6)) rfl dX6_helperOfMost_21 ?_
        refine lv_iload_n hx hb dX6_helperOfMost_24 rfl (lv_at hl 3 rfl) ?_
        refine lv_ishr hx hb dX6_helperOfMost_25 ?_
        refine lv_iconst (v := 1) hx hb dX6_helperOfMost_26 (by decide) ?_
        refine lv_iand hx hb dX6_helperOfMost_27 ?_
        refine lv_if_eq (tgt := 35) hx hb dX6_helperOfMost_28 (by decide) (fun hc_17 => ?_) (fun hc_17 => ?_)
        · have hf := (if_pos hc_17).symm.trans hf
          refine lv_iconst (v := 0) hx hb dX6_helperOfMost_35 (by decide) ?_
          exact P36 x1 x2 x3 (0 : Int32) w z1 H locs ls hf hk1 hH (lv_sub hl [0, 1, 2, 3] rfl)
        · have hf := (if_neg hc_17).symm.trans hf
          refine lv_iconst (v := 1) hx hb dX6_helperOfMost_31 (by decide) ?_
          refine lv_goto (tgt := 36) hx hb dX6_helperOfMost_32 (by decide) ?_
          exact P36 x1 x2 x3 (1 : Int32) w z1 H locs ls hf hk1 hH (lv_sub hl [0, 1, 2, 3] rfl)
  refine am_enter (lv := [(0, .ref (G.1 + 257))]) (Nat.le_of_ble_eq_true rfl) rfl (fun ls hl => ?_)
  unfold f_X6_helperOfMost at hf
  refine am_start hH (fun H locs hH => ?_)
  refine lv_iconst (v := -1) hx hb dX6_helperOfMost_0 (by decide) ?_
  refine lv_istore_n (lv' := [(1, .int (-1 : Int32)), (0, .ref (G.1 + 257))]) hx hb dX6_helperOfMost_1 rfl hl (by decide) rfl (fun ls hl => ?_)
  refine lv_iconst (v := -1) hx hb dX6_helperOfMost_2 (by decide) ?_
  refine lv_istore_n (lv' := [(2, .int (-1 : Int32)), (1, .int (-1 : Int32)), (0, .ref (G.1 + 257))]) hx hb dX6_helperOfMost_3 rfl hl (by decide) rfl (fun ls hl => ?_)
  refine lv_iconst (v := 0) hx hb dX6_helperOfMost_4 (by decide) ?_
  refine lv_istore_n (lv' := [(3, .int (0 : Int32)), (2, .int (-1 : Int32)), (1, .int (-1 : Int32)), (0, .ref (G.1 + 257))]) hx hb dX6_helperOfMost_5 rfl hl (by decide) rfl (fun ls hl => ?_)
  exact P6 am_fuel (-1 : Int32) (-1 : Int32) (0 : Int32) w H locs ls hf hH (lv_sub hl [3, 2, 1, 0] rfl)

def f_X11_bestHelper_16 (a1 : Int32) (a2 : Int32) (w : am_S) : Option (Int32 × am_S) :=
  some ((-1000000 : Int32), w)
def f_X11_bestHelper_63 (a1 : Int32) (a2 : Int32) (s0 : Int32) (w : am_S) : Option (Int32 × am_S) :=
  some (s0, w)
def f_X11_bestHelper (a1 : Int32) (a2 : Int32) (w : am_S) : Option (Int32 × am_S) :=
  am_b2 (f_X11_noField w) fun r_19 w_17 => if r_19 = 0 then (if a1 < 0 then (f_X11_bestHelper_16 a1 a2 w_17) else (if a1 ≤ (1 : Int32) then (am_b1 (f_X7_lookAt 23 w_17) fun w_23 => am_b2 (f_X6_helperOfMost w_23) fun r_27 w_25 => if a1 = 0 then (some (r_27, w_25)) else (if r_27 = (-1 : Int32) then (f_X11_bestHelper_63 a1 a2 (0 : Int32) w_25) else (am_b2 (f_X6_othersKnownWithout r_27 w_25) fun r_32 w_30 => f_X11_bestHelper_63 a1 a2 (r_32 + a2) w_30))) else (f_X11_bestHelper_16 a1 a2 w_17))) else (f_X11_bestHelper_16 a1 a2 w_17)
set_option maxRecDepth 100000 in
set_option maxHeartbeats 4000000 in
theorem k_X11_bestHelper {G : am_G} {l : Launch} {a1 : Int32} {a2 : Int32}  {w : am_S} {rr : Int32} {ww : am_S} (hf : f_X11_bestHelper a1 a2 w = some (rr, ww)) : am_Mi G l yX11_bestHelper (Cond.code yX11_bestHelper cX11_bestHelper 4 (some .int) :: am_T) { frames := 6, cells := 0, slots := 0, locals := 384 } [.ref (G.1 + 0), .int a1, .int a2] w rr ww := by
  refine Met.ofW (cc := cX11_bestHelper) (maxL := 4) (ret := (some .int)) (by decide) rfl ?_
  intro p e s m args below meth c s₁ B hml hv
  obtain ⟨rfl, hx, hb, hr, hts, hown, hlocks, hK, hE, hH⟩ := am_begin B hv
  have hown : s.vm.findClass RX11 = some m.cls := hown
  show W p l e { frames := 6, cells := 0, slots := 0, locals := 384 } s m _ below meth c s.heap [] 0 0 _ _
  have P16 : ∀ (w : am_S) (H : Heap) (locs : List Loc) (ls : Array Slot), f_X11_bestHelper_16 a1 a2 w = some (rr, ww) → am_H G w s H locs → lv_has ls 4 [] → W p l e { frames := 6, cells := 0, slots := 0, locals := 384 } s m [.ref (G.1 + 0), .int a1, .int a2].toArray below meth c H locs 0 0 (MQ below (va_Qi (fun (x : Int32) (u : am_S) => x = rr ∧ u = ww) (am_U G) (am_A G)) [.ref (G.1 + 0), .int a1, .int a2].toArray s 0 0 (am_A G)) (F0 m 16 ls []) := by
    intro w H locs ls hf hH hl
    unfold f_X11_bestHelper_16 at hf
    refine lv_ldc (v := -1000000) hx hb hown (hts _ am_q714) dX11_bestHelper_16 ?_
    exact am_reti hx hb hr hlocks hH hf dX11_bestHelper_18
  have P63 : ∀ (s0 : Int32) (w : am_S) (H : Heap) (locs : List Loc) (ls : Array Slot), f_X11_bestHelper_63 a1 a2 s0 w = some (rr, ww) → am_H G w s H locs → lv_has ls 4 [] → W p l e { frames := 6, cells := 0, slots := 0, locals := 384 } s m [.ref (G.1 + 0), .int a1, .int a2].toArray below meth c H locs 0 0 (MQ below (va_Qi (fun (x : Int32) (u : am_S) => x = rr ∧ u = ww) (am_U G) (am_A G)) [.ref (G.1 + 0), .int a1, .int a2].toArray s 0 0 (am_A G)) (F0 m 63 ls [.int s0]) := by
    intro s0 w H locs ls hf hH hl
    unfold f_X11_bestHelper_63 at hf
    exact am_reti hx hb hr hlocks hH hf dX11_bestHelper_63
  refine am_enter (lv := [(0, .ref (G.1 + 0)), (1, .int a1), (2, .int a2)]) (Nat.le_of_ble_eq_true rfl) rfl (fun ls hl => ?_)
  unfold f_X11_bestHelper at hf
  refine am_start hH (fun H locs hH => ?_)
  refine lv_aload_n hx hb dX11_bestHelper_0 rfl (lv_at hl 0 rfl) ?_
  obtain ⟨r_19, w_17, hq_18, hf⟩ := am_b2_some hf
  refine am_calli (r := r_19) (w' := w_17) (am_runV (n := 0) (As := []) (rest := []) ⟨hx, hb, hml, hown, hts⟩ hK hE hH (k_X11_noField hq_18) (am_gV am_q625 am_q627 am_qs11 am_q1 am_q628) (am_o11 (p := 0) (by decide +kernel)) rfl ⟨rfl, rfl⟩ (by decide +kernel) ⟨Nat.le_of_ble_eq_true rfl, Nat.le_of_ble_eq_true rfl⟩ rfl hl.1 rfl (Nat.le_of_ble_eq_true rfl) ⟨Nat.zero_le _, Nat.zero_le _⟩ dX11_bestHelper_1) hH (fun H locs hH => ?_)
  refine lv_if_ne (tgt := 16) hx hb dX11_bestHelper_4 (by decide) (fun hc_20 => ?_) (fun hc_20 => ?_)
  · have hf := (if_neg hc_20).symm.trans hf
    exact P16 w_17 H locs ls hf hH (lv_sub hl [] rfl)
  · have hf := (if_pos hc_20).symm.trans hf
    refine lv_iload_n hx hb dX11_bestHelper_7 rfl (lv_at hl 1 rfl) ?_
    refine lv_if_lt (tgt := 16) hx hb dX11_bestHelper_8 (by decide) (fun hc_21 => ?_) (fun hc_21 => ?_)
    · have hf := (if_pos hc_21).symm.trans hf
      exact P16 w_17 H locs ls hf hH (lv_sub hl [] rfl)
    · have hf := (if_neg hc_21).symm.trans hf
      refine lv_iload_n hx hb dX11_bestHelper_11 rfl (lv_at hl 1 rfl) ?_
      refine lv_iconst (v := 1) hx hb dX11_bestHelper_12 (by decide) ?_
      refine lv_icmp_le (tgt := 19) hx hb dX11_bestHelper_13 (by decide) (fun hc_22 => ?_) (fun hc_22 => ?_)
      · have hf := (if_pos hc_22).symm.trans hf
        refine lv_aload_n hx hb dX11_bestHelper_19 rfl (lv_at hl 0 rfl) ?_
        refine am_get hx hb hts hK hown hH (am_o11 (p := 0) (by decide +kernel)) rfl am_inX11 13 (by decide) am_q344 (v := .ref (G.1 + 250)) rfl dX11_bestHelper_20 ?_
        refine lv_aload_n hx hb dX11_bestHelper_23 rfl (lv_at hl 0 rfl) ?_
        refine am_get hx hb hts hK hown hH (am_o11 (p := 0) (by decide +kernel)) rfl am_inX11 5 (by decide) am_q336 (v := .ref (G.1 + 23)) rfl dX11_bestHelper_24 ?_
        obtain ⟨w_23, hq_24, hf⟩ := am_b1_some hf
        refine am_callv (w' := w_23) (am_runV (n := 1) (As := [.ref (G.1 + 23)]) (rest := []) ⟨hx, hb, hml, hown, hts⟩ hK hE hH (k_X7_lookAt (by decide +kernel) hq_24) (am_gV am_q670 am_q671 am_q672 am_q9 am_q673) (am_o7 (p := 250) (by decide +kernel)) rfl ⟨rfl, rfl⟩ (by decide +kernel) ⟨Nat.le_of_ble_eq_true rfl, Nat.le_of_ble_eq_true rfl⟩ rfl hl.1 rfl (Nat.le_of_ble_eq_true rfl) ⟨Nat.zero_le _, Nat.zero_le _⟩ dX11_bestHelper_27) hH (fun H locs hH => ?_)
        refine lv_aload_n hx hb dX11_bestHelper_30 rfl (lv_at hl 0 rfl) ?_
        refine am_get hx hb hts hK hown hH (am_o11 (p := 0) (by decide +kernel)) rfl am_inX11 15 (by decide) am_q346 (v := .ref (G.1 + 257)) rfl dX11_bestHelper_31 ?_
        obtain ⟨r_27, w_25, hq_26, hf⟩ := am_b2_some hf
        refine am_calli (r := r_27) (w' := w_25) (am_runV (n := 0) (As := []) (rest := []) ⟨hx, hb, hml, hown, hts⟩ hK hE hH (k_X6_helperOfMost hq_26) (am_gV am_q1067 am_q1068 am_q1069 am_q11 am_q1070) (am_o6 (p := 257) (by decide +kernel)) rfl ⟨rfl, rfl⟩ (by decide +kernel) ⟨Nat.le_of_ble_eq_true rfl, Nat.le_of_ble_eq_true rfl⟩ rfl hl.1 rfl (Nat.le_of_ble_eq_true rfl) ⟨Nat.zero_le _, Nat.zero_le _⟩ dX11_bestHelper_34) hH (fun H locs hH => ?_)
        refine lv_istore_n (lv' := [(3, .int r_27), (0, .ref (G.1 + 0)), (1, .int a1), (2, .int a2)]) hx hb dX11_bestHelper_37 rfl hl (by decide) rfl (fun ls hl => ?_)
        refine lv_iload_n hx hb dX11_bestHelper_38 rfl (lv_at hl 2 rfl) ?_
        refine lv_if_ne (tgt := 44) hx hb dX11_bestHelper_39 (by decide) (fun hc_28 => ?_) (fun hc_28 => ?_)
        · have hf := (if_neg hc_28).symm.trans hf
          refine lv_iload_n hx hb dX11_bestHelper_44 rfl (lv_at hl 0 rfl) ?_
          refine lv_iconst (v := -1) hx hb dX11_bestHelper_45 (by decide) ?_
          refine lv_icmp_ne (tgt := 53) hx hb dX11_bestHelper_46 (by decide) (fun hc_29 => ?_) (fun hc_29 => ?_)
          · have hf := (if_neg hc_29).symm.trans hf
            refine lv_aload_n hx hb dX11_bestHelper_53 rfl (lv_at hl 1 rfl) ?_
            refine am_get hx hb hts hK hown hH (am_o11 (p := 0) (by decide +kernel)) rfl am_inX11 15 (by decide) am_q346 (v := .ref (G.1 + 257)) rfl dX11_bestHelper_54 ?_
            refine lv_iload_n hx hb dX11_bestHelper_57 rfl (lv_at hl 0 rfl) ?_
            obtain ⟨r_32, w_30, hq_31, hf⟩ := am_b2_some hf
            refine am_calli (r := r_32) (w' := w_30) (am_runV (n := 1) (As := [.int r_27]) (rest := []) ⟨hx, hb, hml, hown, hts⟩ hK hE hH (k_X6_othersKnownWithout hq_31) (am_gV am_q1075 am_q1072 am_q1073 am_q11 am_q1074) (am_o6 (p := 257) (by decide +kernel)) rfl ⟨rfl, rfl⟩ (by decide +kernel) ⟨Nat.le_of_ble_eq_true rfl, Nat.le_of_ble_eq_true rfl⟩ rfl hl.1 rfl (Nat.le_of_ble_eq_true rfl) ⟨Nat.zero_le _, Nat.zero_le _⟩ dX11_bestHelper_58) hH (fun H locs hH => ?_)
            refine lv_iload_n hx hb dX11_bestHelper_61 rfl (lv_at hl 3 rfl) ?_
            refine lv_iadd hx hb dX11_bestHelper_62 ?_
            exact P63 (r_32 + a2) w_30 H locs ls hf hH (lv_sub hl [] rfl)
          · have hf := (if_pos hc_29).symm.trans hf
            refine lv_iconst (v := 0) hx hb dX11_bestHelper_49 (by decide) ?_
            refine lv_goto (tgt := 63) hx hb dX11_bestHelper_50 (by decide) ?_
            exact P63 (0 : Int32) w_25 H locs ls hf hH (lv_sub hl [] rfl)
        · have hf := (if_pos hc_28).symm.trans hf
          refine lv_iload_n hx hb dX11_bestHelper_42 rfl (lv_at hl 0 rfl) ?_
          exact am_reti hx hb hr hlocks hH hf dX11_bestHelper_43
      · have hf := (if_neg hc_22).symm.trans hf
        exact P16 w_17 H locs ls hf hH (lv_sub hl [] rfl)

def f_X11_key (a1 : Int32) (w : am_S) : Option (Int32 × am_S) :=
  am_b2 (f_X11_bestHelper a1 (1 : Int32) w) fun r_6 w_4 => some (r_6, w_4)
set_option maxRecDepth 100000 in
set_option maxHeartbeats 4000000 in
theorem k_X11_key {G : am_G} {l : Launch} {a1 : Int32}  {w : am_S} {rr : Int32} {ww : am_S} (hf : f_X11_key a1 w = some (rr, ww)) : am_Mi G l yX11_key (Cond.code yX11_key cX11_key 2 (some .int) :: am_T) { frames := 7, cells := 0, slots := 0, locals := 448 } [.ref (G.1 + 0), .int a1] w rr ww := by
  refine Met.ofW (cc := cX11_key) (maxL := 2) (ret := (some .int)) (by decide) rfl ?_
  intro p e s m args below meth c s₁ B hml hv
  obtain ⟨rfl, hx, hb, hr, hts, hown, hlocks, hK, hE, hH⟩ := am_begin B hv
  have hown : s.vm.findClass RX11 = some m.cls := hown
  show W p l e { frames := 7, cells := 0, slots := 0, locals := 448 } s m _ below meth c s.heap [] 0 0 _ _
  refine am_enter (lv := [(0, .ref (G.1 + 0)), (1, .int a1)]) (Nat.le_of_ble_eq_true rfl) rfl (fun ls hl => ?_)
  unfold f_X11_key at hf
  refine am_start hH (fun H locs hH => ?_)
  refine lv_aload_n hx hb dX11_key_0 rfl (lv_at hl 0 rfl) ?_
  refine lv_iload_n hx hb dX11_key_1 rfl (lv_at hl 1 rfl) ?_
  refine lv_iconst (v := 1) hx hb dX11_key_2 (by decide) ?_
  obtain ⟨r_6, w_4, hq_5, hf⟩ := am_b2_some hf
  refine am_calli (r := r_6) (w' := w_4) (am_runV (n := 2) (As := [.int a1, .int (1 : Int32)]) (rest := []) ⟨hx, hb, hml, hown, hts⟩ hK hE hH (k_X11_bestHelper hq_5) (am_gV am_q1063 am_q1065 am_qs37 am_q1 am_q1066) (am_o11 (p := 0) (by decide +kernel)) rfl ⟨rfl, rfl⟩ (by decide +kernel) ⟨Nat.le_of_ble_eq_true rfl, Nat.le_of_ble_eq_true rfl⟩ rfl hl.1 rfl (Nat.le_of_ble_eq_true rfl) ⟨Nat.zero_le _, Nat.zero_le _⟩ dX11_key_3) hH (fun H locs hH => ?_)
  exact am_reti hx hb hr hlocks hH hf dX11_key_6

def f_X11_less (a1 : Int32) (w : am_S) : Option (Int32 × am_S) :=
  am_b2 (f_X11_bestHelper a1 (0 : Int32) w) fun r_6 w_4 => some (r_6, w_4)
set_option maxRecDepth 100000 in
set_option maxHeartbeats 4000000 in
theorem k_X11_less {G : am_G} {l : Launch} {a1 : Int32}  {w : am_S} {rr : Int32} {ww : am_S} (hf : f_X11_less a1 w = some (rr, ww)) : am_Mi G l yX11_less (Cond.code yX11_less cX11_less 2 (some .int) :: am_T) { frames := 7, cells := 0, slots := 0, locals := 448 } [.ref (G.1 + 0), .int a1] w rr ww := by
  refine Met.ofW (cc := cX11_less) (maxL := 2) (ret := (some .int)) (by decide) rfl ?_
  intro p e s m args below meth c s₁ B hml hv
  obtain ⟨rfl, hx, hb, hr, hts, hown, hlocks, hK, hE, hH⟩ := am_begin B hv
  have hown : s.vm.findClass RX11 = some m.cls := hown
  show W p l e { frames := 7, cells := 0, slots := 0, locals := 448 } s m _ below meth c s.heap [] 0 0 _ _
  refine am_enter (lv := [(0, .ref (G.1 + 0)), (1, .int a1)]) (Nat.le_of_ble_eq_true rfl) rfl (fun ls hl => ?_)
  unfold f_X11_less at hf
  refine am_start hH (fun H locs hH => ?_)
  refine lv_aload_n hx hb dX11_less_0 rfl (lv_at hl 0 rfl) ?_
  refine lv_iload_n hx hb dX11_less_1 rfl (lv_at hl 1 rfl) ?_
  refine lv_iconst (v := 0) hx hb dX11_less_2 (by decide) ?_
  obtain ⟨r_6, w_4, hq_5, hf⟩ := am_b2_some hf
  refine am_calli (r := r_6) (w' := w_4) (am_runV (n := 2) (As := [.int a1, .int (0 : Int32)]) (rest := []) ⟨hx, hb, hml, hown, hts⟩ hK hE hH (k_X11_bestHelper hq_5) (am_gV am_q1063 am_q1065 am_qs37 am_q1 am_q1066) (am_o11 (p := 0) (by decide +kernel)) rfl ⟨rfl, rfl⟩ (by decide +kernel) ⟨Nat.le_of_ble_eq_true rfl, Nat.le_of_ble_eq_true rfl⟩ rfl hl.1 rfl (Nat.le_of_ble_eq_true rfl) ⟨Nat.zero_le _, Nat.zero_le _⟩ dX11_less_3) hH (fun H locs hH => ?_)
  exact am_reti hx hb hr hlocks hH hf dX11_less_6

def f_X11_noDegrees_15  (s0 : Int32) (w : am_S) : Option (Int32 × am_S) :=
  am_nar .boolean s0 (some (s0, w))
def f_X11_noDegrees  (w : am_S) : Option (Int32 × am_S) :=
  if (w.1 11 13) = 0 then (f_X11_noDegrees_15 (1 : Int32) w) else (f_X11_noDegrees_15 (0 : Int32) w)
set_option maxRecDepth 100000 in
set_option maxHeartbeats 4000000 in
theorem k_X11_noDegrees {G : am_G} {l : Launch}   {w : am_S} {rr : Int32} {ww : am_S} (hf : f_X11_noDegrees  w = some (rr, ww)) : am_Mi G l yX11_noDegrees (Cond.code yX11_noDegrees cX11_noDegrees 1 (some .boolean) :: am_T) { frames := 0, cells := 0, slots := 0, locals := 0 } [.ref (G.1 + 0)] w rr ww := by
  refine Met.ofW (cc := cX11_noDegrees) (maxL := 1) (ret := (some .boolean)) (by decide) rfl ?_
  intro p e s m args below meth c s₁ B hml hv
  obtain ⟨rfl, hx, hb, hr, hts, hown, hlocks, hK, hE, hH⟩ := am_begin B hv
  have hown : s.vm.findClass RX11 = some m.cls := hown
  show W p l e { frames := 0, cells := 0, slots := 0, locals := 0 } s m _ below meth c s.heap [] 0 0 _ _
  have P15 : ∀ (s0 : Int32) (w : am_S) (H : Heap) (locs : List Loc) (ls : Array Slot), f_X11_noDegrees_15 s0 w = some (rr, ww) → am_H G w s H locs → lv_has ls 1 [] → W p l e { frames := 0, cells := 0, slots := 0, locals := 0 } s m [.ref (G.1 + 0)].toArray below meth c H locs 0 0 (MQ below (va_Qi (fun (x : Int32) (u : am_S) => x = rr ∧ u = ww) (am_U G) (am_A G)) [.ref (G.1 + 0)].toArray s 0 0 (am_A G)) (F0 m 15 ls [.int s0]) := by
    intro s0 w H locs ls hf hH hl
    unfold f_X11_noDegrees_15 at hf
    obtain ⟨hr_2, hf⟩ := am_nar_some hf
    exact am_retz hx hb hr hr_2.1 hlocks hH hf dX11_noDegrees_15
  refine am_enter (lv := [(0, .ref (G.1 + 0))]) (Nat.le_of_ble_eq_true rfl) rfl (fun ls hl => ?_)
  unfold f_X11_noDegrees at hf
  refine am_start hH (fun H locs hH => ?_)
  refine lv_aload_n hx hb dX11_noDegrees_0 rfl (lv_at hl 0 rfl) ?_
  refine am_get hx hb hts hK hown hH (am_o11 (p := 0) (by decide +kernel)) rfl am_inX11 2 (by decide) am_q333 (v := .ref (G.1 + 11)) rfl dX11_noDegrees_1 ?_
  refine am_get hx hb hts hK hown hH (am_o1 (p := 11) (by decide +kernel)) rfl am_inX1 13 (by decide) am_q113 (v := .int (w.1 11 13)) rfl dX11_noDegrees_4 ?_
  refine lv_if_ne (tgt := 14) hx hb dX11_noDegrees_7 (by decide) (fun hc_3 => ?_) (fun hc_3 => ?_)
  · have hf := (if_neg hc_3).symm.trans hf
    refine lv_iconst (v := 0) hx hb dX11_noDegrees_14 (by decide) ?_
    exact P15 (0 : Int32) w H locs ls hf hH (lv_sub hl [] rfl)
  · have hf := (if_pos hc_3).symm.trans hf
    refine lv_iconst (v := 1) hx hb dX11_noDegrees_10 (by decide) ?_
    refine lv_goto (tgt := 15) hx hb dX11_noDegrees_11 (by decide) ?_
    exact P15 (1 : Int32) w H locs ls hf hH (lv_sub hl [] rfl)

def f_X5_allCopies_4b  (x1 : Int32) (x2 : Int32) (w : am_S) : Option ((Int32 × am_S) ⊕ (Int32 × Int32 × am_S)) :=
  if (6 : Int32) < x2 then (am_x (some (x1, w))) else (am_chk x2 7 (am_v (x1 + (x2 * (w.1 18 x2.toNatClampNeg))) fun (x1_8 : Int32) => am_v (x2 + (1 : Int32)) fun (x2_9 : Int32) => some (.inr (x1_8, x2_9, w))))
def f_X5_allCopies_4  (x1 : Int32) (x2 : Int32) (w : am_S) : Option (Int32 × am_S) :=
  am_loop (fun (st : (Int32 × Int32 × am_S)) => f_X5_allCopies_4b st.1 st.2.1 st.2.2) am_fuel (x1, x2, w)
def f_X5_allCopies  (w : am_S) : Option (Int32 × am_S) :=
  f_X5_allCopies_4 (0 : Int32) (1 : Int32) w
set_option maxRecDepth 100000 in
set_option maxHeartbeats 4000000 in
theorem k_X5_allCopies {G : am_G} {l : Launch}   {w : am_S} {rr : Int32} {ww : am_S} (hf : f_X5_allCopies  w = some (rr, ww)) : am_Mi G l yX5_allCopies (Cond.code yX5_allCopies cX5_allCopies 3 (some .int) :: am_T) { frames := 0, cells := 0, slots := 0, locals := 0 } [.ref (G.1 + 258)] w rr ww := by
  refine Met.ofW (cc := cX5_allCopies) (maxL := 3) (ret := (some .int)) (by decide) rfl ?_
  intro p e s m args below meth c s₁ B hml hv
  obtain ⟨rfl, hx, hb, hr, hts, hown, hlocks, hK, hE, hH⟩ := am_begin B hv
  have hown : s.vm.findClass RX5 = some m.cls := hown
  show W p l e { frames := 0, cells := 0, slots := 0, locals := 0 } s m _ below meth c s.heap [] 0 0 _ _
  have P4 : ∀ (n1 : Nat) (x1 : Int32) (x2 : Int32) (w : am_S) (H : Heap) (locs : List Loc) (ls : Array Slot), am_loop (fun (st : (Int32 × Int32 × am_S)) => f_X5_allCopies_4b st.1 st.2.1 st.2.2) n1 (x1, x2, w) = some (rr, ww) → am_H G w s H locs → lv_has ls 3 [(0, .ref (G.1 + 258)), (1, .int x1), (2, .int x2)] → W p l e { frames := 0, cells := 0, slots := 0, locals := 0 } s m [.ref (G.1 + 258)].toArray below meth c H locs 0 0 (MQ below (va_Qi (fun (x : Int32) (u : am_S) => x = rr ∧ u = ww) (am_U G) (am_A G)) [.ref (G.1 + 258)].toArray s 0 0 (am_A G)) (F0 m 4 ls []) := by
    intro n1
    induction n1 with
    | zero =>
      intro x1 x2 w H locs ls hf hH hl
      exact (am_loop_zero hf).elim
    | succ n1 ih1 =>
      intro x1 x2 w H locs ls hf hH hl
      obtain ⟨z1, hf, hk1⟩ := am_loop_succ hf
      have hf : f_X5_allCopies_4b x1 x2 w = some z1 := hf
      unfold f_X5_allCopies_4b at hf
      refine lv_iload_n hx hb dX5_allCopies_4 rfl (lv_at hl 2 rfl) ?_
      refine lv_bipush (v := 6) hx hb dX5_allCopies_5 (by decide) ?_
      refine lv_icmp_gt (tgt := 30) hx hb dX5_allCopies_7 (by decide) (fun hc_5 => ?_) (fun hc_5 => ?_)
      · have hf := (if_pos hc_5).symm.trans hf
        obtain ⟨y_6, hf, hzy_6⟩ := am_x_some hf
        rw [hzy_6] at hk1
        have hf := hf.trans (congrArg some (show y_6 = (rr, ww) from hk1))
        refine lv_iload_n hx hb dX5_allCopies_30 rfl (lv_at hl 1 rfl) ?_
        exact am_reti hx hb hr hlocks hH hf dX5_allCopies_31
      · have hf := (if_neg hc_5).symm.trans hf
        refine lv_iload_n hx hb dX5_allCopies_10 rfl (lv_at hl 1 rfl) ?_
        refine lv_iload_n hx hb dX5_allCopies_11 rfl (lv_at hl 2 rfl) ?_
        refine lv_aload_n hx hb dX5_allCopies_12 rfl (lv_at hl 0 rfl) ?_
        refine am_get hx hb hts hK hown hH (am_o5 (p := 258) (by decide +kernel)) rfl am_inX5 0 (by decide) am_q327 (v := .ref (G.1 + 11)) rfl dX5_allCopies_13 ?_
        refine am_get hx hb hts hK hown hH (am_o1 (p := 11) (by decide +kernel)) rfl am_inX1 6 (by decide) am_q86 (v := .ref (G.1 + 18)) rfl dX5_allCopies_16 ?_
        refine lv_iload_n hx hb dX5_allCopies_19 rfl (lv_at hl 2 rfl) ?_
        obtain ⟨hi_7, hf⟩ := am_chk_some hf
        refine am_iald hx hb hK hH (am_ai_of (N := 7) (by decide +kernel)) hi_7 dX5_allCopies_20 ?_
        refine lv_imul hx hb dX5_allCopies_21 ?_
        refine lv_iadd hx hb dX5_allCopies_22 ?_
        obtain ⟨x1_8, hx1_8, hf⟩ := am_v_some hf
        refine am_topi hx1_8 ?_
        refine lv_istore_n (lv' := [(1, .int x1_8), (0, .ref (G.1 + 258)), (2, .int x2)]) hx hb dX5_allCopies_23 rfl hl (by decide) rfl (fun ls hl => ?_)
        obtain ⟨x2_9, hx2_9, hf⟩ := am_v_some hf
        refine lv_iinc (v := x2_9) (lv' := [(2, .int x2_9), (1, .int x1_8), (0, .ref (G.1 + 258))]) hx hb dX5_allCopies_24 hl (k := 2) rfl (by rw [hx2_9]; rfl) (by decide) rfl (fun ls hl => ?_)
        refine lv_goto (tgt := 4) hx hb dX5_allCopies_27 (by decide) ?_
        obtain rfl := Option.some.inj hf
        exact ih1 x1_8 x2_9 w H locs ls hk1 hH (lv_sub hl [2, 1, 0] rfl)
  refine am_enter (lv := [(0, .ref (G.1 + 258))]) (Nat.le_of_ble_eq_true rfl) rfl (fun ls hl => ?_)
  unfold f_X5_allCopies at hf
  refine am_start hH (fun H locs hH => ?_)
  refine lv_iconst (v := 0) hx hb dX5_allCopies_0 (by decide) ?_
  refine lv_istore_n (lv' := [(1, .int (0 : Int32)), (0, .ref (G.1 + 258))]) hx hb dX5_allCopies_1 rfl hl (by decide) rfl (fun ls hl => ?_)
  refine lv_iconst (v := 1) hx hb dX5_allCopies_2 (by decide) ?_
  refine lv_istore_n (lv' := [(2, .int (1 : Int32)), (1, .int (0 : Int32)), (0, .ref (G.1 + 258))]) hx hb dX5_allCopies_3 rfl hl (by decide) rfl (fun ls hl => ?_)
  exact P4 am_fuel (0 : Int32) (1 : Int32) w H locs ls hf hH (lv_sub hl [2, 1, 0] rfl)

def f_X5_reach_20  (w : am_S) : Option (UInt64 × am_S) :=
  some (FP.dconst0, w)
def f_X5_reach_59  (s0 : UInt64) (w : am_S) : Option (UInt64 × am_S) :=
  some (s0, w)
def f_X5_reach  (w : am_S) : Option (UInt64 × am_S) :=
  if (w.1 11 13) = 0 then (f_X5_reach_20 w) else (if (w.1 11 7) = 0 then (f_X5_reach_20 w) else (am_b2 (f_X5_allCopies w) fun r_15 w_13 => am_n64 (FP.ddiv (FP.i2d r_15) (FP.i2d (w_13.1 11 13))) (am_v (FP.ddiv (FP.i2d r_15) (FP.i2d (w_13.1 11 13))) fun (x1_17 : UInt64) => am_n64 (FP.ddiv x1_17 (FP.i2d (w_13.1 11 7))) (am_v (FP.ddiv x1_17 (FP.i2d (w_13.1 11 7))) fun (x3_19 : UInt64) => if (Op.cmpValue (FP.dcmp x3_19 (FP.dconst1)) .l) ≤ 0 then (f_X5_reach_59 x3_19 w_13) else (f_X5_reach_59 (FP.dconst1) w_13)))))
set_option maxRecDepth 100000 in
set_option maxHeartbeats 4000000 in
theorem k_X5_reach {G : am_G} {l : Launch}   {w : am_S} {rr : UInt64} {ww : am_S} (hf : f_X5_reach  w = some (rr, ww)) : am_Md G l yX5_reach (Cond.code yX5_reach cX5_reach 5 (some .double) :: am_T) { frames := 1, cells := 0, slots := 0, locals := 64 } [.ref (G.1 + 258)] w rr ww := by
  refine Met.ofW (cc := cX5_reach) (maxL := 5) (ret := (some .double)) (by decide) rfl ?_
  intro p e s m args below meth c s₁ B hml hv
  obtain ⟨rfl, hx, hb, hr, hts, hown, hlocks, hK, hE, hH⟩ := am_begin B hv
  have hown : s.vm.findClass RX5 = some m.cls := hown
  show W p l e { frames := 1, cells := 0, slots := 0, locals := 64 } s m _ below meth c s.heap [] 0 0 _ _
  have P20 : ∀ (w : am_S) (H : Heap) (locs : List Loc) (ls : Array Slot), f_X5_reach_20 w = some (rr, ww) → am_H G w s H locs → lv_has ls 5 [] → W p l e { frames := 1, cells := 0, slots := 0, locals := 64 } s m [.ref (G.1 + 258)].toArray below meth c H locs 0 0 (MQ below (va_Qd (fun (x : UInt64) (u : am_S) => x = rr ∧ u = ww) (am_U G) (am_A G)) [.ref (G.1 + 258)].toArray s 0 0 (am_A G)) (F0 m 20 ls []) := by
    intro w H locs ls hf hH hl
    unfold f_X5_reach_20 at hf
    refine lv_dconst0 hx hb dX5_reach_20 ?_
    exact am_retd hx hb hr hlocks hH hf dX5_reach_21
  have P59 : ∀ (s0 : UInt64) (w : am_S) (H : Heap) (locs : List Loc) (ls : Array Slot), f_X5_reach_59 s0 w = some (rr, ww) → am_H G w s H locs → lv_has ls 5 [] → W p l e { frames := 1, cells := 0, slots := 0, locals := 64 } s m [.ref (G.1 + 258)].toArray below meth c H locs 0 0 (MQ below (va_Qd (fun (x : UInt64) (u : am_S) => x = rr ∧ u = ww) (am_U G) (am_A G)) [.ref (G.1 + 258)].toArray s 0 0 (am_A G)) (F0 m 59 ls [.double s0]) := by
    intro s0 w H locs ls hf hH hl
    unfold f_X5_reach_59 at hf
    exact am_retd hx hb hr hlocks hH hf dX5_reach_59
  refine am_enter (lv := [(0, .ref (G.1 + 258))]) (Nat.le_of_ble_eq_true rfl) rfl (fun ls hl => ?_)
  unfold f_X5_reach at hf
  refine am_start hH (fun H locs hH => ?_)
  refine lv_aload_n hx hb dX5_reach_0 rfl (lv_at hl 0 rfl) ?_
  refine am_get hx hb hts hK hown hH (am_o5 (p := 258) (by decide +kernel)) rfl am_inX5 0 (by decide) am_q327 (v := .ref (G.1 + 11)) rfl dX5_reach_1 ?_
  refine am_get hx hb hts hK hown hH (am_o1 (p := 11) (by decide +kernel)) rfl am_inX1 13 (by decide) am_q109 (v := .int (w.1 11 13)) rfl dX5_reach_4 ?_
  refine lv_if_eq (tgt := 20) hx hb dX5_reach_7 (by decide) (fun hc_11 => ?_) (fun hc_11 => ?_)
  · have hf := (if_pos hc_11).symm.trans hf
    exact P20 w H locs ls hf hH (lv_sub hl [] rfl)
  · have hf := (if_neg hc_11).symm.trans hf
    refine lv_aload_n hx hb dX5_reach_10 rfl (lv_at hl 0 rfl) ?_
    refine am_get hx hb hts hK hown hH (am_o5 (p := 258) (by decide +kernel)) rfl am_inX5 0 (by decide) am_q327 (v := .ref (G.1 + 11)) rfl dX5_reach_11 ?_
    refine am_get hx hb hts hK hown hH (am_o1 (p := 11) (by decide +kernel)) rfl am_inX1 7 (by decide) am_q91 (v := .int (w.1 11 7)) rfl dX5_reach_14 ?_
    refine lv_if_ne (tgt := 22) hx hb dX5_reach_17 (by decide) (fun hc_12 => ?_) (fun hc_12 => ?_)
    · have hf := (if_neg hc_12).symm.trans hf
      refine lv_aload_n hx hb dX5_reach_22 rfl (lv_at hl 0 rfl) ?_
      obtain ⟨r_15, w_13, hq_14, hf⟩ := am_b2_some hf
      refine am_calli (r := r_15) (w' := w_13) (am_runV (n := 0) (As := []) (rest := []) ⟨hx, hb, hml, hown, hts⟩ hK hE hH (k_X5_allCopies hq_14) (am_gV am_q1130 am_q1132 am_qs40 am_q12 am_q1133) (am_o5 (p := 258) (by decide +kernel)) rfl ⟨rfl, rfl⟩ (by decide +kernel) ⟨Nat.le_of_ble_eq_true rfl, Nat.le_of_ble_eq_true rfl⟩ rfl hl.1 rfl (Nat.le_of_ble_eq_true rfl) ⟨Nat.zero_le _, Nat.zero_le _⟩ dX5_reach_23) hH (fun H locs hH => ?_)
      refine lv_i2d hx hb dX5_reach_26 ?_
      refine lv_aload_n hx hb dX5_reach_27 rfl (lv_at hl 0 rfl) ?_
      refine am_get hx hb hts hK hown hH (am_o5 (p := 258) (by decide +kernel)) rfl am_inX5 0 (by decide) am_q327 (v := .ref (G.1 + 11)) rfl dX5_reach_28 ?_
      refine am_get hx hb hts hK hown hH (am_o1 (p := 11) (by decide +kernel)) rfl am_inX1 13 (by decide) am_q109 (v := .int (w_13.1 11 13)) rfl dX5_reach_31 ?_
      refine lv_i2d hx hb dX5_reach_34 ?_
      obtain ⟨hn_16, hf⟩ := am_n64_some hf
      refine lv_ddiv hx hb dX5_reach_35 hn_16 ?_
      obtain ⟨x1_17, hx1_17, hf⟩ := am_v_some hf
      refine am_topd hx1_17 ?_
      refine lv_dstore_n (lv' := [(1, .double x1_17), (0, .ref (G.1 + 258))]) hx hb dX5_reach_36 rfl hl (by decide) rfl (fun ls hl => ?_)
      refine lv_dload_n hx hb dX5_reach_37 rfl (lv_at hl 0 rfl) ?_
      refine lv_aload_n hx hb dX5_reach_38 rfl (lv_at hl 1 rfl) ?_
      refine am_get hx hb hts hK hown hH (am_o5 (p := 258) (by decide +kernel)) rfl am_inX5 0 (by decide) am_q327 (v := .ref (G.1 + 11)) rfl dX5_reach_39 ?_
      refine am_get hx hb hts hK hown hH (am_o1 (p := 11) (by decide +kernel)) rfl am_inX1 7 (by decide) am_q91 (v := .int (w_13.1 11 7)) rfl dX5_reach_42 ?_
      refine lv_i2d hx hb dX5_reach_45 ?_
      obtain ⟨hn_18, hf⟩ := am_n64_some hf
      refine lv_ddiv hx hb dX5_reach_46 hn_18 ?_
      obtain ⟨x3_19, hx3_19, hf⟩ := am_v_some hf
      refine am_topd hx3_19 ?_
      refine lv_dstore_n (lv' := [(3, .double x3_19), (1, .double x1_17), (0, .ref (G.1 + 258))]) hx hb dX5_reach_47 rfl hl (by decide) rfl (fun ls hl => ?_)
      refine lv_dload_n hx hb dX5_reach_48 rfl (lv_at hl 0 rfl) ?_
      refine lv_dconst1 hx hb dX5_reach_49 ?_
      refine lv_dcmp hx hb dX5_reach_50 ?_
      refine lv_if_le (tgt := 58) hx hb dX5_reach_51 (by decide) (fun hc_20 => ?_) (fun hc_20 => ?_)
      · have hf := (if_pos hc_20).symm.trans hf
        refine lv_dload_n hx hb dX5_reach_58 rfl (lv_at hl 0 rfl) ?_
        exact P59 x3_19 w_13 H locs ls hf hH (lv_sub hl [] rfl)
      · have hf := (if_neg hc_20).symm.trans hf
        refine lv_dconst1 hx hb dX5_reach_54 ?_
        refine lv_goto (tgt := 59) hx hb dX5_reach_55 (by decide) ?_
        exact P59 (FP.dconst1) w_13 H locs ls hf hH (lv_sub hl [] rfl)
    · have hf := (if_pos hc_12).symm.trans hf
      exact P20 w H locs ls hf hH (lv_sub hl [] rfl)

def f_X5_multiplied_6b (a0 : UInt64) (a1 : UInt64) (a2 : Int32) (x5 : UInt64) (x7 : Int32) (w : am_S) : Option ((UInt64 × am_S) ⊕ (UInt64 × Int32 × am_S)) :=
  if a2 ≤ x7 then (am_x (some (x5, w))) else (am_n64 (FP.dmul x5 a1) (am_v (FP.dmul x5 a1) fun (x5_8 : UInt64) => am_v (x7 + (1 : Int32)) fun (x7_9 : Int32) => some (.inr (x5_8, x7_9, w))))
def f_X5_multiplied_6 (a0 : UInt64) (a1 : UInt64) (a2 : Int32) (x5 : UInt64) (x7 : Int32) (w : am_S) : Option (UInt64 × am_S) :=
  am_loop (fun (st : (UInt64 × Int32 × am_S)) => f_X5_multiplied_6b a0 a1 a2 st.1 st.2.1 st.2.2) am_fuel (x5, x7, w)
def f_X5_multiplied (a0 : UInt64) (a1 : UInt64) (a2 : Int32) (w : am_S) : Option (UInt64 × am_S) :=
  f_X5_multiplied_6 a0 a1 a2 a0 (0 : Int32) w
set_option maxRecDepth 100000 in
set_option maxHeartbeats 4000000 in
theorem k_X5_multiplied {G : am_G} {l : Launch} {a0 : UInt64} {a1 : UInt64} {a2 : Int32}  {w : am_S} {rr : UInt64} {ww : am_S} (hf : f_X5_multiplied a0 a1 a2 w = some (rr, ww)) : am_Md G l yX5_multiplied (Cond.code yX5_multiplied cX5_multiplied 8 (some .double) :: am_T) { frames := 0, cells := 0, slots := 0, locals := 0 } [.double a0, .double a1, .int a2] w rr ww := by
  refine Met.ofW (cc := cX5_multiplied) (maxL := 8) (ret := (some .double)) (by decide) rfl ?_
  intro p e s m args below meth c s₁ B hml hv
  obtain ⟨rfl, hx, hb, hr, hts, hown, hlocks, hK, hE, hH⟩ := am_begin B hv
  have hown : s.vm.findClass RX5 = some m.cls := hown
  show W p l e { frames := 0, cells := 0, slots := 0, locals := 0 } s m _ below meth c s.heap [] 0 0 _ _
  have P6 : ∀ (n1 : Nat) (x5 : UInt64) (x7 : Int32) (w : am_S) (H : Heap) (locs : List Loc) (ls : Array Slot), am_loop (fun (st : (UInt64 × Int32 × am_S)) => f_X5_multiplied_6b a0 a1 a2 st.1 st.2.1 st.2.2) n1 (x5, x7, w) = some (rr, ww) → am_H G w s H locs → lv_has ls 8 [(2, .double a1), (4, .int a2), (5, .double x5), (7, .int x7)] → W p l e { frames := 0, cells := 0, slots := 0, locals := 0 } s m [.double a0, .double a1, .int a2].toArray below meth c H locs 0 0 (MQ below (va_Qd (fun (x : UInt64) (u : am_S) => x = rr ∧ u = ww) (am_U G) (am_A G)) [.double a0, .double a1, .int a2].toArray s 0 0 (am_A G)) (F0 m 6 ls []) := by
    intro n1
    induction n1 with
    | zero =>
      intro x5 x7 w H locs ls hf hH hl
      exact (am_loop_zero hf).elim
    | succ n1 ih1 =>
      intro x5 x7 w H locs ls hf hH hl
      obtain ⟨z1, hf, hk1⟩ := am_loop_succ hf
      have hf : f_X5_multiplied_6b a0 a1 a2 x5 x7 w = some z1 := hf
      unfold f_X5_multiplied_6b at hf
      refine lv_iload hx hb dX5_multiplied_6 (lv_at hl 3 rfl) ?_
      refine lv_iload hx hb dX5_multiplied_8 (lv_at hl 1 rfl) ?_
      refine lv_icmp_ge (tgt := 25) hx hb dX5_multiplied_10 (by decide) (fun hc_5 => ?_) (fun hc_5 => ?_)
      · have hf := (if_pos hc_5).symm.trans hf
        obtain ⟨y_6, hf, hzy_6⟩ := am_x_some hf
        rw [hzy_6] at hk1
        have hf := hf.trans (congrArg some (show y_6 = (rr, ww) from hk1))
        refine lv_dload hx hb dX5_multiplied_25 (lv_at hl 2 rfl) ?_
        exact am_retd hx hb hr hlocks hH hf dX5_multiplied_27
      · have hf := (if_neg hc_5).symm.trans hf
        refine lv_dload hx hb dX5_multiplied_13 (lv_at hl 2 rfl) ?_
        refine lv_dload_n hx hb dX5_multiplied_15 rfl (lv_at hl 0 rfl) ?_
        obtain ⟨hn_7, hf⟩ := am_n64_some hf
        refine lv_dmul hx hb dX5_multiplied_16 hn_7 ?_
        obtain ⟨x5_8, hx5_8, hf⟩ := am_v_some hf
        refine am_topd hx5_8 ?_
        refine lv_dstore (lv' := [(5, .double x5_8), (2, .double a1), (4, .int a2), (7, .int x7)]) hx hb dX5_multiplied_17 hl (by decide) rfl (fun ls hl => ?_)
        obtain ⟨x7_9, hx7_9, hf⟩ := am_v_some hf
        refine lv_iinc (v := x7_9) (lv' := [(7, .int x7_9), (5, .double x5_8), (2, .double a1), (4, .int a2)]) hx hb dX5_multiplied_19 hl (k := 3) rfl (by rw [hx7_9]; rfl) (by decide) rfl (fun ls hl => ?_)
        refine lv_goto (tgt := 6) hx hb dX5_multiplied_22 (by decide) ?_
        obtain rfl := Option.some.inj hf
        exact ih1 x5_8 x7_9 w H locs ls hk1 hH (lv_sub hl [2, 3, 1, 0] rfl)
  refine am_enter (lv := [(0, .double a0), (2, .double a1), (4, .int a2)]) (Nat.le_of_ble_eq_true rfl) rfl (fun ls hl => ?_)
  unfold f_X5_multiplied at hf
  refine am_start hH (fun H locs hH => ?_)
  refine lv_dload_n hx hb dX5_multiplied_0 rfl (lv_at hl 0 rfl) ?_
  refine lv_dstore (lv' := [(5, .double a0), (0, .double a0), (2, .double a1), (4, .int a2)]) hx hb dX5_multiplied_1 hl (by decide) rfl (fun ls hl => ?_)
  refine lv_iconst (v := 0) hx hb dX5_multiplied_3 (by decide) ?_
  refine lv_istore (lv' := [(7, .int (0 : Int32)), (5, .double a0), (0, .double a0), (2, .double a1), (4, .int a2)]) hx hb dX5_multiplied_4 hl (by decide) rfl (fun ls hl => ?_)
  exact P6 am_fuel a0 (0 : Int32) w H locs ls hf hH (lv_sub hl [3, 4, 1, 0] rfl)

def f_X5_shareByHold_77 (a1 : UInt64) (s0 : UInt64) (w : am_S) : Option (UInt64 × am_S) :=
  some (s0, w)
def f_X5_shareByHold_58 (a1 : UInt64) (x3 : Int32) (x4 : UInt64) (x6 : Int32) (w : am_S) : Option ((UInt64 × am_S) ⊕ (UInt64 × Int32 × am_S)) :=
  am_v (x6 + (1 : Int32)) fun (x6_17 : Int32) => some (.inr (x4, x6_17, w))
def f_X5_shareByHold_11b (a1 : UInt64) (x3 : Int32) (x4 : UInt64) (x6 : Int32) (w : am_S) : Option ((UInt64 × am_S) ⊕ (UInt64 × Int32 × am_S)) :=
  if (6 : Int32) < x6 then (am_x (if x3 = 0 then (f_X5_shareByHold_77 a1 (FP.dconst0) w) else (am_n64 (FP.ddiv x4 (FP.i2d x3)) (f_X5_shareByHold_77 a1 (FP.ddiv x4 (FP.i2d x3)) w)))) else (am_chk x6 7 (if (w.1 18 x6.toNatClampNeg) = 0 then (f_X5_shareByHold_58 a1 x3 x4 x6 w) else (am_chk x6 7 (am_b2 (f_X5_multiplied (FP.i2d (x6 * (w.1 18 x6.toNatClampNeg))) a1 (x6 - (1 : Int32)) w) fun r_27 w_25 => am_n64 (FP.dadd x4 r_27) (am_v (FP.dadd x4 r_27) fun (x4_29 : UInt64) => f_X5_shareByHold_58 a1 x3 x4_29 x6 w_25)))))
def f_X5_shareByHold_11 (a1 : UInt64) (x3 : Int32) (x4 : UInt64) (x6 : Int32) (w : am_S) : Option (UInt64 × am_S) :=
  am_loop (fun (st : (UInt64 × Int32 × am_S)) => f_X5_shareByHold_11b a1 x3 st.1 st.2.1 st.2.2) am_fuel (x4, x6, w)
def f_X5_shareByHold (a1 : UInt64) (w : am_S) : Option (UInt64 × am_S) :=
  am_b2 (f_X5_allCopies w) fun r_32 w_30 => am_v (FP.dconst0) fun (x4_33 : UInt64) => f_X5_shareByHold_11 a1 r_32 x4_33 (1 : Int32) w_30
set_option maxRecDepth 100000 in
set_option maxHeartbeats 4000000 in
theorem k_X5_shareByHold {G : am_G} {l : Launch} {a1 : UInt64}  {w : am_S} {rr : UInt64} {ww : am_S} (hf : f_X5_shareByHold a1 w = some (rr, ww)) : am_Md G l yX5_shareByHold (Cond.code yX5_shareByHold cX5_shareByHold 7 (some .double) :: am_T) { frames := 1, cells := 0, slots := 0, locals := 64 } [.ref (G.1 + 258), .double a1] w rr ww := by
  refine Met.ofW (cc := cX5_shareByHold) (maxL := 7) (ret := (some .double)) (by decide) rfl ?_
  intro p e s m args below meth c s₁ B hml hv
  obtain ⟨rfl, hx, hb, hr, hts, hown, hlocks, hK, hE, hH⟩ := am_begin B hv
  have hown : s.vm.findClass RX5 = some m.cls := hown
  show W p l e { frames := 1, cells := 0, slots := 0, locals := 64 } s m _ below meth c s.heap [] 0 0 _ _
  have P77 : ∀ (s0 : UInt64) (w : am_S) (H : Heap) (locs : List Loc) (ls : Array Slot), f_X5_shareByHold_77 a1 s0 w = some (rr, ww) → am_H G w s H locs → lv_has ls 7 [] → W p l e { frames := 1, cells := 0, slots := 0, locals := 64 } s m [.ref (G.1 + 258), .double a1].toArray below meth c H locs 0 0 (MQ below (va_Qd (fun (x : UInt64) (u : am_S) => x = rr ∧ u = ww) (am_U G) (am_A G)) [.ref (G.1 + 258), .double a1].toArray s 0 0 (am_A G)) (F0 m 77 ls [.double s0]) := by
    intro s0 w H locs ls hf hH hl
    unfold f_X5_shareByHold_77 at hf
    exact am_retd hx hb hr hlocks hH hf dX5_shareByHold_77
  have P11 : ∀ (x3 : Int32) (n1 : Nat) (x4 : UInt64) (x6 : Int32) (w : am_S) (H : Heap) (locs : List Loc) (ls : Array Slot), am_loop (fun (st : (UInt64 × Int32 × am_S)) => f_X5_shareByHold_11b a1 x3 st.1 st.2.1 st.2.2) n1 (x4, x6, w) = some (rr, ww) → am_H G w s H locs → lv_has ls 7 [(0, .ref (G.1 + 258)), (1, .double a1), (3, .int x3), (4, .double x4), (6, .int x6)] → W p l e { frames := 1, cells := 0, slots := 0, locals := 64 } s m [.ref (G.1 + 258), .double a1].toArray below meth c H locs 0 0 (MQ below (va_Qd (fun (x : UInt64) (u : am_S) => x = rr ∧ u = ww) (am_U G) (am_A G)) [.ref (G.1 + 258), .double a1].toArray s 0 0 (am_A G)) (F0 m 11 ls []) := by
    intro x3 n1
    induction n1 with
    | zero =>
      intro x4 x6 w H locs ls hf hH hl
      exact (am_loop_zero hf).elim
    | succ n1 ih1 =>
      intro x4 x6 w H locs ls hf hH hl
      obtain ⟨z1, hf, hk1⟩ := am_loop_succ hf
      have hf : f_X5_shareByHold_11b a1 x3 x4 x6 w = some z1 := hf
      have P58 : ∀ (x4 : UInt64) (x6 : Int32) (w : am_S) (z1 : ((UInt64 × am_S) ⊕ (UInt64 × Int32 × am_S))) (H : Heap) (locs : List Loc) (ls : Array Slot), f_X5_shareByHold_58 a1 x3 x4 x6 w = some z1 → am_lk (fun (st : (UInt64 × Int32 × am_S)) => f_X5_shareByHold_11b a1 x3 st.1 st.2.1 st.2.2) n1 (rr, ww) z1 → am_H G w s H locs → lv_has ls 7 [(0, .ref (G.1 + 258)), (1, .double a1), (3, .int x3), (4, .double x4), (6, .int x6)] → W p l e { frames := 1, cells := 0, slots := 0, locals := 64 } s m [.ref (G.1 + 258), .double a1].toArray below meth c H locs 0 0 (MQ below (va_Qd (fun (x : UInt64) (u : am_S) => x = rr ∧ u = ww) (am_U G) (am_A G)) [.ref (G.1 + 258), .double a1].toArray s 0 0 (am_A G)) (F0 m 58 ls []) := by
        intro x4 x6 w z1 H locs ls hf hk1 hH hl
        unfold f_X5_shareByHold_58 at hf
        obtain ⟨x6_17, hx6_17, hf⟩ := am_v_some hf
        refine lv_iinc (v := x6_17) (lv' := [(6, .int x6_17), (0, .ref (G.1 + 258)), (1, .double a1), (3, .int x3), (4, .double x4)]) hx hb dX5_shareByHold_58 hl (k := 4) rfl (by rw [hx6_17]; rfl) (by decide) rfl (fun ls hl => ?_)
        refine lv_goto (tgt := 11) hx hb dX5_shareByHold_61 (by decide) ?_
        obtain rfl := Option.some.inj hf
        exact ih1 x4 x6_17 w H locs ls hk1 hH (lv_sub hl [1, 2, 3, 4, 0] rfl)
      unfold f_X5_shareByHold_11b at hf
      refine lv_iload hx hb dX5_shareByHold_11 (lv_at hl 4 rfl) ?_
      refine lv_bipush (v := 6) hx hb dX5_shareByHold_13 (by decide) ?_
      refine lv_icmp_gt (tgt := 64) hx hb dX5_shareByHold_15 (by decide) (fun hc_18 => ?_) (fun hc_18 => ?_)
      · have hf := (if_pos hc_18).symm.trans hf
        obtain ⟨y_19, hf, hzy_19⟩ := am_x_some hf
        rw [hzy_19] at hk1
        have hf := hf.trans (congrArg some (show y_19 = (rr, ww) from hk1))
        refine lv_iload_n hx hb dX5_shareByHold_64 rfl (lv_at hl 2 rfl) ?_
        refine lv_if_ne (tgt := 72) hx hb dX5_shareByHold_65 (by decide) (fun hc_20 => ?_) (fun hc_20 => ?_)
        · have hf := (if_neg hc_20).symm.trans hf
          refine lv_dload hx hb dX5_shareByHold_72 (lv_at hl 3 rfl) ?_
          refine lv_iload_n hx hb dX5_shareByHold_74 rfl (lv_at hl 2 rfl) ?_
          refine lv_i2d hx hb dX5_shareByHold_75 ?_
          obtain ⟨hn_21, hf⟩ := am_n64_some hf
          refine lv_ddiv hx hb dX5_shareByHold_76 hn_21 ?_
          exact P77 (FP.ddiv x4 (FP.i2d x3)) w H locs ls hf hH (lv_sub hl [] rfl)
        · have hf := (if_pos hc_20).symm.trans hf
          refine lv_dconst0 hx hb dX5_shareByHold_68 ?_
          refine lv_goto (tgt := 77) hx hb dX5_shareByHold_69 (by decide) ?_
          exact P77 (FP.dconst0) w H locs ls hf hH (lv_sub hl [] rfl)
      · have hf := (if_neg hc_18).symm.trans hf
        refine lv_aload_n hx hb dX5_shareByHold_18 rfl (lv_at hl 0 rfl) ?_
        refine am_get hx hb hts hK hown hH (am_o5 (p := 258) (by decide +kernel)) rfl am_inX5 0 (by decide) am_q327 (v := .ref (G.1 + 11)) rfl dX5_shareByHold_19 ?_
        refine am_get hx hb hts hK hown hH (am_o1 (p := 11) (by decide +kernel)) rfl am_inX1 6 (by decide) am_q86 (v := .ref (G.1 + 18)) rfl dX5_shareByHold_22 ?_
        refine lv_iload hx hb dX5_shareByHold_25 (lv_at hl 4 rfl) ?_
        obtain ⟨hi_22, hf⟩ := am_chk_some hf
        refine am_iald hx hb hK hH (am_ai_of (N := 7) (by decide +kernel)) hi_22 dX5_shareByHold_27 ?_
        refine lv_if_eq (tgt := 58) hx hb dX5_shareByHold_28 (by decide) (fun hc_23 => ?_) (fun hc_23 => ?_)
        · have hf := (if_pos hc_23).symm.trans hf
          exact P58 x4 x6 w z1 H locs ls hf hk1 hH (lv_sub hl [0, 1, 2, 3, 4] rfl)
        · have hf := (if_neg hc_23).symm.trans hf
          refine lv_dload hx hb dX5_shareByHold_31 (lv_at hl 3 rfl) ?_
          refine lv_iload hx hb dX5_shareByHold_33 (lv_at hl 4 rfl) ?_
          refine lv_aload_n hx hb dX5_shareByHold_35 rfl (lv_at hl 0 rfl) ?_
          refine am_get hx hb hts hK hown hH (am_o5 (p := 258) (by decide +kernel)) rfl am_inX5 0 (by decide) am_q327 (v := .ref (G.1 + 11)) rfl dX5_shareByHold_36 ?_
          refine am_get hx hb hts hK hown hH (am_o1 (p := 11) (by decide +kernel)) rfl am_inX1 6 (by decide) am_q86 (v := .ref (G.1 + 18)) rfl dX5_shareByHold_39 ?_
          refine lv_iload hx hb dX5_shareByHold_42 (lv_at hl 4 rfl) ?_
          obtain ⟨hi_24, hf⟩ := am_chk_some hf
          refine am_iald hx hb hK hH (am_ai_of (N := 7) (by decide +kernel)) hi_24 dX5_shareByHold_44 ?_
          refine lv_imul hx hb dX5_shareByHold_45 ?_
          refine lv_i2d hx hb dX5_shareByHold_46 ?_
          refine lv_dload_n hx hb dX5_shareByHold_47 rfl (lv_at hl 1 rfl) ?_
          refine lv_iload hx hb dX5_shareByHold_48 (lv_at hl 4 rfl) ?_
          refine lv_iconst (v := 1) hx hb dX5_shareByHold_50 (by decide) ?_
          refine lv_isub hx hb dX5_shareByHold_51 ?_
          obtain ⟨r_27, w_25, hq_26, hf⟩ := am_b2_some hf
          refine am_calld (r := r_27) (w' := w_25) (am_runS (n := 3) (As := [.double (FP.i2d (x6 * (w.1 18 x6.toNatClampNeg))), .double a1, .int (x6 - (1 : Int32))]) (rest := [.double x4]) ⟨hx, hb, hml, hown, hts⟩ hK hE hH (k_X5_multiplied hq_26) (am_gS am_q1134 am_q1135 am_q12 am_q1136) ⟨rfl, rfl⟩ (by decide +kernel) ⟨Nat.le_of_ble_eq_true rfl, Nat.le_of_ble_eq_true rfl⟩ rfl hl.1 rfl (Nat.le_of_ble_eq_true rfl) ⟨Nat.zero_le _, Nat.zero_le _⟩ dX5_shareByHold_52) hH (fun H locs hH => ?_)
          obtain ⟨hn_28, hf⟩ := am_n64_some hf
          refine lv_dadd hx hb dX5_shareByHold_55 hn_28 ?_
          obtain ⟨x4_29, hx4_29, hf⟩ := am_v_some hf
          refine am_topd hx4_29 ?_
          refine lv_dstore (lv' := [(4, .double x4_29), (0, .ref (G.1 + 258)), (1, .double a1), (3, .int x3), (6, .int x6)]) hx hb dX5_shareByHold_56 hl (by decide) rfl (fun ls hl => ?_)
          exact P58 x4_29 x6 w_25 z1 H locs ls hf hk1 hH (lv_sub hl [1, 2, 3, 0, 4] rfl)
  refine am_enter (lv := [(0, .ref (G.1 + 258)), (1, .double a1)]) (Nat.le_of_ble_eq_true rfl) rfl (fun ls hl => ?_)
  unfold f_X5_shareByHold at hf
  refine am_start hH (fun H locs hH => ?_)
  refine lv_aload_n hx hb dX5_shareByHold_0 rfl (lv_at hl 0 rfl) ?_
  obtain ⟨r_32, w_30, hq_31, hf⟩ := am_b2_some hf
  refine am_calli (r := r_32) (w' := w_30) (am_runV (n := 0) (As := []) (rest := []) ⟨hx, hb, hml, hown, hts⟩ hK hE hH (k_X5_allCopies hq_31) (am_gV am_q1130 am_q1132 am_qs40 am_q12 am_q1133) (am_o5 (p := 258) (by decide +kernel)) rfl ⟨rfl, rfl⟩ (by decide +kernel) ⟨Nat.le_of_ble_eq_true rfl, Nat.le_of_ble_eq_true rfl⟩ rfl hl.1 rfl (Nat.le_of_ble_eq_true rfl) ⟨Nat.zero_le _, Nat.zero_le _⟩ dX5_shareByHold_1) hH (fun H locs hH => ?_)
  refine lv_istore_n (lv' := [(3, .int r_32), (0, .ref (G.1 + 258)), (1, .double a1)]) hx hb dX5_shareByHold_4 rfl hl (by decide) rfl (fun ls hl => ?_)
  refine lv_dconst0 hx hb dX5_shareByHold_5 ?_
  obtain ⟨x4_33, hx4_33, hf⟩ := am_v_some hf
  refine am_topd hx4_33 ?_
  refine lv_dstore (lv' := [(4, .double x4_33), (3, .int r_32), (0, .ref (G.1 + 258)), (1, .double a1)]) hx hb dX5_shareByHold_6 hl (by decide) rfl (fun ls hl => ?_)
  refine lv_iconst (v := 1) hx hb dX5_shareByHold_8 (by decide) ?_
  refine lv_istore (lv' := [(6, .int (1 : Int32)), (4, .double x4_33), (3, .int r_32), (0, .ref (G.1 + 258)), (1, .double a1)]) hx hb dX5_shareByHold_9 hl (by decide) rfl (fun ls hl => ?_)
  exact P11 r_32 am_fuel x4_33 (1 : Int32) w_30 H locs ls hf hH (lv_sub hl [3, 4, 2, 1, 0] rfl)

def f_X5_shareOf_11b (a1 : Int32) (a2 : Int32) (x3 : UInt64) (x5 : UInt64) (x7 : Int32) (w : am_S) : Option ((UInt64 × am_S) ⊕ (UInt64 × Int32 × am_S)) :=
  if a2 ≤ x7 then (am_x (some (x5, w))) else (am_n64 (FP.dmul x3 x5) (am_n64 (FP.dsub (FP.dconst1) (FP.dmul x3 x5)) (am_b2 (f_X5_multiplied (FP.dconst1) (FP.dsub (FP.dconst1) (FP.dmul x3 x5)) (a1 - (1 : Int32)) w) fun r_23 w_21 => am_n64 (FP.dsub (FP.dconst1) r_23) (am_b2 (f_X5_shareByHold (FP.dsub (FP.dconst1) r_23) w_21) fun r_27 w_25 => if (Op.cmpValue (FP.dcmp r_27 x5) .l) = 0 then (am_x (some (x5, w_25))) else (am_v (x7 + (1 : Int32)) fun (x7_29 : Int32) => some (.inr (r_27, x7_29, w_25)))))))
def f_X5_shareOf_11 (a1 : Int32) (a2 : Int32) (x3 : UInt64) (x5 : UInt64) (x7 : Int32) (w : am_S) : Option (UInt64 × am_S) :=
  am_loop (fun (st : (UInt64 × Int32 × am_S)) => f_X5_shareOf_11b a1 a2 x3 st.1 st.2.1 st.2.2) am_fuel (x5, x7, w)
def f_X5_shareOf (a1 : Int32) (a2 : Int32) (w : am_S) : Option (UInt64 × am_S) :=
  am_b2 (f_X5_reach w) fun r_33 w_31 => am_v (FP.dconst1) fun (x5_34 : UInt64) => f_X5_shareOf_11 a1 a2 r_33 x5_34 (0 : Int32) w_31
set_option maxRecDepth 100000 in
set_option maxHeartbeats 4000000 in
theorem k_X5_shareOf {G : am_G} {l : Launch} {a1 : Int32} {a2 : Int32}  {w : am_S} {rr : UInt64} {ww : am_S} (hf : f_X5_shareOf a1 a2 w = some (rr, ww)) : am_Md G l yX5_shareOf (Cond.code yX5_shareOf cX5_shareOf 10 (some .double) :: am_T) { frames := 2, cells := 0, slots := 0, locals := 128 } [.ref (G.1 + 258), .int a1, .int a2] w rr ww := by
  refine Met.ofW (cc := cX5_shareOf) (maxL := 10) (ret := (some .double)) (by decide) rfl ?_
  intro p e s m args below meth c s₁ B hml hv
  obtain ⟨rfl, hx, hb, hr, hts, hown, hlocks, hK, hE, hH⟩ := am_begin B hv
  have hown : s.vm.findClass RX5 = some m.cls := hown
  show W p l e { frames := 2, cells := 0, slots := 0, locals := 128 } s m _ below meth c s.heap [] 0 0 _ _
  have P11 : ∀ (x3 : UInt64) (n1 : Nat) (x5 : UInt64) (x7 : Int32) (w : am_S) (H : Heap) (locs : List Loc) (ls : Array Slot), am_loop (fun (st : (UInt64 × Int32 × am_S)) => f_X5_shareOf_11b a1 a2 x3 st.1 st.2.1 st.2.2) n1 (x5, x7, w) = some (rr, ww) → am_H G w s H locs → lv_has ls 10 [(0, .ref (G.1 + 258)), (1, .int a1), (2, .int a2), (3, .double x3), (5, .double x5), (7, .int x7)] → W p l e { frames := 2, cells := 0, slots := 0, locals := 128 } s m [.ref (G.1 + 258), .int a1, .int a2].toArray below meth c H locs 0 0 (MQ below (va_Qd (fun (x : UInt64) (u : am_S) => x = rr ∧ u = ww) (am_U G) (am_A G)) [.ref (G.1 + 258), .int a1, .int a2].toArray s 0 0 (am_A G)) (F0 m 11 ls []) := by
    intro x3 n1
    induction n1 with
    | zero =>
      intro x5 x7 w H locs ls hf hH hl
      exact (am_loop_zero hf).elim
    | succ n1 ih1 =>
      intro x5 x7 w H locs ls hf hH hl
      obtain ⟨z1, hf, hk1⟩ := am_loop_succ hf
      have hf : f_X5_shareOf_11b a1 a2 x3 x5 x7 w = some z1 := hf
      unfold f_X5_shareOf_11b at hf
      refine lv_iload hx hb dX5_shareOf_11 (lv_at hl 5 rfl) ?_
      refine lv_iload_n hx hb dX5_shareOf_13 rfl (lv_at hl 2 rfl) ?_
      refine lv_icmp_ge (tgt := 59) hx hb dX5_shareOf_14 (by decide) (fun hc_17 => ?_) (fun hc_17 => ?_)
      · have hf := (if_pos hc_17).symm.trans hf
        obtain ⟨y_18, hf, hzy_18⟩ := am_x_some hf
        rw [hzy_18] at hk1
        have hf := hf.trans (congrArg some (show y_18 = (rr, ww) from hk1))
        refine lv_dload hx hb dX5_shareOf_59 (lv_at hl 4 rfl) ?_
        exact am_retd hx hb hr hlocks hH hf dX5_shareOf_61
      · have hf := (if_neg hc_17).symm.trans hf
        refine lv_aload_n hx hb dX5_shareOf_17 rfl (lv_at hl 0 rfl) ?_
        refine lv_dconst1 hx hb dX5_shareOf_18 ?_
        refine lv_dconst1 hx hb dX5_shareOf_19 ?_
        refine lv_dconst1 hx hb dX5_shareOf_20 ?_
        refine lv_dload_n hx hb dX5_shareOf_21 rfl (lv_at hl 3 rfl) ?_
        refine lv_dload hx hb dX5_shareOf_22 (lv_at hl 4 rfl) ?_
        obtain ⟨hn_19, hf⟩ := am_n64_some hf
        refine lv_dmul hx hb dX5_shareOf_24 hn_19 ?_
        obtain ⟨hn_20, hf⟩ := am_n64_some hf
        refine lv_dsub hx hb dX5_shareOf_25 hn_20 ?_
        refine lv_iload_n hx hb dX5_shareOf_26 rfl (lv_at hl 1 rfl) ?_
        refine lv_iconst (v := 1) hx hb dX5_shareOf_27 (by decide) ?_
        refine lv_isub hx hb dX5_shareOf_28 ?_
        obtain ⟨r_23, w_21, hq_22, hf⟩ := am_b2_some hf
        refine am_calld (r := r_23) (w' := w_21) (am_runS (n := 3) (As := [.double (FP.dconst1), .double (FP.dsub (FP.dconst1) (FP.dmul x3 x5)), .int (a1 - (1 : Int32))]) (rest := [.double (FP.dconst1), .ref (G.1 + 258)]) ⟨hx, hb, hml, hown, hts⟩ hK hE hH (k_X5_multiplied hq_22) (am_gS am_q1134 am_q1135 am_q12 am_q1136) ⟨rfl, rfl⟩ (by decide +kernel) ⟨Nat.le_of_ble_eq_true rfl, Nat.le_of_ble_eq_true rfl⟩ rfl hl.1 rfl (Nat.le_of_ble_eq_true rfl) ⟨Nat.zero_le _, Nat.zero_le _⟩ dX5_shareOf_29) hH (fun H locs hH => ?_)
        obtain ⟨hn_24, hf⟩ := am_n64_some hf
        refine lv_dsub hx hb dX5_shareOf_32 hn_24 ?_
        obtain ⟨r_27, w_25, hq_26, hf⟩ := am_b2_some hf
        refine am_calld (r := r_27) (w' := w_25) (am_runV (n := 1) (As := [.double (FP.dsub (FP.dconst1) r_23)]) (rest := []) ⟨hx, hb, hml, hown, hts⟩ hK hE hH (k_X5_shareByHold hq_26) (am_gV am_q1137 am_q1139 am_qs41 am_q12 am_q1140) (am_o5 (p := 258) (by decide +kernel)) rfl ⟨rfl, rfl⟩ (by decide +kernel) ⟨Nat.le_of_ble_eq_true rfl, Nat.le_of_ble_eq_true rfl⟩ rfl hl.1 rfl (Nat.le_of_ble_eq_true rfl) ⟨Nat.zero_le _, Nat.zero_le _⟩ dX5_shareOf_33) hH (fun H locs hH => ?_)
        refine lv_dstore (lv' := [(8, .double r_27), (0, .ref (G.1 + 258)), (1, .int a1), (2, .int a2), (3, .double x3), (5, .double x5), (7, .int x7)]) hx hb dX5_shareOf_36 hl (by decide) rfl (fun ls hl => ?_)
        refine lv_dload hx hb dX5_shareOf_38 (lv_at hl 0 rfl) ?_
        refine lv_dload hx hb dX5_shareOf_40 (lv_at hl 5 rfl) ?_
        refine lv_dcmp hx hb dX5_shareOf_42 ?_
        refine lv_if_ne (tgt := 49) hx hb dX5_shareOf_43 (by decide) (fun hc_28 => ?_) (fun hc_28 => ?_)
        · have hf := (if_neg hc_28).symm.trans hf
          refine lv_dload hx hb dX5_shareOf_49 (lv_at hl 0 rfl) ?_
          refine lv_dstore (lv' := [(5, .double r_27), (8, .double r_27), (0, .ref (G.1 + 258)), (1, .int a1), (2, .int a2), (3, .double x3), (7, .int x7)]) hx hb dX5_shareOf_51 hl (by decide) rfl (fun ls hl => ?_)
          obtain ⟨x7_29, hx7_29, hf⟩ := am_v_some hf
          refine lv_iinc (v := x7_29) (lv' := [(7, .int x7_29), (5, .double r_27), (8, .double r_27), (0, .ref (G.1 + 258)), (1, .int a1), (2, .int a2), (3, .double x3)]) hx hb dX5_shareOf_53 hl (k := 6) rfl (by rw [hx7_29]; rfl) (by decide) rfl (fun ls hl => ?_)
          refine lv_goto (tgt := 11) hx hb dX5_shareOf_56 (by decide) ?_
          obtain rfl := Option.some.inj hf
          exact ih1 r_27 x7_29 w_25 H locs ls hk1 hH (lv_sub hl [3, 4, 5, 6, 1, 0] rfl)
        · have hf := (if_pos hc_28).symm.trans hf
          obtain ⟨y_30, hf, hzy_30⟩ := am_x_some hf
          rw [hzy_30] at hk1
          have hf := hf.trans (congrArg some (show y_30 = (rr, ww) from hk1))
          refine lv_dload hx hb dX5_shareOf_46 (lv_at hl 5 rfl) ?_
          exact am_retd hx hb hr hlocks hH hf dX5_shareOf_48
  refine am_enter (lv := [(0, .ref (G.1 + 258)), (1, .int a1), (2, .int a2)]) (Nat.le_of_ble_eq_true rfl) rfl (fun ls hl => ?_)
  unfold f_X5_shareOf at hf
  refine am_start hH (fun H locs hH => ?_)
  refine lv_aload_n hx hb dX5_shareOf_0 rfl (lv_at hl 0 rfl) ?_
  obtain ⟨r_33, w_31, hq_32, hf⟩ := am_b2_some hf
  refine am_calld (r := r_33) (w' := w_31) (am_runV (n := 0) (As := []) (rest := []) ⟨hx, hb, hml, hown, hts⟩ hK hE hH (k_X5_reach hq_32) (am_gV am_q1126 am_q1128 am_qs39 am_q12 am_q1129) (am_o5 (p := 258) (by decide +kernel)) rfl ⟨rfl, rfl⟩ (by decide +kernel) ⟨Nat.le_of_ble_eq_true rfl, Nat.le_of_ble_eq_true rfl⟩ rfl hl.1 rfl (Nat.le_of_ble_eq_true rfl) ⟨Nat.zero_le _, Nat.zero_le _⟩ dX5_shareOf_1) hH (fun H locs hH => ?_)
  refine lv_dstore_n (lv' := [(3, .double r_33), (0, .ref (G.1 + 258)), (1, .int a1), (2, .int a2)]) hx hb dX5_shareOf_4 rfl hl (by decide) rfl (fun ls hl => ?_)
  refine lv_dconst1 hx hb dX5_shareOf_5 ?_
  obtain ⟨x5_34, hx5_34, hf⟩ := am_v_some hf
  refine am_topd hx5_34 ?_
  refine lv_dstore (lv' := [(5, .double x5_34), (3, .double r_33), (0, .ref (G.1 + 258)), (1, .int a1), (2, .int a2)]) hx hb dX5_shareOf_6 hl (by decide) rfl (fun ls hl => ?_)
  refine lv_iconst (v := 0) hx hb dX5_shareOf_8 (by decide) ?_
  refine lv_istore (lv' := [(7, .int (0 : Int32)), (5, .double x5_34), (3, .double r_33), (0, .ref (G.1 + 258)), (1, .int a1), (2, .int a2)]) hx hb dX5_shareOf_9 hl (by decide) rfl (fun ls hl => ?_)
  exact P11 r_33 am_fuel x5_34 (0 : Int32) w_31 H locs ls hf hH (lv_sub hl [3, 4, 5, 2, 1, 0] rfl)

def f_X11_limit_12b  (x1 : Int32) (w : am_S) : Option ((Int32 × am_S) ⊕ (Int32 × am_S)) :=
  if x1 < (1 : Int32) then (am_x (some ((-1 : Int32), w))) else (am_b2 (f_X5_shareOf x1 (40 : Int32) w) fun r_15 w_13 => if 0 ≤ (Op.cmpValue (FP.dcmp r_15 (4562254508917369340 : UInt64)) .g) then (am_v (x1 + (-1 : Int32)) fun (x1_17 : Int32) => some (.inr (x1_17, w_13))) else (am_x (some (x1, w_13))))
def f_X11_limit_12  (x1 : Int32) (w : am_S) : Option (Int32 × am_S) :=
  am_loop (fun (st : (Int32 × am_S)) => f_X11_limit_12b st.1 st.2) am_fuel (x1, w)
def f_X11_limit  (w : am_S) : Option (Int32 × am_S) :=
  am_b2 (f_X11_noDegrees w) fun r_21 w_19 => if r_21 = 0 then (f_X11_limit_12 (60 : Int32) w_19) else (some ((-1 : Int32), w_19))
set_option maxRecDepth 100000 in
set_option maxHeartbeats 4000000 in
theorem k_X11_limit {G : am_G} {l : Launch}   {w : am_S} {rr : Int32} {ww : am_S} (hf : f_X11_limit  w = some (rr, ww)) : am_Mi G l yX11_limit (Cond.code yX11_limit cX11_limit 2 (some .int) :: am_T) { frames := 3, cells := 0, slots := 0, locals := 192 } [.ref (G.1 + 0)] w rr ww := by
  refine Met.ofW (cc := cX11_limit) (maxL := 2) (ret := (some .int)) (by decide) rfl ?_
  intro p e s m args below meth c s₁ B hml hv
  obtain ⟨rfl, hx, hb, hr, hts, hown, hlocks, hK, hE, hH⟩ := am_begin B hv
  have hown : s.vm.findClass RX11 = some m.cls := hown
  show W p l e { frames := 3, cells := 0, slots := 0, locals := 192 } s m _ below meth c s.heap [] 0 0 _ _
  have P12 : ∀ (n1 : Nat) (x1 : Int32) (w : am_S) (H : Heap) (locs : List Loc) (ls : Array Slot), am_loop (fun (st : (Int32 × am_S)) => f_X11_limit_12b st.1 st.2) n1 (x1, w) = some (rr, ww) → am_H G w s H locs → lv_has ls 2 [(0, .ref (G.1 + 0)), (1, .int x1)] → W p l e { frames := 3, cells := 0, slots := 0, locals := 192 } s m [.ref (G.1 + 0)].toArray below meth c H locs 0 0 (MQ below (va_Qi (fun (x : Int32) (u : am_S) => x = rr ∧ u = ww) (am_U G) (am_A G)) [.ref (G.1 + 0)].toArray s 0 0 (am_A G)) (F0 m 12 ls []) := by
    intro n1
    induction n1 with
    | zero =>
      intro x1 w H locs ls hf hH hl
      exact (am_loop_zero hf).elim
    | succ n1 ih1 =>
      intro x1 w H locs ls hf hH hl
      obtain ⟨z1, hf, hk1⟩ := am_loop_succ hf
      have hf : f_X11_limit_12b x1 w = some z1 := hf
      unfold f_X11_limit_12b at hf
      refine lv_iload_n hx hb dX11_limit_12 rfl (lv_at hl 1 rfl) ?_
      refine lv_iconst (v := 1) hx hb dX11_limit_13 (by decide) ?_
      refine lv_icmp_lt (tgt := 42) hx hb dX11_limit_14 (by decide) (fun hc_11 => ?_) (fun hc_11 => ?_)
      · have hf := (if_pos hc_11).symm.trans hf
        obtain ⟨y_12, hf, hzy_12⟩ := am_x_some hf
        rw [hzy_12] at hk1
        have hf := hf.trans (congrArg some (show y_12 = (rr, ww) from hk1))
        refine lv_iconst (v := -1) hx hb dX11_limit_42 (by decide) ?_
        exact am_reti hx hb hr hlocks hH hf dX11_limit_43
      · have hf := (if_neg hc_11).symm.trans hf
        refine lv_aload_n hx hb dX11_limit_17 rfl (lv_at hl 0 rfl) ?_
        refine am_get hx hb hts hK hown hH (am_o11 (p := 0) (by decide +kernel)) rfl am_inX11 16 (by decide) am_q347 (v := .ref (G.1 + 258)) rfl dX11_limit_18 ?_
        refine lv_iload_n hx hb dX11_limit_21 rfl (lv_at hl 1 rfl) ?_
        refine lv_bipush (v := 40) hx hb dX11_limit_22 (by decide) ?_
        obtain ⟨r_15, w_13, hq_14, hf⟩ := am_b2_some hf
        refine am_calld (r := r_15) (w' := w_13) (am_runV (n := 2) (As := [.int x1, .int (40 : Int32)]) (rest := []) ⟨hx, hb, hml, hown, hts⟩ hK hE hH (k_X5_shareOf hq_14) (am_gV am_q1122 am_q1123 am_q1124 am_q12 am_q1125) (am_o5 (p := 258) (by decide +kernel)) rfl ⟨rfl, rfl⟩ (by decide +kernel) ⟨Nat.le_of_ble_eq_true rfl, Nat.le_of_ble_eq_true rfl⟩ rfl hl.1 rfl (Nat.le_of_ble_eq_true rfl) ⟨Nat.zero_le _, Nat.zero_le _⟩ dX11_limit_24) hH (fun H locs hH => ?_)
        refine lv_ldc2d (v := 4562254508917369340) hx hb hown (hts _ am_q1151) dX11_limit_27 ?_
        refine lv_dcmp hx hb dX11_limit_30 ?_
        refine lv_if_ge (tgt := 36) hx hb dX11_limit_31 (by decide) (fun hc_16 => ?_) (fun hc_16 => ?_)
        · have hf := (if_pos hc_16).symm.trans hf
          obtain ⟨x1_17, hx1_17, hf⟩ := am_v_some hf
          refine lv_iinc (v := x1_17) (lv' := [(1, .int x1_17), (0, .ref (G.1 + 0))]) hx hb dX11_limit_36 hl (k := 1) rfl (by rw [hx1_17]; rfl) (by decide) rfl (fun ls hl => ?_)
          refine lv_goto (tgt := 12) hx hb dX11_limit_39 (by decide) ?_
          obtain rfl := Option.some.inj hf
          exact ih1 x1_17 w_13 H locs ls hk1 hH (lv_sub hl [1, 0] rfl)
        · have hf := (if_neg hc_16).symm.trans hf
          obtain ⟨y_18, hf, hzy_18⟩ := am_x_some hf
          rw [hzy_18] at hk1
          have hf := hf.trans (congrArg some (show y_18 = (rr, ww) from hk1))
          refine lv_iload_n hx hb dX11_limit_34 rfl (lv_at hl 1 rfl) ?_
          exact am_reti hx hb hr hlocks hH hf dX11_limit_35
  refine am_enter (lv := [(0, .ref (G.1 + 0))]) (Nat.le_of_ble_eq_true rfl) rfl (fun ls hl => ?_)
  unfold f_X11_limit at hf
  refine am_start hH (fun H locs hH => ?_)
  refine lv_aload_n hx hb dX11_limit_0 rfl (lv_at hl 0 rfl) ?_
  obtain ⟨r_21, w_19, hq_20, hf⟩ := am_b2_some hf
  refine am_calli (r := r_21) (w' := w_19) (am_runV (n := 0) (As := []) (rest := []) ⟨hx, hb, hml, hown, hts⟩ hK hE hH (k_X11_noDegrees hq_20) (am_gV am_q1117 am_q1119 am_qs38 am_q1 am_q1120) (am_o11 (p := 0) (by decide +kernel)) rfl ⟨rfl, rfl⟩ (by decide +kernel) ⟨Nat.le_of_ble_eq_true rfl, Nat.le_of_ble_eq_true rfl⟩ rfl hl.1 rfl (Nat.le_of_ble_eq_true rfl) ⟨Nat.zero_le _, Nat.zero_le _⟩ dX11_limit_1) hH (fun H locs hH => ?_)
  refine lv_if_eq (tgt := 9) hx hb dX11_limit_4 (by decide) (fun hc_22 => ?_) (fun hc_22 => ?_)
  · have hf := (if_pos hc_22).symm.trans hf
    refine lv_bipush (v := 60) hx hb dX11_limit_9 (by decide) ?_
    refine lv_istore_n (lv' := [(1, .int (60 : Int32)), (0, .ref (G.1 + 0))]) hx hb dX11_limit_11 rfl hl (by decide) rfl (fun ls hl => ?_)
    exact P12 am_fuel (60 : Int32) w_19 H locs ls hf hH (lv_sub hl [1, 0] rfl)
  · have hf := (if_neg hc_22).symm.trans hf
    refine lv_iconst (v := -1) hx hb dX11_limit_7 (by decide) ?_
    exact am_reti hx hb hr hlocks hH hf dX11_limit_8

def f_X11_load_30 (a1 : Int32) (w : am_S) : Option (Int32 × am_S) :=
  some ((-1 : Int32), w)
def f_X11_load (a1 : Int32) (w : am_S) : Option (Int32 × am_S) :=
  am_b2 (f_X1_allSlots 11 w) fun r_14 w_12 => am_b2 (f_X11_noField w_12) fun r_17 w_15 => if r_17 = 0 then (if r_14 = 0 then (f_X11_load_30 a1 w_15) else (if a1 < 0 then (f_X11_load_30 a1 w_15) else (if a1 ≤ (999 : Int32) then (am_nz r_14 (some ((a1 * (w_15.1 11 11)) / r_14, w_15))) else (f_X11_load_30 a1 w_15)))) else (f_X11_load_30 a1 w_15)
set_option maxRecDepth 100000 in
set_option maxHeartbeats 4000000 in
theorem k_X11_load {G : am_G} {l : Launch} {a1 : Int32}  {w : am_S} {rr : Int32} {ww : am_S} (hf : f_X11_load a1 w = some (rr, ww)) : am_Mi G l yX11_load (Cond.code yX11_load cX11_load 3 (some .int) :: am_T) { frames := 1, cells := 0, slots := 0, locals := 64 } [.ref (G.1 + 0), .int a1] w rr ww := by
  refine Met.ofW (cc := cX11_load) (maxL := 3) (ret := (some .int)) (by decide) rfl ?_
  intro p e s m args below meth c s₁ B hml hv
  obtain ⟨rfl, hx, hb, hr, hts, hown, hlocks, hK, hE, hH⟩ := am_begin B hv
  have hown : s.vm.findClass RX11 = some m.cls := hown
  show W p l e { frames := 1, cells := 0, slots := 0, locals := 64 } s m _ below meth c s.heap [] 0 0 _ _
  have P30 : ∀ (w : am_S) (H : Heap) (locs : List Loc) (ls : Array Slot), f_X11_load_30 a1 w = some (rr, ww) → am_H G w s H locs → lv_has ls 3 [] → W p l e { frames := 1, cells := 0, slots := 0, locals := 64 } s m [.ref (G.1 + 0), .int a1].toArray below meth c H locs 0 0 (MQ below (va_Qi (fun (x : Int32) (u : am_S) => x = rr ∧ u = ww) (am_U G) (am_A G)) [.ref (G.1 + 0), .int a1].toArray s 0 0 (am_A G)) (F0 m 30 ls []) := by
    intro w H locs ls hf hH hl
    unfold f_X11_load_30 at hf
    refine lv_iconst (v := -1) hx hb dX11_load_30 (by decide) ?_
    exact am_reti hx hb hr hlocks hH hf dX11_load_31
  refine am_enter (lv := [(0, .ref (G.1 + 0)), (1, .int a1)]) (Nat.le_of_ble_eq_true rfl) rfl (fun ls hl => ?_)
  unfold f_X11_load at hf
  refine am_start hH (fun H locs hH => ?_)
  refine lv_aload_n hx hb dX11_load_0 rfl (lv_at hl 0 rfl) ?_
  refine am_get hx hb hts hK hown hH (am_o11 (p := 0) (by decide +kernel)) rfl am_inX11 2 (by decide) am_q333 (v := .ref (G.1 + 11)) rfl dX11_load_1 ?_
  obtain ⟨r_14, w_12, hq_13, hf⟩ := am_b2_some hf
  refine am_calli (r := r_14) (w' := w_12) (am_runV (n := 0) (As := []) (rest := []) ⟨hx, hb, hml, hown, hts⟩ hK hE hH (k_X1_allSlots (by decide +kernel) hq_13) (am_gV am_q629 am_q630 am_q631 am_q3 am_q632) (am_o1 (p := 11) (by decide +kernel)) rfl ⟨rfl, rfl⟩ (by decide +kernel) ⟨Nat.le_of_ble_eq_true rfl, Nat.le_of_ble_eq_true rfl⟩ rfl hl.1 rfl (Nat.le_of_ble_eq_true rfl) ⟨Nat.zero_le _, Nat.zero_le _⟩ dX11_load_4) hH (fun H locs hH => ?_)
  refine lv_istore_n (lv' := [(2, .int r_14), (0, .ref (G.1 + 0)), (1, .int a1)]) hx hb dX11_load_7 rfl hl (by decide) rfl (fun ls hl => ?_)
  refine lv_aload_n hx hb dX11_load_8 rfl (lv_at hl 1 rfl) ?_
  obtain ⟨r_17, w_15, hq_16, hf⟩ := am_b2_some hf
  refine am_calli (r := r_17) (w' := w_15) (am_runV (n := 0) (As := []) (rest := []) ⟨hx, hb, hml, hown, hts⟩ hK hE hH (k_X11_noField hq_16) (am_gV am_q625 am_q627 am_qs11 am_q1 am_q628) (am_o11 (p := 0) (by decide +kernel)) rfl ⟨rfl, rfl⟩ (by decide +kernel) ⟨Nat.le_of_ble_eq_true rfl, Nat.le_of_ble_eq_true rfl⟩ rfl hl.1 rfl (Nat.le_of_ble_eq_true rfl) ⟨Nat.zero_le _, Nat.zero_le _⟩ dX11_load_9) hH (fun H locs hH => ?_)
  refine lv_if_ne (tgt := 30) hx hb dX11_load_12 (by decide) (fun hc_18 => ?_) (fun hc_18 => ?_)
  · have hf := (if_neg hc_18).symm.trans hf
    exact P30 w_15 H locs ls hf hH (lv_sub hl [] rfl)
  · have hf := (if_pos hc_18).symm.trans hf
    refine lv_iload_n hx hb dX11_load_15 rfl (lv_at hl 0 rfl) ?_
    refine lv_if_eq (tgt := 30) hx hb dX11_load_16 (by decide) (fun hc_19 => ?_) (fun hc_19 => ?_)
    · have hf := (if_pos hc_19).symm.trans hf
      exact P30 w_15 H locs ls hf hH (lv_sub hl [] rfl)
    · have hf := (if_neg hc_19).symm.trans hf
      refine lv_iload_n hx hb dX11_load_19 rfl (lv_at hl 2 rfl) ?_
      refine lv_if_lt (tgt := 30) hx hb dX11_load_20 (by decide) (fun hc_20 => ?_) (fun hc_20 => ?_)
      · have hf := (if_pos hc_20).symm.trans hf
        exact P30 w_15 H locs ls hf hH (lv_sub hl [] rfl)
      · have hf := (if_neg hc_20).symm.trans hf
        refine lv_iload_n hx hb dX11_load_23 rfl (lv_at hl 2 rfl) ?_
        refine lv_sipush (v := 999) hx hb dX11_load_24 (by decide) ?_
        refine lv_icmp_le (tgt := 32) hx hb dX11_load_27 (by decide) (fun hc_21 => ?_) (fun hc_21 => ?_)
        · have hf := (if_pos hc_21).symm.trans hf
          refine lv_iload_n hx hb dX11_load_32 rfl (lv_at hl 2 rfl) ?_
          refine lv_aload_n hx hb dX11_load_33 rfl (lv_at hl 1 rfl) ?_
          refine am_get hx hb hts hK hown hH (am_o11 (p := 0) (by decide +kernel)) rfl am_inX11 2 (by decide) am_q333 (v := .ref (G.1 + 11)) rfl dX11_load_34 ?_
          refine am_get hx hb hts hK hown hH (am_o1 (p := 11) (by decide +kernel)) rfl am_inX1 11 (by decide) am_q106 (v := .int (w_15.1 11 11)) rfl dX11_load_37 ?_
          refine lv_imul hx hb dX11_load_40 ?_
          refine lv_iload_n hx hb dX11_load_41 rfl (lv_at hl 0 rfl) ?_
          obtain ⟨hz_22, hf⟩ := am_nz_some hf
          refine lv_idiv hx hb dX11_load_42 hz_22 ?_
          exact am_reti hx hb hr hlocks hH hf dX11_load_43
        · have hf := (if_neg hc_21).symm.trans hf
          exact P30 w_15 H locs ls hf hH (lv_sub hl [] rfl)

def f_J9_floorMod_7cf53_18 (a0 : Int32) (a1 : Int32) (x2 : Int32) (w : am_S) : Option (Int32 × am_S) :=
  some (x2, w)
def f_J9_floorMod_7cf53 (a0 : Int32) (a1 : Int32) (w : am_S) : Option (Int32 × am_S) :=
  am_nz a1 (am_v (a0 - a0 / a1 * a1) fun (x2_6 : Int32) => if 0 ≤ (a0 ^^^ a1) then (f_J9_floorMod_7cf53_18 a0 a1 x2_6 w) else (if x2_6 = 0 then (f_J9_floorMod_7cf53_18 a0 a1 x2_6 w) else (some (x2_6 + a1, w))))
set_option maxRecDepth 100000 in
set_option maxHeartbeats 4000000 in
theorem k_J9_floorMod_7cf53 {G : am_G} {l : Launch} {a0 : Int32} {a1 : Int32}  {w : am_S} {rr : Int32} {ww : am_S} (hf : f_J9_floorMod_7cf53 a0 a1 w = some (rr, ww)) : am_Mi G l yJ9_floorMod_7cf53 (Cond.code yJ9_floorMod_7cf53 cJ9_floorMod_7cf53 3 (some .int) :: am_T) { frames := 0, cells := 0, slots := 0, locals := 0 } [.int a0, .int a1] w rr ww := by
  refine va_MetF (cc := cJ9_floorMod_7cf53) (maxL := 3) (ret := (some .int)) (by decide +kernel) rfl ?_
  intro p e s m args below meth c s₁ B hml hv
  obtain ⟨rfl, hx, hb, hr, hts, hown, hlocks, hK, hE, hH⟩ := am_begin B hv
  have hown : s.vm.findClass RJ9 = some m.cls := hown
  show W p l e { frames := 0, cells := 0, slots := 0, locals := 0 } s m _ below meth c s.heap [] 0 0 _ _
  have P18 : ∀ (x2 : Int32) (w : am_S) (H : Heap) (locs : List Loc) (ls : Array Slot), f_J9_floorMod_7cf53_18 a0 a1 x2 w = some (rr, ww) → am_H G w s H locs → lv_has ls 3 [(2, .int x2)] → W p l e { frames := 0, cells := 0, slots := 0, locals := 0 } s m [.int a0, .int a1].toArray below meth c H locs 0 0 (MQ below (va_Qi (fun (x : Int32) (u : am_S) => x = rr ∧ u = ww) (am_U G) (am_A G)) [.int a0, .int a1].toArray s 0 0 (am_A G)) (F0 m 18 ls []) := by
    intro x2 w H locs ls hf hH hl
    unfold f_J9_floorMod_7cf53_18 at hf
    refine lv_iload_n hx hb dJ9_floorMod_7cf53_18 rfl (lv_at hl 0 rfl) ?_
    exact am_reti hx hb hr hlocks hH hf dJ9_floorMod_7cf53_19
  refine am_enter (lv := [(0, .int a0), (1, .int a1)]) (Nat.le_of_ble_eq_true rfl) rfl (fun ls hl => ?_)
  unfold f_J9_floorMod_7cf53 at hf
  refine am_start hH (fun H locs hH => ?_)
  refine lv_iload_n hx hb dJ9_floorMod_7cf53_0 rfl (lv_at hl 0 rfl) ?_
  refine lv_iload_n hx hb dJ9_floorMod_7cf53_1 rfl (lv_at hl 1 rfl) ?_
  obtain ⟨hz_5, hf⟩ := am_nz_some hf
  refine lv_irem hx hb dJ9_floorMod_7cf53_2 hz_5 ?_
  obtain ⟨x2_6, hx2_6, hf⟩ := am_v_some hf
  refine am_topi hx2_6 ?_
  refine lv_istore_n (lv' := [(2, .int x2_6), (0, .int a0), (1, .int a1)]) hx hb dJ9_floorMod_7cf53_3 rfl hl (by decide) rfl (fun ls hl => ?_)
  refine lv_iload_n hx hb dJ9_floorMod_7cf53_4 rfl (lv_at hl 1 rfl) ?_
  refine lv_iload_n hx hb dJ9_floorMod_7cf53_5 rfl (lv_at hl 2 rfl) ?_
  refine lv_ixor hx hb dJ9_floorMod_7cf53_6 ?_
  refine lv_if_ge (tgt := 18) hx hb dJ9_floorMod_7cf53_7 (by decide) (fun hc_7 => ?_) (fun hc_7 => ?_)
  · have hf := (if_pos hc_7).symm.trans hf
    exact P18 x2_6 w H locs ls hf hH (lv_sub hl [0] rfl)
  · have hf := (if_neg hc_7).symm.trans hf
    refine lv_iload_n hx hb dJ9_floorMod_7cf53_10 rfl (lv_at hl 0 rfl) ?_
    refine lv_if_eq (tgt := 18) hx hb dJ9_floorMod_7cf53_11 (by decide) (fun hc_8 => ?_) (fun hc_8 => ?_)
    · have hf := (if_pos hc_8).symm.trans hf
      exact P18 x2_6 w H locs ls hf hH (lv_sub hl [0] rfl)
    · have hf := (if_neg hc_8).symm.trans hf
      refine lv_iload_n hx hb dJ9_floorMod_7cf53_14 rfl (lv_at hl 0 rfl) ?_
      refine lv_iload_n hx hb dJ9_floorMod_7cf53_15 rfl (lv_at hl 2 rfl) ?_
      refine lv_iadd hx hb dJ9_floorMod_7cf53_16 ?_
      exact am_reti hx hb hr hlocks hH hf dJ9_floorMod_7cf53_17

def f_X4_entry_45 (o0 : Nat) (a1 : Int32) (a2 : Int32) (s0 : Int32) (w : am_S) : Option (Int32 × am_S) :=
  some (s0, w)
def f_X4_entry (o0 : Nat) (a1 : Int32) (a2 : Int32) (w : am_S) : Option (Int32 × am_S) :=
  am_b2 (f_J9_floorMod_7cf53 (((w.1 o0 3) - (1 : Int32)) - a1) (100 : Int32) w) fun r_11 w_9 => if a2 = 0 then (am_chk r_11 100 (some (w_9.1 (o0 + 1) r_11.toNatClampNeg, w_9))) else (if a2 = (1 : Int32) then (am_chk r_11 100 (f_X4_entry_45 o0 a1 a2 (w_9.1 (o0 + 2) r_11.toNatClampNeg) w_9)) else (am_chk r_11 100 (f_X4_entry_45 o0 a1 a2 (w_9.1 (o0 + 3) r_11.toNatClampNeg) w_9)))
set_option maxRecDepth 100000 in
set_option maxHeartbeats 4000000 in
theorem k_X4_entry {G : am_G} {l : Launch} {o0 : Nat} {a1 : Int32} {a2 : Int32} (ho0 : am_f4 o0) {w : am_S} {rr : Int32} {ww : am_S} (hf : f_X4_entry o0 a1 a2 w = some (rr, ww)) : am_Mi G l yX4_entry (Cond.code yX4_entry cX4_entry 4 (some .int) :: am_T) { frames := 1, cells := 0, slots := 0, locals := 64 } [.ref (G.1 + o0), .int a1, .int a2] w rr ww := by
  refine Met.ofW (cc := cX4_entry) (maxL := 4) (ret := (some .int)) (by decide) rfl ?_
  intro p e s m args below meth c s₁ B hml hv
  obtain ⟨rfl, hx, hb, hr, hts, hown, hlocks, hK, hE, hH⟩ := am_begin B hv
  have hown : s.vm.findClass RX4 = some m.cls := hown
  show W p l e { frames := 1, cells := 0, slots := 0, locals := 64 } s m _ below meth c s.heap [] 0 0 _ _
  have P45 : ∀ (s0 : Int32) (w : am_S) (H : Heap) (locs : List Loc) (ls : Array Slot), f_X4_entry_45 o0 a1 a2 s0 w = some (rr, ww) → am_H G w s H locs → lv_has ls 4 [] → W p l e { frames := 1, cells := 0, slots := 0, locals := 64 } s m [.ref (G.1 + o0), .int a1, .int a2].toArray below meth c H locs 0 0 (MQ below (va_Qi (fun (x : Int32) (u : am_S) => x = rr ∧ u = ww) (am_U G) (am_A G)) [.ref (G.1 + o0), .int a1, .int a2].toArray s 0 0 (am_A G)) (F0 m 45 ls [.int s0]) := by
    intro s0 w H locs ls hf hH hl
    unfold f_X4_entry_45 at hf
    exact am_reti hx hb hr hlocks hH hf dX4_entry_45
  refine am_enter (lv := [(0, .ref (G.1 + o0)), (1, .int a1), (2, .int a2)]) (Nat.le_of_ble_eq_true rfl) rfl (fun ls hl => ?_)
  unfold f_X4_entry at hf
  refine am_start hH (fun H locs hH => ?_)
  refine lv_aload_n hx hb dX4_entry_0 rfl (lv_at hl 0 rfl) ?_
  refine am_get hx hb hts hK hown hH (am_o4 ho0.1) rfl am_inX4 3 (by decide) am_q212 (v := .int (w.1 o0 3)) rfl dX4_entry_1 ?_
  refine lv_iconst (v := 1) hx hb dX4_entry_4 (by decide) ?_
  refine lv_isub hx hb dX4_entry_5 ?_
  refine lv_iload_n hx hb dX4_entry_6 rfl (lv_at hl 1 rfl) ?_
  refine lv_isub hx hb dX4_entry_7 ?_
  refine lv_bipush (v := 100) hx hb dX4_entry_8 (by decide) ?_
  obtain ⟨r_11, w_9, hq_10, hf⟩ := am_b2_some hf
  refine am_calli (r := r_11) (w' := w_9) (am_runS (n := 2) (As := [.int (((w.1 o0 3) - (1 : Int32)) - a1), .int (100 : Int32)]) (rest := []) ⟨hx, hb, hml, hown, hts⟩ hK hE hH (k_J9_floorMod_7cf53 hq_10) (am_gS am_q936 am_q937 am_q18 am_q938) ⟨rfl, rfl⟩ (by decide +kernel) ⟨Nat.le_of_ble_eq_true rfl, Nat.le_of_ble_eq_true rfl⟩ rfl hl.1 rfl (Nat.le_of_ble_eq_true rfl) ⟨Nat.zero_le _, Nat.zero_le _⟩ dX4_entry_10) hH (fun H locs hH => ?_)
  refine lv_istore_n (lv' := [(3, .int r_11), (0, .ref (G.1 + o0)), (1, .int a1), (2, .int a2)]) hx hb dX4_entry_13 rfl hl (by decide) rfl (fun ls hl => ?_)
  refine lv_iload_n hx hb dX4_entry_14 rfl (lv_at hl 3 rfl) ?_
  refine lv_if_ne (tgt := 25) hx hb dX4_entry_15 (by decide) (fun hc_12 => ?_) (fun hc_12 => ?_)
  · have hf := (if_neg hc_12).symm.trans hf
    refine lv_iload_n hx hb dX4_entry_25 rfl (lv_at hl 3 rfl) ?_
    refine lv_iconst (v := 1) hx hb dX4_entry_26 (by decide) ?_
    refine lv_icmp_ne (tgt := 39) hx hb dX4_entry_27 (by decide) (fun hc_13 => ?_) (fun hc_13 => ?_)
    · have hf := (if_neg hc_13).symm.trans hf
      refine lv_aload_n hx hb dX4_entry_39 rfl (lv_at hl 1 rfl) ?_
      refine am_get hx hb hts hK hown hH (am_o4 ho0.1) rfl am_inX4 2 (by decide) am_q211 (v := .ref (G.1 + (o0 + 3))) rfl dX4_entry_40 ?_
      refine lv_iload_n hx hb dX4_entry_43 rfl (lv_at hl 0 rfl) ?_
      obtain ⟨hi_14, hf⟩ := am_chk_some hf
      refine am_iald hx hb hK hH (am_ai_of (N := 100) ho0.2.2.2) hi_14 dX4_entry_44 ?_
      exact P45 (w_9.1 (o0 + 3) r_11.toNatClampNeg) w_9 H locs ls hf hH (lv_sub hl [] rfl)
    · have hf := (if_pos hc_13).symm.trans hf
      refine lv_aload_n hx hb dX4_entry_30 rfl (lv_at hl 1 rfl) ?_
      refine am_get hx hb hts hK hown hH (am_o4 ho0.1) rfl am_inX4 1 (by decide) am_q210 (v := .ref (G.1 + (o0 + 2))) rfl dX4_entry_31 ?_
      refine lv_iload_n hx hb dX4_entry_34 rfl (lv_at hl 0 rfl) ?_
      obtain ⟨hi_15, hf⟩ := am_chk_some hf
      refine am_iald hx hb hK hH (am_ai_of (N := 100) ho0.2.2.1) hi_15 dX4_entry_35 ?_
      refine lv_goto (tgt := 45) hx hb dX4_entry_36 (by decide) ?_
      exact P45 (w_9.1 (o0 + 2) r_11.toNatClampNeg) w_9 H locs ls hf hH (lv_sub hl [] rfl)
  · have hf := (if_pos hc_12).symm.trans hf
    refine lv_aload_n hx hb dX4_entry_18 rfl (lv_at hl 1 rfl) ?_
    refine am_get hx hb hts hK hown hH (am_o4 ho0.1) rfl am_inX4 0 (by decide) am_q209 (v := .ref (G.1 + (o0 + 1))) rfl dX4_entry_19 ?_
    refine lv_iload_n hx hb dX4_entry_22 rfl (lv_at hl 0 rfl) ?_
    obtain ⟨hi_16, hf⟩ := am_chk_some hf
    refine am_iald hx hb hK hH (am_ai_of (N := 100) ho0.2.1) hi_16 dX4_entry_23 ?_
    exact am_reti hx hb hr hlocks hH hf dX4_entry_24

def f_X11_log_24 (a1 : Int32) (a2 : Int32) (w : am_S) : Option (Int32 × am_S) :=
  some ((-1000000 : Int32), w)
def f_X11_log (a1 : Int32) (a2 : Int32) (w : am_S) : Option (Int32 × am_S) :=
  if a1 < 0 then (f_X11_log_24 a1 a2 w) else (am_b2 (f_X4_seen 38 w) fun r_14 w_12 => if r_14 ≤ a1 then (f_X11_log_24 a1 a2 w_12) else (if a2 < 0 then (f_X11_log_24 a1 a2 w_12) else (if a2 ≤ (2 : Int32) then (am_b2 (f_X4_entry 38 a1 a2 w_12) fun r_20 w_18 => some (r_20, w_18)) else (f_X11_log_24 a1 a2 w_12))))
set_option maxRecDepth 100000 in
set_option maxHeartbeats 4000000 in
theorem k_X11_log {G : am_G} {l : Launch} {a1 : Int32} {a2 : Int32}  {w : am_S} {rr : Int32} {ww : am_S} (hf : f_X11_log a1 a2 w = some (rr, ww)) : am_Mi G l yX11_log (Cond.code yX11_log cX11_log 3 (some .int) :: am_T) { frames := 2, cells := 0, slots := 0, locals := 128 } [.ref (G.1 + 0), .int a1, .int a2] w rr ww := by
  refine Met.ofW (cc := cX11_log) (maxL := 3) (ret := (some .int)) (by decide) rfl ?_
  intro p e s m args below meth c s₁ B hml hv
  obtain ⟨rfl, hx, hb, hr, hts, hown, hlocks, hK, hE, hH⟩ := am_begin B hv
  have hown : s.vm.findClass RX11 = some m.cls := hown
  show W p l e { frames := 2, cells := 0, slots := 0, locals := 128 } s m _ below meth c s.heap [] 0 0 _ _
  have P24 : ∀ (w : am_S) (H : Heap) (locs : List Loc) (ls : Array Slot), f_X11_log_24 a1 a2 w = some (rr, ww) → am_H G w s H locs → lv_has ls 3 [] → W p l e { frames := 2, cells := 0, slots := 0, locals := 128 } s m [.ref (G.1 + 0), .int a1, .int a2].toArray below meth c H locs 0 0 (MQ below (va_Qi (fun (x : Int32) (u : am_S) => x = rr ∧ u = ww) (am_U G) (am_A G)) [.ref (G.1 + 0), .int a1, .int a2].toArray s 0 0 (am_A G)) (F0 m 24 ls []) := by
    intro w H locs ls hf hH hl
    unfold f_X11_log_24 at hf
    refine lv_ldc (v := -1000000) hx hb hown (hts _ am_q714) dX11_log_24 ?_
    exact am_reti hx hb hr hlocks hH hf dX11_log_26
  refine am_enter (lv := [(0, .ref (G.1 + 0)), (1, .int a1), (2, .int a2)]) (Nat.le_of_ble_eq_true rfl) rfl (fun ls hl => ?_)
  unfold f_X11_log at hf
  refine am_start hH (fun H locs hH => ?_)
  refine lv_iload_n hx hb dX11_log_0 rfl (lv_at hl 1 rfl) ?_
  refine lv_if_lt (tgt := 24) hx hb dX11_log_1 (by decide) (fun hc_11 => ?_) (fun hc_11 => ?_)
  · have hf := (if_pos hc_11).symm.trans hf
    exact P24 w H locs ls hf hH (lv_sub hl [] rfl)
  · have hf := (if_neg hc_11).symm.trans hf
    refine lv_iload_n hx hb dX11_log_4 rfl (lv_at hl 1 rfl) ?_
    refine lv_aload_n hx hb dX11_log_5 rfl (lv_at hl 0 rfl) ?_
    refine am_get hx hb hts hK hown hH (am_o11 (p := 0) (by decide +kernel)) rfl am_inX11 8 (by decide) am_q339 (v := .ref (G.1 + 38)) rfl dX11_log_6 ?_
    obtain ⟨r_14, w_12, hq_13, hf⟩ := am_b2_some hf
    refine am_calli (r := r_14) (w' := w_12) (am_runV (n := 0) (As := []) (rest := [.int a1]) ⟨hx, hb, hml, hown, hts⟩ hK hE hH (k_X4_seen (by decide +kernel) hq_13) (am_gV am_q927 am_q928 am_q929 am_q6 am_q930) (am_o4 (p := 38) (by decide +kernel)) rfl ⟨rfl, rfl⟩ (by decide +kernel) ⟨Nat.le_of_ble_eq_true rfl, Nat.le_of_ble_eq_true rfl⟩ rfl hl.1 rfl (Nat.le_of_ble_eq_true rfl) ⟨Nat.zero_le _, Nat.zero_le _⟩ dX11_log_9) hH (fun H locs hH => ?_)
    refine lv_icmp_ge (tgt := 24) hx hb dX11_log_12 (by decide) (fun hc_15 => ?_) (fun hc_15 => ?_)
    · have hf := (if_pos hc_15).symm.trans hf
      exact P24 w_12 H locs ls hf hH (lv_sub hl [] rfl)
    · have hf := (if_neg hc_15).symm.trans hf
      refine lv_iload_n hx hb dX11_log_15 rfl (lv_at hl 2 rfl) ?_
      refine lv_if_lt (tgt := 24) hx hb dX11_log_16 (by decide) (fun hc_16 => ?_) (fun hc_16 => ?_)
      · have hf := (if_pos hc_16).symm.trans hf
        exact P24 w_12 H locs ls hf hH (lv_sub hl [] rfl)
      · have hf := (if_neg hc_16).symm.trans hf
        refine lv_iload_n hx hb dX11_log_19 rfl (lv_at hl 2 rfl) ?_
        refine lv_iconst (v := 2) hx hb dX11_log_20 (by decide) ?_
        refine lv_icmp_le (tgt := 27) hx hb dX11_log_21 (by decide) (fun hc_17 => ?_) (fun hc_17 => ?_)
        · have hf := (if_pos hc_17).symm.trans hf
          refine lv_aload_n hx hb dX11_log_27 rfl (lv_at hl 0 rfl) ?_
          refine am_get hx hb hts hK hown hH (am_o11 (p := 0) (by decide +kernel)) rfl am_inX11 8 (by decide) am_q339 (v := .ref (G.1 + 38)) rfl dX11_log_28 ?_
          refine lv_iload_n hx hb dX11_log_31 rfl (lv_at hl 1 rfl) ?_
          refine lv_iload_n hx hb dX11_log_32 rfl (lv_at hl 2 rfl) ?_
          obtain ⟨r_20, w_18, hq_19, hf⟩ := am_b2_some hf
          refine am_calli (r := r_20) (w' := w_18) (am_runV (n := 2) (As := [.int a1, .int a2]) (rest := []) ⟨hx, hb, hml, hown, hts⟩ hK hE hH (k_X4_entry (by decide +kernel) hq_19) (am_gV am_q932 am_q933 am_q934 am_q6 am_q935) (am_o4 (p := 38) (by decide +kernel)) rfl ⟨rfl, rfl⟩ (by decide +kernel) ⟨Nat.le_of_ble_eq_true rfl, Nat.le_of_ble_eq_true rfl⟩ rfl hl.1 rfl (Nat.le_of_ble_eq_true rfl) ⟨Nat.zero_le _, Nat.zero_le _⟩ dX11_log_33) hH (fun H locs hH => ?_)
          exact am_reti hx hb hr hlocks hH hf dX11_log_36
        · have hf := (if_neg hc_17).symm.trans hf
          exact P24 w_12 H locs ls hf hH (lv_sub hl [] rfl)

def f_X7_marginOf (a1 : Int32) (a2 : Int32) (w : am_S) : Option (UInt32 × am_S) :=
  am_chk a1 10 (am_n32 (FP.fdiv (FP.i2f (w.1 250 5)) (1092616192 : UInt32)) (am_b2 (f_X7_dinFor a1 a2 w) fun r_12 w_10 => am_n32 (FP.fmul (FP.fdiv (FP.i2f (w.1 250 5)) (1092616192 : UInt32)) r_12) (am_n32 (FP.fsub (w.2.2 251 a1.toNatClampNeg) (FP.fmul (FP.fdiv (FP.i2f (w.1 250 5)) (1092616192 : UInt32)) r_12)) (some (FP.fsub (w.2.2 251 a1.toNatClampNeg) (FP.fmul (FP.fdiv (FP.i2f (w.1 250 5)) (1092616192 : UInt32)) r_12), w_10)))))
set_option maxRecDepth 100000 in
set_option maxHeartbeats 4000000 in
theorem k_X7_marginOf {G : am_G} {l : Launch} {a1 : Int32} {a2 : Int32}  {w : am_S} {rr : UInt32} {ww : am_S} (hf : f_X7_marginOf a1 a2 w = some (rr, ww)) : am_Mf G l yX7_marginOf (Cond.code yX7_marginOf cX7_marginOf 3 (some .float) :: am_T) { frames := 1, cells := 0, slots := 0, locals := 64 } [.ref (G.1 + 250), .int a1, .int a2] w rr ww := by
  refine Met.ofW (cc := cX7_marginOf) (maxL := 3) (ret := (some .float)) (by decide) rfl ?_
  intro p e s m args below meth c s₁ B hml hv
  obtain ⟨rfl, hx, hb, hr, hts, hown, hlocks, hK, hE, hH⟩ := am_begin B hv
  have hown : s.vm.findClass RX7 = some m.cls := hown
  show W p l e { frames := 1, cells := 0, slots := 0, locals := 64 } s m _ below meth c s.heap [] 0 0 _ _
  refine am_enter (lv := [(0, .ref (G.1 + 250)), (1, .int a1), (2, .int a2)]) (Nat.le_of_ble_eq_true rfl) rfl (fun ls hl => ?_)
  unfold f_X7_marginOf at hf
  refine am_start hH (fun H locs hH => ?_)
  refine lv_aload_n hx hb dX7_marginOf_0 rfl (lv_at hl 0 rfl) ?_
  refine am_get hx hb hts hK hown hH (am_o7 (p := 250) (by decide +kernel)) rfl am_inX7 1 (by decide) am_q260 (v := .ref (G.1 + 251)) rfl dX7_marginOf_1 ?_
  refine lv_iload_n hx hb dX7_marginOf_4 rfl (lv_at hl 1 rfl) ?_
  obtain ⟨hi_8, hf⟩ := am_chk_some hf
  refine am_fald hx hb hK hH (am_af_of (N := 10) (by decide +kernel)) hi_8 dX7_marginOf_5 ?_
  refine lv_aload_n hx hb dX7_marginOf_6 rfl (lv_at hl 0 rfl) ?_
  refine am_get hx hb hts hK hown hH (am_o7 (p := 250) (by decide +kernel)) rfl am_inX7 5 (by decide) am_q269 (v := .int (w.1 250 5)) rfl dX7_marginOf_7 ?_
  refine lv_i2f hx hb dX7_marginOf_10 ?_
  refine lv_ldcf (v := 1092616192) hx hb hown (hts _ am_q608) dX7_marginOf_11 ?_
  obtain ⟨hn_9, hf⟩ := am_n32_some hf
  refine lv_fdiv hx hb dX7_marginOf_13 hn_9 ?_
  refine lv_aload_n hx hb dX7_marginOf_14 rfl (lv_at hl 0 rfl) ?_
  refine lv_iload_n hx hb dX7_marginOf_15 rfl (lv_at hl 1 rfl) ?_
  refine lv_iload_n hx hb dX7_marginOf_16 rfl (lv_at hl 2 rfl) ?_
  obtain ⟨r_12, w_10, hq_11, hf⟩ := am_b2_some hf
  refine am_callf (r := r_12) (w' := w_10) (am_runV (n := 2) (As := [.int a1, .int a2]) (rest := [.float (FP.fdiv (FP.i2f (w.1 250 5)) (1092616192 : UInt32)), .float (w.2.2 251 a1.toNatClampNeg)]) ⟨hx, hb, hml, hown, hts⟩ hK hE hH (k_X7_dinFor hq_11) (am_gV am_q697 am_q686 am_q687 am_q9 am_q688) (am_o7 (p := 250) (by decide +kernel)) rfl ⟨rfl, rfl⟩ (by decide +kernel) ⟨Nat.le_of_ble_eq_true rfl, Nat.le_of_ble_eq_true rfl⟩ rfl hl.1 rfl (Nat.le_of_ble_eq_true rfl) ⟨Nat.zero_le _, Nat.zero_le _⟩ dX7_marginOf_17) hH (fun H locs hH => ?_)
  obtain ⟨hn_13, hf⟩ := am_n32_some hf
  refine lv_fmul hx hb dX7_marginOf_20 hn_13 ?_
  obtain ⟨hn_14, hf⟩ := am_n32_some hf
  refine lv_fsub hx hb dX7_marginOf_21 hn_14 ?_
  exact am_retf hx hb hr hlocks hH hf dX7_marginOf_22

def f_X11_margin (a1 : Int32) (a2 : Int32) (w : am_S) : Option (Int32 × am_S) :=
  am_b2 (f_X11_isOpenCopy a1 a2 w) fun r_15 w_13 => if r_15 = 0 then (some ((-1 : Int32), w_13)) else (am_b1 (f_X7_lookAt 23 w_13) fun w_17 => am_b2 (f_X7_marginOf a1 a2 w_17) fun r_21 w_19 => am_b2 (f_X11_singleBits r_21 w_19) fun r_24 w_22 => some (r_24, w_22))
set_option maxRecDepth 100000 in
set_option maxHeartbeats 4000000 in
theorem k_X11_margin {G : am_G} {l : Launch} {a1 : Int32} {a2 : Int32}  {w : am_S} {rr : Int32} {ww : am_S} (hf : f_X11_margin a1 a2 w = some (rr, ww)) : am_Mi G l yX11_margin (Cond.code yX11_margin cX11_margin 3 (some .int) :: am_T) { frames := 3, cells := 0, slots := 0, locals := 192 } [.ref (G.1 + 0), .int a1, .int a2] w rr ww := by
  refine Met.ofW (cc := cX11_margin) (maxL := 3) (ret := (some .int)) (by decide) rfl ?_
  intro p e s m args below meth c s₁ B hml hv
  obtain ⟨rfl, hx, hb, hr, hts, hown, hlocks, hK, hE, hH⟩ := am_begin B hv
  have hown : s.vm.findClass RX11 = some m.cls := hown
  show W p l e { frames := 3, cells := 0, slots := 0, locals := 192 } s m _ below meth c s.heap [] 0 0 _ _
  refine am_enter (lv := [(0, .ref (G.1 + 0)), (1, .int a1), (2, .int a2)]) (Nat.le_of_ble_eq_true rfl) rfl (fun ls hl => ?_)
  unfold f_X11_margin at hf
  refine am_start hH (fun H locs hH => ?_)
  refine lv_aload_n hx hb dX11_margin_0 rfl (lv_at hl 0 rfl) ?_
  refine lv_iload_n hx hb dX11_margin_1 rfl (lv_at hl 1 rfl) ?_
  refine lv_iload_n hx hb dX11_margin_2 rfl (lv_at hl 2 rfl) ?_
  obtain ⟨r_15, w_13, hq_14, hf⟩ := am_b2_some hf
  refine am_calli (r := r_15) (w' := w_13) (am_runV (n := 2) (As := [.int a1, .int a2]) (rest := []) ⟨hx, hb, hml, hown, hts⟩ hK hE hH (k_X11_isOpenCopy hq_14) (am_gV am_q658 am_q660 am_qs13 am_q1 am_q661) (am_o11 (p := 0) (by decide +kernel)) rfl ⟨rfl, rfl⟩ (by decide +kernel) ⟨Nat.le_of_ble_eq_true rfl, Nat.le_of_ble_eq_true rfl⟩ rfl hl.1 rfl (Nat.le_of_ble_eq_true rfl) ⟨Nat.zero_le _, Nat.zero_le _⟩ dX11_margin_3) hH (fun H locs hH => ?_)
  refine lv_if_ne (tgt := 11) hx hb dX11_margin_6 (by decide) (fun hc_16 => ?_) (fun hc_16 => ?_)
  · have hf := (if_neg hc_16).symm.trans hf
    refine lv_aload_n hx hb dX11_margin_11 rfl (lv_at hl 0 rfl) ?_
    refine am_get hx hb hts hK hown hH (am_o11 (p := 0) (by decide +kernel)) rfl am_inX11 13 (by decide) am_q344 (v := .ref (G.1 + 250)) rfl dX11_margin_12 ?_
    refine lv_aload_n hx hb dX11_margin_15 rfl (lv_at hl 0 rfl) ?_
    refine am_get hx hb hts hK hown hH (am_o11 (p := 0) (by decide +kernel)) rfl am_inX11 5 (by decide) am_q336 (v := .ref (G.1 + 23)) rfl dX11_margin_16 ?_
    obtain ⟨w_17, hq_18, hf⟩ := am_b1_some hf
    refine am_callv (w' := w_17) (am_runV (n := 1) (As := [.ref (G.1 + 23)]) (rest := []) ⟨hx, hb, hml, hown, hts⟩ hK hE hH (k_X7_lookAt (by decide +kernel) hq_18) (am_gV am_q670 am_q671 am_q672 am_q9 am_q673) (am_o7 (p := 250) (by decide +kernel)) rfl ⟨rfl, rfl⟩ (by decide +kernel) ⟨Nat.le_of_ble_eq_true rfl, Nat.le_of_ble_eq_true rfl⟩ rfl hl.1 rfl (Nat.le_of_ble_eq_true rfl) ⟨Nat.zero_le _, Nat.zero_le _⟩ dX11_margin_19) hH (fun H locs hH => ?_)
    refine lv_aload_n hx hb dX11_margin_22 rfl (lv_at hl 0 rfl) ?_
    refine am_get hx hb hts hK hown hH (am_o11 (p := 0) (by decide +kernel)) rfl am_inX11 13 (by decide) am_q344 (v := .ref (G.1 + 250)) rfl dX11_margin_23 ?_
    refine lv_iload_n hx hb dX11_margin_26 rfl (lv_at hl 1 rfl) ?_
    refine lv_iload_n hx hb dX11_margin_27 rfl (lv_at hl 2 rfl) ?_
    obtain ⟨r_21, w_19, hq_20, hf⟩ := am_b2_some hf
    refine am_callf (r := r_21) (w' := w_19) (am_runV (n := 2) (As := [.int a1, .int a2]) (rest := []) ⟨hx, hb, hml, hown, hts⟩ hK hE hH (k_X7_marginOf hq_20) (am_gV am_q693 am_q694 am_q695 am_q9 am_q696) (am_o7 (p := 250) (by decide +kernel)) rfl ⟨rfl, rfl⟩ (by decide +kernel) ⟨Nat.le_of_ble_eq_true rfl, Nat.le_of_ble_eq_true rfl⟩ rfl hl.1 rfl (Nat.le_of_ble_eq_true rfl) ⟨Nat.zero_le _, Nat.zero_le _⟩ dX11_margin_28) hH (fun H locs hH => ?_)
    obtain ⟨r_24, w_22, hq_23, hf⟩ := am_b2_some hf
    refine am_calli (r := r_24) (w' := w_22) (am_runS (n := 1) (As := [.float r_21]) (rest := []) ⟨hx, hb, hml, hown, hts⟩ hK hE hH (k_X11_singleBits hq_23) (am_gS am_q649 am_q650 am_q1 am_q651) ⟨rfl, rfl⟩ (by decide +kernel) ⟨Nat.le_of_ble_eq_true rfl, Nat.le_of_ble_eq_true rfl⟩ rfl hl.1 rfl (Nat.le_of_ble_eq_true rfl) ⟨Nat.zero_le _, Nat.zero_le _⟩ dX11_margin_31) hH (fun H locs hH => ?_)
    exact am_reti hx hb hr hlocks hH hf dX11_margin_34
  · have hf := (if_pos hc_16).symm.trans hf
    refine lv_iconst (v := -1) hx hb dX11_margin_9 (by decide) ?_
    exact am_reti hx hb hr hlocks hH hf dX11_margin_10

def f_X6_knownWithCopy (a1 : Int32) (a2 : Int32) (w : am_S) : Option (Int32 × am_S) :=
  am_chk a2 48 (am_v (w.1 254 a2.toNatClampNeg) fun (x3_14 : Int32) => am_chk a2 48 (am_v (am_pi w 254 a2.toNatClampNeg (x3_14 ||| ((1 : Int32) <<< (a1 &&& 31)))) fun (w_16 : am_S) => am_b2 (f_X7_stuckOf (w_16.1 250 6) w_16) fun r_19 w_17 => am_chk a2 48 (am_v (am_pi w_17 254 a2.toNatClampNeg x3_14) fun (w_21 : am_S) => am_b2 (f_J6_bitCount_0f7a4 r_19 w_21) fun r_24 w_22 => some ((w_21.1 11 11) - r_24, w_22))))
set_option maxRecDepth 100000 in
set_option maxHeartbeats 4000000 in
theorem k_X6_knownWithCopy {G : am_G} {l : Launch} {a1 : Int32} {a2 : Int32}  {w : am_S} {rr : Int32} {ww : am_S} (hf : f_X6_knownWithCopy a1 a2 w = some (rr, ww)) : am_Mi G l yX6_knownWithCopy (Cond.code yX6_knownWithCopy cX6_knownWithCopy 5 (some .int) :: am_T) { frames := 4, cells := 0, slots := 0, locals := 256 } [.ref (G.1 + 257), .int a1, .int a2] w rr ww := by
  refine Met.ofW (cc := cX6_knownWithCopy) (maxL := 5) (ret := (some .int)) (by decide) rfl ?_
  intro p e s m args below meth c s₁ B hml hv
  obtain ⟨rfl, hx, hb, hr, hts, hown, hlocks, hK, hE, hH⟩ := am_begin B hv
  have hown : s.vm.findClass RX6 = some m.cls := hown
  show W p l e { frames := 4, cells := 0, slots := 0, locals := 256 } s m _ below meth c s.heap [] 0 0 _ _
  refine am_enter (lv := [(0, .ref (G.1 + 257)), (1, .int a1), (2, .int a2)]) (Nat.le_of_ble_eq_true rfl) rfl (fun ls hl => ?_)
  unfold f_X6_knownWithCopy at hf
  refine am_start hH (fun H locs hH => ?_)
  refine lv_aload_n hx hb dX6_knownWithCopy_0 rfl (lv_at hl 0 rfl) ?_
  refine am_get hx hb hts hK hown hH (am_o6 (p := 257) (by decide +kernel)) rfl am_inX6 1 (by decide) am_q315 (v := .ref (G.1 + 250)) rfl dX6_knownWithCopy_1 ?_
  refine am_get hx hb hts hK hown hH (am_o7 (p := 250) (by decide +kernel)) rfl am_inX7 4 (by decide) am_q266 (v := .ref (G.1 + 254)) rfl dX6_knownWithCopy_4 ?_
  refine lv_iload_n hx hb dX6_knownWithCopy_7 rfl (lv_at hl 2 rfl) ?_
  obtain ⟨hi_13, hf⟩ := am_chk_some hf
  refine am_iald hx hb hK hH (am_ai_of (N := 48) (by decide +kernel)) hi_13 dX6_knownWithCopy_8 ?_
  obtain ⟨x3_14, hx3_14, hf⟩ := am_v_some hf
  refine am_topi hx3_14 ?_
  refine lv_istore_n (lv' := [(3, .int x3_14), (0, .ref (G.1 + 257)), (1, .int a1), (2, .int a2)]) hx hb dX6_knownWithCopy_9 rfl hl (by decide) rfl (fun ls hl => ?_)
  refine lv_aload_n hx hb dX6_knownWithCopy_10 rfl (lv_at hl 1 rfl) ?_
  refine am_get hx hb hts hK hown hH (am_o6 (p := 257) (by decide +kernel)) rfl am_inX6 1 (by decide) am_q315 (v := .ref (G.1 + 250)) rfl dX6_knownWithCopy_11 ?_
  refine am_get hx hb hts hK hown hH (am_o7 (p := 250) (by decide +kernel)) rfl am_inX7 4 (by decide) am_q266 (v := .ref (G.1 + 254)) rfl dX6_knownWithCopy_14 ?_
  refine lv_iload_n hx hb dX6_knownWithCopy_17 rfl (lv_at hl 3 rfl) ?_
  refine lv_iload_n hx hb dX6_knownWithCopy_18 rfl (lv_at hl 0 rfl) ?_
  refine lv_iconst (v := 1) hx hb dX6_knownWithCopy_19 (by decide) ?_
  refine lv_iload_n hx hb dX6_knownWithCopy_20 rfl (lv_at hl 2 rfl) ?_
  refine lv_ishl hx hb dX6_knownWithCopy_21 ?_
  refine lv_ior hx hb dX6_knownWithCopy_22 ?_
  obtain ⟨hi_15, hf⟩ := am_chk_some hf
  obtain ⟨w_16, hw_16, hf⟩ := am_v_some hf
  refine am_iast hx hb hK hH (am_ai_of (N := 48) (by decide +kernel)) hi_15 dX6_knownWithCopy_23 (fun H locs hH => ?_)
  rw [← hw_16] at hH
  refine lv_aload_n hx hb dX6_knownWithCopy_24 rfl (lv_at hl 1 rfl) ?_
  refine am_get hx hb hts hK hown hH (am_o6 (p := 257) (by decide +kernel)) rfl am_inX6 1 (by decide) am_q315 (v := .ref (G.1 + 250)) rfl dX6_knownWithCopy_25 ?_
  refine lv_aload_n hx hb dX6_knownWithCopy_28 rfl (lv_at hl 1 rfl) ?_
  refine am_get hx hb hts hK hown hH (am_o6 (p := 257) (by decide +kernel)) rfl am_inX6 1 (by decide) am_q315 (v := .ref (G.1 + 250)) rfl dX6_knownWithCopy_29 ?_
  refine am_get hx hb hts hK hown hH (am_o7 (p := 250) (by decide +kernel)) rfl am_inX7 6 (by decide) am_q270 (v := .int (w_16.1 250 6)) rfl dX6_knownWithCopy_32 ?_
  obtain ⟨r_19, w_17, hq_18, hf⟩ := am_b2_some hf
  refine am_calli (r := r_19) (w' := w_17) (am_runV (n := 1) (As := [.int (w_16.1 250 6)]) (rest := []) ⟨hx, hb, hml, hown, hts⟩ hK hE hH (k_X7_stuckOf hq_18) (am_gV am_q973 am_q950 am_q951 am_q9 am_q952) (am_o7 (p := 250) (by decide +kernel)) rfl ⟨rfl, rfl⟩ (by decide +kernel) ⟨Nat.le_of_ble_eq_true rfl, Nat.le_of_ble_eq_true rfl⟩ rfl hl.1 rfl (Nat.le_of_ble_eq_true rfl) ⟨Nat.zero_le _, Nat.zero_le _⟩ dX6_knownWithCopy_35) hH (fun H locs hH => ?_)
  refine lv_istore (lv' := [(4, .int r_19), (3, .int x3_14), (0, .ref (G.1 + 257)), (1, .int a1), (2, .int a2)]) hx hb dX6_knownWithCopy_38 hl (by decide) rfl (fun ls hl => ?_)
  refine lv_aload_n hx hb dX6_knownWithCopy_40 rfl (lv_at hl 2 rfl) ?_
  refine am_get hx hb hts hK hown hH (am_o6 (p := 257) (by decide +kernel)) rfl am_inX6 1 (by decide) am_q315 (v := .ref (G.1 + 250)) rfl dX6_knownWithCopy_41 ?_
  refine am_get hx hb hts hK hown hH (am_o7 (p := 250) (by decide +kernel)) rfl am_inX7 4 (by decide) am_q266 (v := .ref (G.1 + 254)) rfl dX6_knownWithCopy_44 ?_
  refine lv_iload_n hx hb dX6_knownWithCopy_47 rfl (lv_at hl 4 rfl) ?_
  refine lv_iload_n hx hb dX6_knownWithCopy_48 rfl (lv_at hl 1 rfl) ?_
  obtain ⟨hi_20, hf⟩ := am_chk_some hf
  obtain ⟨w_21, hw_21, hf⟩ := am_v_some hf
  refine am_iast hx hb hK hH (am_ai_of (N := 48) (by decide +kernel)) hi_20 dX6_knownWithCopy_49 (fun H locs hH => ?_)
  rw [← hw_21] at hH
  refine lv_aload_n hx hb dX6_knownWithCopy_50 rfl (lv_at hl 2 rfl) ?_
  refine am_get hx hb hts hK hown hH (am_o6 (p := 257) (by decide +kernel)) rfl am_inX6 0 (by decide) am_q314 (v := .ref (G.1 + 11)) rfl dX6_knownWithCopy_51 ?_
  refine am_get hx hb hts hK hown hH (am_o1 (p := 11) (by decide +kernel)) rfl am_inX1 11 (by decide) am_q107 (v := .int (w_21.1 11 11)) rfl dX6_knownWithCopy_54 ?_
  refine lv_iload hx hb dX6_knownWithCopy_57 (lv_at hl 0 rfl) ?_
  obtain ⟨r_24, w_22, hq_23, hf⟩ := am_b2_some hf
  refine am_calli (r := r_24) (w' := w_22) (am_runS (n := 1) (As := [.int r_19]) (rest := [.int (w_21.1 11 11)]) ⟨hx, hb, hml, hown, hts⟩ hK hE hH (k_J6_bitCount_0f7a4 hq_23) (am_gS am_q974 am_q716 am_q23 am_q717) ⟨rfl, rfl⟩ (by decide +kernel) ⟨Nat.le_of_ble_eq_true rfl, Nat.le_of_ble_eq_true rfl⟩ rfl hl.1 rfl (Nat.le_of_ble_eq_true rfl) ⟨Nat.zero_le _, Nat.zero_le _⟩ dX6_knownWithCopy_59) hH (fun H locs hH => ?_)
  refine lv_isub hx hb dX6_knownWithCopy_62 ?_
  exact am_reti hx hb hr hlocks hH hf dX6_knownWithCopy_63

def f_X6_bestNewSlot_81 (a1 : Int32) (x2 : Int32) (x3 : Int32) (x4 : Int32) (w : am_S) : Option ((Int32 × am_S) ⊕ (Int32 × Int32 × Int32 × am_S)) :=
  am_v (x4 + (1 : Int32)) fun (x4_16 : Int32) => some (.inr (x2, x3, x4_16, w))
def f_X6_bestNewSlot_67 (a1 : Int32) (x2 : Int32) (x3 : Int32) (x4 : Int32) (s0 : Int32) (w : am_S) : Option ((Int32 × am_S) ⊕ (Int32 × Int32 × Int32 × am_S)) :=
  if s0 ≤ x3 then (f_X6_bestNewSlot_81 a1 x2 x3 x4 w) else (f_X6_bestNewSlot_81 a1 x4 s0 x4 w)
def f_X6_bestNewSlot_49 (a1 : Int32) (x2 : Int32) (x3 : Int32) (x4 : Int32) (s0 : Int32) (w : am_S) : Option ((Int32 × am_S) ⊕ (Int32 × Int32 × Int32 × am_S)) :=
  if s0 = 0 then (f_X6_bestNewSlot_67 a1 x2 x3 x4 (-1 : Int32) w) else (am_b2 (f_X6_knownWithCopy a1 x4 w) fun r_21 w_19 => f_X6_bestNewSlot_67 a1 x2 x3 x4 r_21 w_19)
def f_X6_bestNewSlot_14b (a1 : Int32) (x2 : Int32) (x3 : Int32) (x4 : Int32) (w : am_S) : Option ((Int32 × am_S) ⊕ (Int32 × Int32 × Int32 × am_S)) :=
  am_b2 (f_X1_reachTo 11 a1 w) fun r_24 w_22 => if r_24 ≤ x4 then (am_x (some (x2, w_22))) else (am_chk x4 48 (if (((w_22.1 254 x4.toNatClampNeg) >>> (a1 &&& 31)) &&& (1 : Int32)) = 0 then (f_X6_bestNewSlot_49 a1 x2 x3 x4 (1 : Int32) w_22) else (f_X6_bestNewSlot_49 a1 x2 x3 x4 (0 : Int32) w_22)))
def f_X6_bestNewSlot_14 (a1 : Int32) (x2 : Int32) (x3 : Int32) (x4 : Int32) (w : am_S) : Option (Int32 × am_S) :=
  am_loop (fun (st : (Int32 × Int32 × Int32 × am_S)) => f_X6_bestNewSlot_14b a1 st.1 st.2.1 st.2.2.1 st.2.2.2) am_fuel (x2, x3, x4, w)
def f_X6_bestNewSlot (a1 : Int32) (w : am_S) : Option (Int32 × am_S) :=
  am_b2 (f_X1_reachFrom 11 a1 w) fun r_31 w_29 => f_X6_bestNewSlot_14 a1 (-1 : Int32) (-1 : Int32) r_31 w_29
set_option maxRecDepth 100000 in
set_option maxHeartbeats 4000000 in
theorem k_X6_bestNewSlot {G : am_G} {l : Launch} {a1 : Int32}  {w : am_S} {rr : Int32} {ww : am_S} (hf : f_X6_bestNewSlot a1 w = some (rr, ww)) : am_Mi G l yX6_bestNewSlot (Cond.code yX6_bestNewSlot cX6_bestNewSlot 7 (some .int) :: am_T) { frames := 5, cells := 0, slots := 0, locals := 320 } [.ref (G.1 + 257), .int a1] w rr ww := by
  refine Met.ofW (cc := cX6_bestNewSlot) (maxL := 7) (ret := (some .int)) (by decide) rfl ?_
  intro p e s m args below meth c s₁ B hml hv
  obtain ⟨rfl, hx, hb, hr, hts, hown, hlocks, hK, hE, hH⟩ := am_begin B hv
  have hown : s.vm.findClass RX6 = some m.cls := hown
  show W p l e { frames := 5, cells := 0, slots := 0, locals := 320 } s m _ below meth c s.heap [] 0 0 _ _
  have P14 : ∀ (n1 : Nat) (x2 : Int32) (x3 : Int32) (x4 : Int32) (w : am_S) (H : Heap) (locs : List Loc) (ls : Array Slot), am_loop (fun (st : (Int32 × Int32 × Int32 × am_S)) => f_X6_bestNewSlot_14b a1 st.1 st.2.1 st.2.2.1 st.2.2.2) n1 (x2, x3, x4, w) = some (rr, ww) → am_H G w s H locs → lv_has ls 7 [(0, .ref (G.1 + 257)), (1, .int a1), (2, .int x2), (3, .int x3), (4, .int x4)] → W p l e { frames := 5, cells := 0, slots := 0, locals := 320 } s m [.ref (G.1 + 257), .int a1].toArray below meth c H locs 0 0 (MQ below (va_Qi (fun (x : Int32) (u : am_S) => x = rr ∧ u = ww) (am_U G) (am_A G)) [.ref (G.1 + 257), .int a1].toArray s 0 0 (am_A G)) (F0 m 14 ls []) := by
    intro n1
    induction n1 with
    | zero =>
      intro x2 x3 x4 w H locs ls hf hH hl
      exact (am_loop_zero hf).elim
    | succ n1 ih1 =>
      intro x2 x3 x4 w H locs ls hf hH hl
      obtain ⟨z1, hf, hk1⟩ := am_loop_succ hf
      have hf : f_X6_bestNewSlot_14b a1 x2 x3 x4 w = some z1 := hf
      have P81 : ∀ (x2 : Int32) (x3 : Int32) (x4 : Int32) (w : am_S) (z1 : ((Int32 × am_S) ⊕ (Int32 × Int32 × Int32 × am_S))) (H : Heap) (locs : List Loc) (ls : Array Slot), f_X6_bestNewSlot_81 a1 x2 x3 x4 w = some z1 → am_lk (fun (st : (Int32 × Int32 × Int32 × am_S)) => f_X6_bestNewSlot_14b a1 st.1 st.2.1 st.2.2.1 st.2.2.2) n1 (rr, ww) z1 → am_H G w s H locs → lv_has ls 7 [(0, .ref (G.1 + 257)), (1, .int a1), (2, .int x2), (3, .int x3), (4, .int x4)] → W p l e { frames := 5, cells := 0, slots := 0, locals := 320 } s m [.ref (G.1 + 257), .int a1].toArray below meth c H locs 0 0 (MQ below (va_Qi (fun (x : Int32) (u : am_S) => x = rr ∧ u = ww) (am_U G) (am_A G)) [.ref (G.1 + 257), .int a1].toArray s 0 0 (am_A G)) (F0 m 81 ls []) := by
        intro x2 x3 x4 w z1 H locs ls hf hk1 hH hl
        unfold f_X6_bestNewSlot_81 at hf
        obtain ⟨x4_16, hx4_16, hf⟩ := am_v_some hf
        refine lv_iinc (v := x4_16) (lv' := [(4, .int x4_16), (0, .ref (G.1 + 257)), (1, .int a1), (2, .int x2), (3, .int x3)]) hx hb dX6_bestNewSlot_81 hl (k := 4) rfl (by rw [hx4_16]; rfl) (by decide) rfl (fun ls hl => ?_)
        refine lv_goto (tgt := 14) hx hb dX6_bestNewSlot_84 (by decide) ?_
        obtain rfl := Option.some.inj hf
        exact ih1 x2 x3 x4_16 w H locs ls hk1 hH (lv_sub hl [1, 2, 3, 4, 0] rfl)
      have P67 : ∀ (x2 : Int32) (x3 : Int32) (x4 : Int32) (s0 : Int32) (w : am_S) (z1 : ((Int32 × am_S) ⊕ (Int32 × Int32 × Int32 × am_S))) (H : Heap) (locs : List Loc) (ls : Array Slot), f_X6_bestNewSlot_67 a1 x2 x3 x4 s0 w = some z1 → am_lk (fun (st : (Int32 × Int32 × Int32 × am_S)) => f_X6_bestNewSlot_14b a1 st.1 st.2.1 st.2.2.1 st.2.2.2) n1 (rr, ww) z1 → am_H G w s H locs → lv_has ls 7 [(0, .ref (G.1 + 257)), (1, .int a1), (2, .int x2), (3, .int x3), (4, .int x4)] → W p l e { frames := 5, cells := 0, slots := 0, locals := 320 } s m [.ref (G.1 + 257), .int a1].toArray below meth c H locs 0 0 (MQ below (va_Qi (fun (x : Int32) (u : am_S) => x = rr ∧ u = ww) (am_U G) (am_A G)) [.ref (G.1 + 257), .int a1].toArray s 0 0 (am_A G)) (F0 m 67 ls [.int s0]) := by
        intro x2 x3 x4 s0 w z1 H locs ls hf hk1 hH hl
        unfold f_X6_bestNewSlot_67 at hf
        refine lv_istore (lv' := [(6, .int s0), (0, .ref (G.1 + 257)), (1, .int a1), (2, .int x2), (3, .int x3), (4, .int x4)]) hx hb dX6_bestNewSlot_67 hl (by decide) rfl (fun ls hl => ?_)
        refine lv_iload hx hb dX6_bestNewSlot_69 (lv_at hl 0 rfl) ?_
        refine lv_iload_n hx hb dX6_bestNewSlot_71 rfl (lv_at hl 4 rfl) ?_
        refine lv_icmp_le (tgt := 81) hx hb dX6_bestNewSlot_72 (by decide) (fun hc_17 => ?_) (fun hc_17 => ?_)
        · have hf := (if_pos hc_17).symm.trans hf
          exact P81 x2 x3 x4 w z1 H locs ls hf hk1 hH (lv_sub hl [1, 2, 3, 4, 5] rfl)
        · have hf := (if_neg hc_17).symm.trans hf
          refine lv_iload hx hb dX6_bestNewSlot_75 (lv_at hl 5 rfl) ?_
          refine lv_istore_n (lv' := [(2, .int x4), (6, .int s0), (0, .ref (G.1 + 257)), (1, .int a1), (3, .int x3), (4, .int x4)]) hx hb dX6_bestNewSlot_77 rfl hl (by decide) rfl (fun ls hl => ?_)
          refine lv_iload hx hb dX6_bestNewSlot_78 (lv_at hl 1 rfl) ?_
          refine lv_istore_n (lv' := [(3, .int s0), (2, .int x4), (6, .int s0), (0, .ref (G.1 + 257)), (1, .int a1), (4, .int x4)]) hx hb dX6_bestNewSlot_80 rfl hl (by decide) rfl (fun ls hl => ?_)
          exact P81 x4 s0 x4 w z1 H locs ls hf hk1 hH (lv_sub hl [3, 4, 1, 0, 5] rfl)
      have P49 : ∀ (x2 : Int32) (x3 : Int32) (x4 : Int32) (s0 : Int32) (w : am_S) (z1 : ((Int32 × am_S) ⊕ (Int32 × Int32 × Int32 × am_S))) (H : Heap) (locs : List Loc) (ls : Array Slot), f_X6_bestNewSlot_49 a1 x2 x3 x4 s0 w = some z1 → am_lk (fun (st : (Int32 × Int32 × Int32 × am_S)) => f_X6_bestNewSlot_14b a1 st.1 st.2.1 st.2.2.1 st.2.2.2) n1 (rr, ww) z1 → am_H G w s H locs → lv_has ls 7 [(0, .ref (G.1 + 257)), (1, .int a1), (2, .int x2), (3, .int x3), (4, .int x4)] → W p l e { frames := 5, cells := 0, slots := 0, locals := 320 } s m [.ref (G.1 + 257), .int a1].toArray below meth c H locs 0 0 (MQ below (va_Qi (fun (x : Int32) (u : am_S) => x = rr ∧ u = ww) (am_U G) (am_A G)) [.ref (G.1 + 257), .int a1].toArray s 0 0 (am_A G)) (F0 m 49 ls [.int s0]) := by
        intro x2 x3 x4 s0 w z1 H locs ls hf hk1 hH hl
        unfold f_X6_bestNewSlot_49 at hf
        refine lv_istore (lv' := [(5, .int s0), (0, .ref (G.1 + 257)), (1, .int a1), (2, .int x2), (3, .int x3), (4, .int x4)]) hx hb dX6_bestNewSlot_49 hl (by decide) rfl (fun ls hl => ?_)
        refine lv_iload hx hb dX6_bestNewSlot_51 (lv_at hl 0 rfl) ?_
        refine lv_if_eq (tgt := 66) hx hb dX6_bestNewSlot_53 (by decide) (fun hc_18 => ?_) (fun hc_18 => ?_)
        · have hf := (if_pos hc_18).symm.trans hf
          refine lv_iconst (v := -1) hx hb dX6_bestNewSlot_66 (by decide) ?_
          exact P67 x2 x3 x4 (-1 : Int32) w z1 H locs ls hf hk1 hH (lv_sub hl [1, 2, 3, 4, 5] rfl)
        · have hf := (if_neg hc_18).symm.trans hf
          refine lv_aload_n hx hb dX6_bestNewSlot_56 rfl (lv_at hl 1 rfl) ?_
          refine lv_iload_n hx hb dX6_bestNewSlot_57 rfl (lv_at hl 2 rfl) ?_
          refine lv_iload hx hb dX6_bestNewSlot_58 (lv_at hl 5 rfl) ?_
          obtain ⟨r_21, w_19, hq_20, hf⟩ := am_b2_some hf
          refine am_calli (r := r_21) (w' := w_19) (am_runV (n := 2) (As := [.int a1, .int x4]) (rest := []) ⟨hx, hb, hml, hown, hts⟩ hK hE hH (k_X6_knownWithCopy hq_20) (am_gV am_q1090 am_q1091 am_q1092 am_q11 am_q1093) (am_o6 (p := 257) (by decide +kernel)) rfl ⟨rfl, rfl⟩ (by decide +kernel) ⟨Nat.le_of_ble_eq_true rfl, Nat.le_of_ble_eq_true rfl⟩ rfl hl.1 rfl (Nat.le_of_ble_eq_true rfl) ⟨Nat.zero_le _, Nat.zero_le _⟩ dX6_bestNewSlot_60) hH (fun H locs hH => ?_)
          refine lv_goto (tgt := 67) hx hb dX6_bestNewSlot_63 (by decide) ?_
          exact P67 x2 x3 x4 r_21 w_19 z1 H locs ls hf hk1 hH (lv_sub hl [1, 2, 3, 4, 5] rfl)
      unfold f_X6_bestNewSlot_14b at hf
      refine lv_iload hx hb dX6_bestNewSlot_14 (lv_at hl 4 rfl) ?_
      refine lv_aload_n hx hb dX6_bestNewSlot_16 rfl (lv_at hl 0 rfl) ?_
      refine am_get hx hb hts hK hown hH (am_o6 (p := 257) (by decide +kernel)) rfl am_inX6 0 (by decide) am_q314 (v := .ref (G.1 + 11)) rfl dX6_bestNewSlot_17 ?_
      refine lv_iload_n hx hb dX6_bestNewSlot_20 rfl (lv_at hl 1 rfl) ?_
      obtain ⟨r_24, w_22, hq_23, hf⟩ := am_b2_some hf
      refine am_calli (r := r_24) (w' := w_22) (am_runV (n := 1) (As := [.int a1]) (rest := [.int x4]) ⟨hx, hb, hml, hown, hts⟩ hK hE hH (k_X1_reachTo (by decide +kernel) hq_23) (am_gV am_q1089 am_q676 am_q677 am_q3 am_q678) (am_o1 (p := 11) (by decide +kernel)) rfl ⟨rfl, rfl⟩ (by decide +kernel) ⟨Nat.le_of_ble_eq_true rfl, Nat.le_of_ble_eq_true rfl⟩ rfl hl.1 rfl (Nat.le_of_ble_eq_true rfl) ⟨Nat.zero_le _, Nat.zero_le _⟩ dX6_bestNewSlot_21) hH (fun H locs hH => ?_)
      refine lv_icmp_ge (tgt := 87) hx hb dX6_bestNewSlot_24 (by decide) (fun hc_25 => ?_) (fun hc_25 => ?_)
      · have hf := (if_pos hc_25).symm.trans hf
        obtain ⟨y_26, hf, hzy_26⟩ := am_x_some hf
        rw [hzy_26] at hk1
        have hf := hf.trans (congrArg some (show y_26 = (rr, ww) from hk1))
        refine lv_iload_n hx hb dX6_bestNewSlot_87 rfl (lv_at hl 2 rfl) ?_
        exact am_reti hx hb hr hlocks hH hf dX6_bestNewSlot_88
      · have hf := (if_neg hc_25).symm.trans hf
        refine lv_aload_n hx hb dX6_bestNewSlot_27 rfl (lv_at hl 0 rfl) ?_
        refine am_get hx hb hts hK hown hH (am_o6 (p := 257) (by decide +kernel)) rfl am_inX6 1 (by decide) am_q315 (v := .ref (G.1 + 250)) rfl dX6_bestNewSlot_28 ?_
        refine am_get hx hb hts hK hown hH (am_o7 (p := 250) (by decide +kernel)) rfl am_inX7 4 (by decide) am_q266 (v := .ref (G.1 + 254)) rfl dX6_bestNewSlot_31 ?_
        refine lv_iload hx hb dX6_bestNewSlot_34 (lv_at hl 4 rfl) ?_
        obtain ⟨hi_27, hf⟩ := am_chk_some hf
        refine am_iald hx hb hK hH (am_ai_of (N := 48) (by decide +kernel)) hi_27 dX6_bestNewSlot_36 ?_
        refine lv_iload_n hx hb dX6_bestNewSlot_37 rfl (lv_at hl 1 rfl) ?_
        refine lv_ishr hx hb dX6_bestNewSlot_38 ?_
        refine lv_iconst (v := 1) hx hb dX6_bestNewSlot_39 (by decide) ?_
        refine lv_iand hx hb dX6_bestNewSlot_40 ?_
        refine lv_if_ne (tgt := 48) hx hb dX6_bestNewSlot_41 (by decide) (fun hc_28 => ?_) (fun hc_28 => ?_)
        · have hf := (if_neg hc_28).symm.trans hf
          refine lv_iconst (v := 0) hx hb dX6_bestNewSlot_48 (by decide) ?_
          exact P49 x2 x3 x4 (0 : Int32) w_22 z1 H locs ls hf hk1 hH (lv_sub hl [0, 1, 2, 3, 4] rfl)
        · have hf := (if_pos hc_28).symm.trans hf
          refine lv_iconst (v := 1) hx hb dX6_bestNewSlot_44 (by decide) ?_
          refine lv_goto (tgt := 49) hx hb dX6_bestNewSlot_45 (by decide) ?_
          exact P49 x2 x3 x4 (1 : Int32) w_22 z1 H locs ls hf hk1 hH (lv_sub hl [0, 1, 2, 3, 4] rfl)
  refine am_enter (lv := [(0, .ref (G.1 + 257)), (1, .int a1)]) (Nat.le_of_ble_eq_true rfl) rfl (fun ls hl => ?_)
  unfold f_X6_bestNewSlot at hf
  refine am_start hH (fun H locs hH => ?_)
  refine lv_iconst (v := -1) hx hb dX6_bestNewSlot_0 (by decide) ?_
  refine lv_istore_n (lv' := [(2, .int (-1 : Int32)), (0, .ref (G.1 + 257)), (1, .int a1)]) hx hb dX6_bestNewSlot_1 rfl hl (by decide) rfl (fun ls hl => ?_)
  refine lv_iconst (v := -1) hx hb dX6_bestNewSlot_2 (by decide) ?_
  refine lv_istore_n (lv' := [(3, .int (-1 : Int32)), (2, .int (-1 : Int32)), (0, .ref (G.1 + 257)), (1, .int a1)]) hx hb dX6_bestNewSlot_3 rfl hl (by decide) rfl (fun ls hl => ?_)
  refine lv_aload_n hx hb dX6_bestNewSlot_4 rfl (lv_at hl 2 rfl) ?_
  refine am_get hx hb hts hK hown hH (am_o6 (p := 257) (by decide +kernel)) rfl am_inX6 0 (by decide) am_q314 (v := .ref (G.1 + 11)) rfl dX6_bestNewSlot_5 ?_
  refine lv_iload_n hx hb dX6_bestNewSlot_8 rfl (lv_at hl 3 rfl) ?_
  obtain ⟨r_31, w_29, hq_30, hf⟩ := am_b2_some hf
  refine am_calli (r := r_31) (w' := w_29) (am_runV (n := 1) (As := [.int a1]) (rest := []) ⟨hx, hb, hml, hown, hts⟩ hK hE hH (k_X1_reachFrom (by decide +kernel) hq_30) (am_gV am_q1088 am_q601 am_q602 am_q3 am_q603) (am_o1 (p := 11) (by decide +kernel)) rfl ⟨rfl, rfl⟩ (by decide +kernel) ⟨Nat.le_of_ble_eq_true rfl, Nat.le_of_ble_eq_true rfl⟩ rfl hl.1 rfl (Nat.le_of_ble_eq_true rfl) ⟨Nat.zero_le _, Nat.zero_le _⟩ dX6_bestNewSlot_9) hH (fun H locs hH => ?_)
  refine lv_istore (lv' := [(4, .int r_31), (3, .int (-1 : Int32)), (2, .int (-1 : Int32)), (0, .ref (G.1 + 257)), (1, .int a1)]) hx hb dX6_bestNewSlot_12 hl (by decide) rfl (fun ls hl => ?_)
  exact P14 am_fuel (-1 : Int32) (-1 : Int32) r_31 w_29 H locs ls hf hH (lv_sub hl [3, 4, 2, 1, 0] rfl)

def f_X11_more_17 (a1 : Int32) (a2 : Int32) (w : am_S) : Option (Int32 × am_S) :=
  some ((-1000000 : Int32), w)
def f_X11_more_64 (a1 : Int32) (a2 : Int32) (s0 : Int32) (w : am_S) : Option (Int32 × am_S) :=
  some (s0, w)
def f_X11_more (a1 : Int32) (a2 : Int32) (w : am_S) : Option (Int32 × am_S) :=
  am_b2 (f_X11_noUser a1 w) fun r_19 w_17 => if r_19 = 0 then (if a2 < 0 then (f_X11_more_17 a1 a2 w_17) else (if a2 ≤ (1 : Int32) then (am_b1 (f_X7_lookAt 23 w_17) fun w_23 => am_b2 (f_X6_bestNewSlot a1 w_23) fun r_27 w_25 => if a2 = 0 then (some (r_27, w_25)) else (if r_27 = (-1 : Int32) then (f_X11_more_64 a1 a2 (0 : Int32) w_25) else (am_b2 (f_X6_knownWithCopy a1 r_27 w_25) fun r_32 w_30 => f_X11_more_64 a1 a2 r_32 w_30))) else (f_X11_more_17 a1 a2 w_17))) else (f_X11_more_17 a1 a2 w_17)
set_option maxRecDepth 100000 in
set_option maxHeartbeats 4000000 in
theorem k_X11_more {G : am_G} {l : Launch} {a1 : Int32} {a2 : Int32}  {w : am_S} {rr : Int32} {ww : am_S} (hf : f_X11_more a1 a2 w = some (rr, ww)) : am_Mi G l yX11_more (Cond.code yX11_more cX11_more 4 (some .int) :: am_T) { frames := 6, cells := 0, slots := 0, locals := 384 } [.ref (G.1 + 0), .int a1, .int a2] w rr ww := by
  refine Met.ofW (cc := cX11_more) (maxL := 4) (ret := (some .int)) (by decide) rfl ?_
  intro p e s m args below meth c s₁ B hml hv
  obtain ⟨rfl, hx, hb, hr, hts, hown, hlocks, hK, hE, hH⟩ := am_begin B hv
  have hown : s.vm.findClass RX11 = some m.cls := hown
  show W p l e { frames := 6, cells := 0, slots := 0, locals := 384 } s m _ below meth c s.heap [] 0 0 _ _
  have P17 : ∀ (w : am_S) (H : Heap) (locs : List Loc) (ls : Array Slot), f_X11_more_17 a1 a2 w = some (rr, ww) → am_H G w s H locs → lv_has ls 4 [] → W p l e { frames := 6, cells := 0, slots := 0, locals := 384 } s m [.ref (G.1 + 0), .int a1, .int a2].toArray below meth c H locs 0 0 (MQ below (va_Qi (fun (x : Int32) (u : am_S) => x = rr ∧ u = ww) (am_U G) (am_A G)) [.ref (G.1 + 0), .int a1, .int a2].toArray s 0 0 (am_A G)) (F0 m 17 ls []) := by
    intro w H locs ls hf hH hl
    unfold f_X11_more_17 at hf
    refine lv_ldc (v := -1000000) hx hb hown (hts _ am_q714) dX11_more_17 ?_
    exact am_reti hx hb hr hlocks hH hf dX11_more_19
  have P64 : ∀ (s0 : Int32) (w : am_S) (H : Heap) (locs : List Loc) (ls : Array Slot), f_X11_more_64 a1 a2 s0 w = some (rr, ww) → am_H G w s H locs → lv_has ls 4 [] → W p l e { frames := 6, cells := 0, slots := 0, locals := 384 } s m [.ref (G.1 + 0), .int a1, .int a2].toArray below meth c H locs 0 0 (MQ below (va_Qi (fun (x : Int32) (u : am_S) => x = rr ∧ u = ww) (am_U G) (am_A G)) [.ref (G.1 + 0), .int a1, .int a2].toArray s 0 0 (am_A G)) (F0 m 64 ls [.int s0]) := by
    intro s0 w H locs ls hf hH hl
    unfold f_X11_more_64 at hf
    exact am_reti hx hb hr hlocks hH hf dX11_more_64
  refine am_enter (lv := [(0, .ref (G.1 + 0)), (1, .int a1), (2, .int a2)]) (Nat.le_of_ble_eq_true rfl) rfl (fun ls hl => ?_)
  unfold f_X11_more at hf
  refine am_start hH (fun H locs hH => ?_)
  refine lv_aload_n hx hb dX11_more_0 rfl (lv_at hl 0 rfl) ?_
  refine lv_iload_n hx hb dX11_more_1 rfl (lv_at hl 1 rfl) ?_
  obtain ⟨r_19, w_17, hq_18, hf⟩ := am_b2_some hf
  refine am_calli (r := r_19) (w' := w_17) (am_runV (n := 1) (As := [.int a1]) (rest := []) ⟨hx, hb, hml, hown, hts⟩ hK hE hH (k_X11_noUser hq_18) (am_gV am_q641 am_q643 am_qs12 am_q1 am_q644) (am_o11 (p := 0) (by decide +kernel)) rfl ⟨rfl, rfl⟩ (by decide +kernel) ⟨Nat.le_of_ble_eq_true rfl, Nat.le_of_ble_eq_true rfl⟩ rfl hl.1 rfl (Nat.le_of_ble_eq_true rfl) ⟨Nat.zero_le _, Nat.zero_le _⟩ dX11_more_2) hH (fun H locs hH => ?_)
  refine lv_if_ne (tgt := 17) hx hb dX11_more_5 (by decide) (fun hc_20 => ?_) (fun hc_20 => ?_)
  · have hf := (if_neg hc_20).symm.trans hf
    exact P17 w_17 H locs ls hf hH (lv_sub hl [] rfl)
  · have hf := (if_pos hc_20).symm.trans hf
    refine lv_iload_n hx hb dX11_more_8 rfl (lv_at hl 2 rfl) ?_
    refine lv_if_lt (tgt := 17) hx hb dX11_more_9 (by decide) (fun hc_21 => ?_) (fun hc_21 => ?_)
    · have hf := (if_pos hc_21).symm.trans hf
      exact P17 w_17 H locs ls hf hH (lv_sub hl [] rfl)
    · have hf := (if_neg hc_21).symm.trans hf
      refine lv_iload_n hx hb dX11_more_12 rfl (lv_at hl 2 rfl) ?_
      refine lv_iconst (v := 1) hx hb dX11_more_13 (by decide) ?_
      refine lv_icmp_le (tgt := 20) hx hb dX11_more_14 (by decide) (fun hc_22 => ?_) (fun hc_22 => ?_)
      · have hf := (if_pos hc_22).symm.trans hf
        refine lv_aload_n hx hb dX11_more_20 rfl (lv_at hl 0 rfl) ?_
        refine am_get hx hb hts hK hown hH (am_o11 (p := 0) (by decide +kernel)) rfl am_inX11 13 (by decide) am_q344 (v := .ref (G.1 + 250)) rfl dX11_more_21 ?_
        refine lv_aload_n hx hb dX11_more_24 rfl (lv_at hl 0 rfl) ?_
        refine am_get hx hb hts hK hown hH (am_o11 (p := 0) (by decide +kernel)) rfl am_inX11 5 (by decide) am_q336 (v := .ref (G.1 + 23)) rfl dX11_more_25 ?_
        obtain ⟨w_23, hq_24, hf⟩ := am_b1_some hf
        refine am_callv (w' := w_23) (am_runV (n := 1) (As := [.ref (G.1 + 23)]) (rest := []) ⟨hx, hb, hml, hown, hts⟩ hK hE hH (k_X7_lookAt (by decide +kernel) hq_24) (am_gV am_q670 am_q671 am_q672 am_q9 am_q673) (am_o7 (p := 250) (by decide +kernel)) rfl ⟨rfl, rfl⟩ (by decide +kernel) ⟨Nat.le_of_ble_eq_true rfl, Nat.le_of_ble_eq_true rfl⟩ rfl hl.1 rfl (Nat.le_of_ble_eq_true rfl) ⟨Nat.zero_le _, Nat.zero_le _⟩ dX11_more_28) hH (fun H locs hH => ?_)
        refine lv_aload_n hx hb dX11_more_31 rfl (lv_at hl 0 rfl) ?_
        refine am_get hx hb hts hK hown hH (am_o11 (p := 0) (by decide +kernel)) rfl am_inX11 15 (by decide) am_q346 (v := .ref (G.1 + 257)) rfl dX11_more_32 ?_
        refine lv_iload_n hx hb dX11_more_35 rfl (lv_at hl 1 rfl) ?_
        obtain ⟨r_27, w_25, hq_26, hf⟩ := am_b2_some hf
        refine am_calli (r := r_27) (w' := w_25) (am_runV (n := 1) (As := [.int a1]) (rest := []) ⟨hx, hb, hml, hown, hts⟩ hK hE hH (k_X6_bestNewSlot hq_26) (am_gV am_q1084 am_q1085 am_q1086 am_q11 am_q1087) (am_o6 (p := 257) (by decide +kernel)) rfl ⟨rfl, rfl⟩ (by decide +kernel) ⟨Nat.le_of_ble_eq_true rfl, Nat.le_of_ble_eq_true rfl⟩ rfl hl.1 rfl (Nat.le_of_ble_eq_true rfl) ⟨Nat.zero_le _, Nat.zero_le _⟩ dX11_more_36) hH (fun H locs hH => ?_)
        refine lv_istore_n (lv' := [(3, .int r_27), (0, .ref (G.1 + 0)), (1, .int a1), (2, .int a2)]) hx hb dX11_more_39 rfl hl (by decide) rfl (fun ls hl => ?_)
        refine lv_iload_n hx hb dX11_more_40 rfl (lv_at hl 3 rfl) ?_
        refine lv_if_ne (tgt := 46) hx hb dX11_more_41 (by decide) (fun hc_28 => ?_) (fun hc_28 => ?_)
        · have hf := (if_neg hc_28).symm.trans hf
          refine lv_iload_n hx hb dX11_more_46 rfl (lv_at hl 0 rfl) ?_
          refine lv_iconst (v := -1) hx hb dX11_more_47 (by decide) ?_
          refine lv_icmp_ne (tgt := 55) hx hb dX11_more_48 (by decide) (fun hc_29 => ?_) (fun hc_29 => ?_)
          · have hf := (if_neg hc_29).symm.trans hf
            refine lv_aload_n hx hb dX11_more_55 rfl (lv_at hl 1 rfl) ?_
            refine am_get hx hb hts hK hown hH (am_o11 (p := 0) (by decide +kernel)) rfl am_inX11 15 (by decide) am_q346 (v := .ref (G.1 + 257)) rfl dX11_more_56 ?_
            refine lv_iload_n hx hb dX11_more_59 rfl (lv_at hl 2 rfl) ?_
            refine lv_iload_n hx hb dX11_more_60 rfl (lv_at hl 0 rfl) ?_
            obtain ⟨r_32, w_30, hq_31, hf⟩ := am_b2_some hf
            refine am_calli (r := r_32) (w' := w_30) (am_runV (n := 2) (As := [.int a1, .int r_27]) (rest := []) ⟨hx, hb, hml, hown, hts⟩ hK hE hH (k_X6_knownWithCopy hq_31) (am_gV am_q1094 am_q1091 am_q1092 am_q11 am_q1093) (am_o6 (p := 257) (by decide +kernel)) rfl ⟨rfl, rfl⟩ (by decide +kernel) ⟨Nat.le_of_ble_eq_true rfl, Nat.le_of_ble_eq_true rfl⟩ rfl hl.1 rfl (Nat.le_of_ble_eq_true rfl) ⟨Nat.zero_le _, Nat.zero_le _⟩ dX11_more_61) hH (fun H locs hH => ?_)
            exact P64 r_32 w_30 H locs ls hf hH (lv_sub hl [] rfl)
          · have hf := (if_pos hc_29).symm.trans hf
            refine lv_iconst (v := 0) hx hb dX11_more_51 (by decide) ?_
            refine lv_goto (tgt := 64) hx hb dX11_more_52 (by decide) ?_
            exact P64 (0 : Int32) w_25 H locs ls hf hH (lv_sub hl [] rfl)
        · have hf := (if_pos hc_28).symm.trans hf
          refine lv_iload_n hx hb dX11_more_44 rfl (lv_at hl 0 rfl) ?_
          exact am_reti hx hb hr hlocks hH hf dX11_more_45
      · have hf := (if_neg hc_22).symm.trans hf
        exact P17 w_17 H locs ls hf hH (lv_sub hl [] rfl)

def f_X6_fullestSlot_44  (x1 : Int32) (x2 : Int32) (w : am_S) : Option ((Int32 × am_S) ⊕ (Int32 × Int32 × am_S)) :=
  am_v (x2 + (1 : Int32)) fun (x2_15 : Int32) => some (.inr (x1, x2_15, w))
def f_X6_fullestSlot_4b  (x1 : Int32) (x2 : Int32) (w : am_S) : Option ((Int32 × am_S) ⊕ (Int32 × Int32 × am_S)) :=
  am_b2 (f_X1_allSlots 11 w) fun r_18 w_16 => if r_18 ≤ x2 then (am_x (some (x1, w_16))) else (am_chk x2 48 (am_b2 (f_J6_bitCount_0f7a4 (w_16.1 254 x2.toNatClampNeg) w_16) fun r_24 w_22 => am_chk x1 48 (am_b2 (f_J6_bitCount_0f7a4 (w_22.1 254 x1.toNatClampNeg) w_22) fun r_28 w_26 => if r_24 ≤ r_28 then (f_X6_fullestSlot_44 x1 x2 w_26) else (f_X6_fullestSlot_44 x2 x2 w_26))))
def f_X6_fullestSlot_4  (x1 : Int32) (x2 : Int32) (w : am_S) : Option (Int32 × am_S) :=
  am_loop (fun (st : (Int32 × Int32 × am_S)) => f_X6_fullestSlot_4b st.1 st.2.1 st.2.2) am_fuel (x1, x2, w)
def f_X6_fullestSlot  (w : am_S) : Option (Int32 × am_S) :=
  f_X6_fullestSlot_4 (0 : Int32) (1 : Int32) w
set_option maxRecDepth 100000 in
set_option maxHeartbeats 4000000 in
theorem k_X6_fullestSlot {G : am_G} {l : Launch}   {w : am_S} {rr : Int32} {ww : am_S} (hf : f_X6_fullestSlot  w = some (rr, ww)) : am_Mi G l yX6_fullestSlot (Cond.code yX6_fullestSlot cX6_fullestSlot 3 (some .int) :: am_T) { frames := 1, cells := 0, slots := 0, locals := 64 } [.ref (G.1 + 257)] w rr ww := by
  refine Met.ofW (cc := cX6_fullestSlot) (maxL := 3) (ret := (some .int)) (by decide) rfl ?_
  intro p e s m args below meth c s₁ B hml hv
  obtain ⟨rfl, hx, hb, hr, hts, hown, hlocks, hK, hE, hH⟩ := am_begin B hv
  have hown : s.vm.findClass RX6 = some m.cls := hown
  show W p l e { frames := 1, cells := 0, slots := 0, locals := 64 } s m _ below meth c s.heap [] 0 0 _ _
  have P4 : ∀ (n1 : Nat) (x1 : Int32) (x2 : Int32) (w : am_S) (H : Heap) (locs : List Loc) (ls : Array Slot), am_loop (fun (st : (Int32 × Int32 × am_S)) => f_X6_fullestSlot_4b st.1 st.2.1 st.2.2) n1 (x1, x2, w) = some (rr, ww) → am_H G w s H locs → lv_has ls 3 [(0, .ref (G.1 + 257)), (1, .int x1), (2, .int x2)] → W p l e { frames := 1, cells := 0, slots := 0, locals := 64 } s m [.ref (G.1 + 257)].toArray below meth c H locs 0 0 (MQ below (va_Qi (fun (x : Int32) (u : am_S) => x = rr ∧ u = ww) (am_U G) (am_A G)) [.ref (G.1 + 257)].toArray s 0 0 (am_A G)) (F0 m 4 ls []) := by
    intro n1
    induction n1 with
    | zero =>
      intro x1 x2 w H locs ls hf hH hl
      exact (am_loop_zero hf).elim
    | succ n1 ih1 =>
      intro x1 x2 w H locs ls hf hH hl
      obtain ⟨z1, hf, hk1⟩ := am_loop_succ hf
      have hf : f_X6_fullestSlot_4b x1 x2 w = some z1 := hf
      have P44 : ∀ (x1 : Int32) (x2 : Int32) (w : am_S) (z1 : ((Int32 × am_S) ⊕ (Int32 × Int32 × am_S))) (H : Heap) (locs : List Loc) (ls : Array Slot), f_X6_fullestSlot_44 x1 x2 w = some z1 → am_lk (fun (st : (Int32 × Int32 × am_S)) => f_X6_fullestSlot_4b st.1 st.2.1 st.2.2) n1 (rr, ww) z1 → am_H G w s H locs → lv_has ls 3 [(0, .ref (G.1 + 257)), (1, .int x1), (2, .int x2)] → W p l e { frames := 1, cells := 0, slots := 0, locals := 64 } s m [.ref (G.1 + 257)].toArray below meth c H locs 0 0 (MQ below (va_Qi (fun (x : Int32) (u : am_S) => x = rr ∧ u = ww) (am_U G) (am_A G)) [.ref (G.1 + 257)].toArray s 0 0 (am_A G)) (F0 m 44 ls []) := by
        intro x1 x2 w z1 H locs ls hf hk1 hH hl
        unfold f_X6_fullestSlot_44 at hf
        obtain ⟨x2_15, hx2_15, hf⟩ := am_v_some hf
        refine lv_iinc (v := x2_15) (lv' := [(2, .int x2_15), (0, .ref (G.1 + 257)), (1, .int x1)]) hx hb dX6_fullestSlot_44 hl (k := 2) rfl (by rw [hx2_15]; rfl) (by decide) rfl (fun ls hl => ?_)
        refine lv_goto (tgt := 4) hx hb dX6_fullestSlot_47 (by decide) ?_
        obtain rfl := Option.some.inj hf
        exact ih1 x1 x2_15 w H locs ls hk1 hH (lv_sub hl [1, 2, 0] rfl)
      unfold f_X6_fullestSlot_4b at hf
      refine lv_iload_n hx hb dX6_fullestSlot_4 rfl (lv_at hl 2 rfl) ?_
      refine lv_aload_n hx hb dX6_fullestSlot_5 rfl (lv_at hl 0 rfl) ?_
      refine am_get hx hb hts hK hown hH (am_o6 (p := 257) (by decide +kernel)) rfl am_inX6 0 (by decide) am_q314 (v := .ref (G.1 + 11)) rfl dX6_fullestSlot_6 ?_
      obtain ⟨r_18, w_16, hq_17, hf⟩ := am_b2_some hf
      refine am_calli (r := r_18) (w' := w_16) (am_runV (n := 0) (As := []) (rest := [.int x2]) ⟨hx, hb, hml, hown, hts⟩ hK hE hH (k_X1_allSlots (by decide +kernel) hq_17) (am_gV am_q1196 am_q630 am_q631 am_q3 am_q632) (am_o1 (p := 11) (by decide +kernel)) rfl ⟨rfl, rfl⟩ (by decide +kernel) ⟨Nat.le_of_ble_eq_true rfl, Nat.le_of_ble_eq_true rfl⟩ rfl hl.1 rfl (Nat.le_of_ble_eq_true rfl) ⟨Nat.zero_le _, Nat.zero_le _⟩ dX6_fullestSlot_9) hH (fun H locs hH => ?_)
      refine lv_icmp_ge (tgt := 50) hx hb dX6_fullestSlot_12 (by decide) (fun hc_19 => ?_) (fun hc_19 => ?_)
      · have hf := (if_pos hc_19).symm.trans hf
        obtain ⟨y_20, hf, hzy_20⟩ := am_x_some hf
        rw [hzy_20] at hk1
        have hf := hf.trans (congrArg some (show y_20 = (rr, ww) from hk1))
        refine lv_iload_n hx hb dX6_fullestSlot_50 rfl (lv_at hl 1 rfl) ?_
        exact am_reti hx hb hr hlocks hH hf dX6_fullestSlot_51
      · have hf := (if_neg hc_19).symm.trans hf
        refine lv_aload_n hx hb dX6_fullestSlot_15 rfl (lv_at hl 0 rfl) ?_
        refine am_get hx hb hts hK hown hH (am_o6 (p := 257) (by decide +kernel)) rfl am_inX6 1 (by decide) am_q315 (v := .ref (G.1 + 250)) rfl dX6_fullestSlot_16 ?_
        refine am_get hx hb hts hK hown hH (am_o7 (p := 250) (by decide +kernel)) rfl am_inX7 4 (by decide) am_q266 (v := .ref (G.1 + 254)) rfl dX6_fullestSlot_19 ?_
        refine lv_iload_n hx hb dX6_fullestSlot_22 rfl (lv_at hl 2 rfl) ?_
        obtain ⟨hi_21, hf⟩ := am_chk_some hf
        refine am_iald hx hb hK hH (am_ai_of (N := 48) (by decide +kernel)) hi_21 dX6_fullestSlot_23 ?_
        obtain ⟨r_24, w_22, hq_23, hf⟩ := am_b2_some hf
        refine am_calli (r := r_24) (w' := w_22) (am_runS (n := 1) (As := [.int (w_16.1 254 x2.toNatClampNeg)]) (rest := []) ⟨hx, hb, hml, hown, hts⟩ hK hE hH (k_J6_bitCount_0f7a4 hq_23) (am_gS am_q974 am_q716 am_q23 am_q717) ⟨rfl, rfl⟩ (by decide +kernel) ⟨Nat.le_of_ble_eq_true rfl, Nat.le_of_ble_eq_true rfl⟩ rfl hl.1 rfl (Nat.le_of_ble_eq_true rfl) ⟨Nat.zero_le _, Nat.zero_le _⟩ dX6_fullestSlot_24) hH (fun H locs hH => ?_)
        refine lv_aload_n hx hb dX6_fullestSlot_27 rfl (lv_at hl 0 rfl) ?_
        refine am_get hx hb hts hK hown hH (am_o6 (p := 257) (by decide +kernel)) rfl am_inX6 1 (by decide) am_q315 (v := .ref (G.1 + 250)) rfl dX6_fullestSlot_28 ?_
        refine am_get hx hb hts hK hown hH (am_o7 (p := 250) (by decide +kernel)) rfl am_inX7 4 (by decide) am_q266 (v := .ref (G.1 + 254)) rfl dX6_fullestSlot_31 ?_
        refine lv_iload_n hx hb dX6_fullestSlot_34 rfl (lv_at hl 1 rfl) ?_
        obtain ⟨hi_25, hf⟩ := am_chk_some hf
        refine am_iald hx hb hK hH (am_ai_of (N := 48) (by decide +kernel)) hi_25 dX6_fullestSlot_35 ?_
        obtain ⟨r_28, w_26, hq_27, hf⟩ := am_b2_some hf
        refine am_calli (r := r_28) (w' := w_26) (am_runS (n := 1) (As := [.int (w_22.1 254 x1.toNatClampNeg)]) (rest := [.int r_24]) ⟨hx, hb, hml, hown, hts⟩ hK hE hH (k_J6_bitCount_0f7a4 hq_27) (am_gS am_q974 am_q716 am_q23 am_q717) ⟨rfl, rfl⟩ (by decide +kernel) ⟨Nat.le_of_ble_eq_true rfl, Nat.le_of_ble_eq_true rfl⟩ rfl hl.1 rfl (Nat.le_of_ble_eq_true rfl) ⟨Nat.zero_le _, Nat.zero_le _⟩ dX6_fullestSlot_36) hH (fun H locs hH => ?_)
        refine lv_icmp_le (tgt := 44) hx hb dX6_fullestSlot_39 (by decide) (fun hc_29 => ?_) (fun hc_29 => ?_)
        · have hf := (if_pos hc_29).symm.trans hf
          exact P44 x1 x2 w_26 z1 H locs ls hf hk1 hH (lv_sub hl [0, 1, 2] rfl)
        · have hf := (if_neg hc_29).symm.trans hf
          refine lv_iload_n hx hb dX6_fullestSlot_42 rfl (lv_at hl 2 rfl) ?_
          refine lv_istore_n (lv' := [(1, .int x2), (0, .ref (G.1 + 257)), (2, .int x2)]) hx hb dX6_fullestSlot_43 rfl hl (by decide) rfl (fun ls hl => ?_)
          exact P44 x2 x2 w_26 z1 H locs ls hf hk1 hH (lv_sub hl [1, 0, 2] rfl)
  refine am_enter (lv := [(0, .ref (G.1 + 257))]) (Nat.le_of_ble_eq_true rfl) rfl (fun ls hl => ?_)
  unfold f_X6_fullestSlot at hf
  refine am_start hH (fun H locs hH => ?_)
  refine lv_iconst (v := 0) hx hb dX6_fullestSlot_0 (by decide) ?_
  refine lv_istore_n (lv' := [(1, .int (0 : Int32)), (0, .ref (G.1 + 257))]) hx hb dX6_fullestSlot_1 rfl hl (by decide) rfl (fun ls hl => ?_)
  refine lv_iconst (v := 1) hx hb dX6_fullestSlot_2 (by decide) ?_
  refine lv_istore_n (lv' := [(2, .int (1 : Int32)), (1, .int (0 : Int32)), (0, .ref (G.1 + 257))]) hx hb dX6_fullestSlot_3 rfl hl (by decide) rfl (fun ls hl => ?_)
  exact P4 am_fuel (0 : Int32) (1 : Int32) w H locs ls hf hH (lv_sub hl [2, 1, 0] rfl)

def f_X6_busiestUser_38 (o1 : Nat) (x2 : Int32) (x3 : Int32) (w : am_S) : Option ((Int32 × am_S) ⊕ (Int32 × Int32 × am_S)) :=
  am_v (x3 + (1 : Int32)) fun (x3_12 : Int32) => some (.inr (x2, x3_12, w))
def f_X6_busiestUser_4b (o1 : Nat) (x2 : Int32) (x3 : Int32) (w : am_S) : Option ((Int32 × am_S) ⊕ (Int32 × Int32 × am_S)) :=
  if (w.1 11 11) ≤ x3 then (am_x (some (x2, w))) else (am_chk x3 10 (am_b2 (f_J13_bitCount_95d88 (w.2.1 (o1 + 2) x3.toNatClampNeg) w) fun r_18 w_16 => am_chk x2 10 (am_b2 (f_J13_bitCount_95d88 (w_16.2.1 (o1 + 2) x2.toNatClampNeg) w_16) fun r_22 w_20 => if r_18 ≤ r_22 then (f_X6_busiestUser_38 o1 x2 x3 w_20) else (f_X6_busiestUser_38 o1 x3 x3 w_20))))
def f_X6_busiestUser_4 (o1 : Nat) (x2 : Int32) (x3 : Int32) (w : am_S) : Option (Int32 × am_S) :=
  am_loop (fun (st : (Int32 × Int32 × am_S)) => f_X6_busiestUser_4b o1 st.1 st.2.1 st.2.2) am_fuel (x2, x3, w)
def f_X6_busiestUser (o1 : Nat) (w : am_S) : Option (Int32 × am_S) :=
  f_X6_busiestUser_4 o1 (0 : Int32) (1 : Int32) w
set_option maxRecDepth 100000 in
set_option maxHeartbeats 4000000 in
theorem k_X6_busiestUser {G : am_G} {l : Launch} {o1 : Nat} (ho1 : am_f9 o1) {w : am_S} {rr : Int32} {ww : am_S} (hf : f_X6_busiestUser o1 w = some (rr, ww)) : am_Mi G l yX6_busiestUser (Cond.code yX6_busiestUser cX6_busiestUser 4 (some .int) :: am_T) { frames := 1, cells := 0, slots := 0, locals := 64 } [.ref (G.1 + 257), .ref (G.1 + o1)] w rr ww := by
  refine Met.ofW (cc := cX6_busiestUser) (maxL := 4) (ret := (some .int)) (by decide) rfl ?_
  intro p e s m args below meth c s₁ B hml hv
  obtain ⟨rfl, hx, hb, hr, hts, hown, hlocks, hK, hE, hH⟩ := am_begin B hv
  have hown : s.vm.findClass RX6 = some m.cls := hown
  show W p l e { frames := 1, cells := 0, slots := 0, locals := 64 } s m _ below meth c s.heap [] 0 0 _ _
  have P4 : ∀ (n1 : Nat) (x2 : Int32) (x3 : Int32) (w : am_S) (H : Heap) (locs : List Loc) (ls : Array Slot), am_loop (fun (st : (Int32 × Int32 × am_S)) => f_X6_busiestUser_4b o1 st.1 st.2.1 st.2.2) n1 (x2, x3, w) = some (rr, ww) → am_H G w s H locs → lv_has ls 4 [(0, .ref (G.1 + 257)), (1, .ref (G.1 + o1)), (2, .int x2), (3, .int x3)] → W p l e { frames := 1, cells := 0, slots := 0, locals := 64 } s m [.ref (G.1 + 257), .ref (G.1 + o1)].toArray below meth c H locs 0 0 (MQ below (va_Qi (fun (x : Int32) (u : am_S) => x = rr ∧ u = ww) (am_U G) (am_A G)) [.ref (G.1 + 257), .ref (G.1 + o1)].toArray s 0 0 (am_A G)) (F0 m 4 ls []) := by
    intro n1
    induction n1 with
    | zero =>
      intro x2 x3 w H locs ls hf hH hl
      exact (am_loop_zero hf).elim
    | succ n1 ih1 =>
      intro x2 x3 w H locs ls hf hH hl
      obtain ⟨z1, hf, hk1⟩ := am_loop_succ hf
      have hf : f_X6_busiestUser_4b o1 x2 x3 w = some z1 := hf
      have P38 : ∀ (x2 : Int32) (x3 : Int32) (w : am_S) (z1 : ((Int32 × am_S) ⊕ (Int32 × Int32 × am_S))) (H : Heap) (locs : List Loc) (ls : Array Slot), f_X6_busiestUser_38 o1 x2 x3 w = some z1 → am_lk (fun (st : (Int32 × Int32 × am_S)) => f_X6_busiestUser_4b o1 st.1 st.2.1 st.2.2) n1 (rr, ww) z1 → am_H G w s H locs → lv_has ls 4 [(0, .ref (G.1 + 257)), (1, .ref (G.1 + o1)), (2, .int x2), (3, .int x3)] → W p l e { frames := 1, cells := 0, slots := 0, locals := 64 } s m [.ref (G.1 + 257), .ref (G.1 + o1)].toArray below meth c H locs 0 0 (MQ below (va_Qi (fun (x : Int32) (u : am_S) => x = rr ∧ u = ww) (am_U G) (am_A G)) [.ref (G.1 + 257), .ref (G.1 + o1)].toArray s 0 0 (am_A G)) (F0 m 38 ls []) := by
        intro x2 x3 w z1 H locs ls hf hk1 hH hl
        unfold f_X6_busiestUser_38 at hf
        obtain ⟨x3_12, hx3_12, hf⟩ := am_v_some hf
        refine lv_iinc (v := x3_12) (lv' := [(3, .int x3_12), (0, .ref (G.1 + 257)), (1, .ref (G.1 + o1)), (2, .int x2)]) hx hb dX6_busiestUser_38 hl (k := 3) rfl (by rw [hx3_12]; rfl) (by decide) rfl (fun ls hl => ?_)
        refine lv_goto (tgt := 4) hx hb dX6_busiestUser_41 (by decide) ?_
        obtain rfl := Option.some.inj hf
        exact ih1 x2 x3_12 w H locs ls hk1 hH (lv_sub hl [1, 2, 3, 0] rfl)
      unfold f_X6_busiestUser_4b at hf
      refine lv_iload_n hx hb dX6_busiestUser_4 rfl (lv_at hl 3 rfl) ?_
      refine lv_aload_n hx hb dX6_busiestUser_5 rfl (lv_at hl 0 rfl) ?_
      refine am_get hx hb hts hK hown hH (am_o6 (p := 257) (by decide +kernel)) rfl am_inX6 0 (by decide) am_q314 (v := .ref (G.1 + 11)) rfl dX6_busiestUser_6 ?_
      refine am_get hx hb hts hK hown hH (am_o1 (p := 11) (by decide +kernel)) rfl am_inX1 11 (by decide) am_q107 (v := .int (w.1 11 11)) rfl dX6_busiestUser_9 ?_
      refine lv_icmp_ge (tgt := 44) hx hb dX6_busiestUser_12 (by decide) (fun hc_13 => ?_) (fun hc_13 => ?_)
      · have hf := (if_pos hc_13).symm.trans hf
        obtain ⟨y_14, hf, hzy_14⟩ := am_x_some hf
        rw [hzy_14] at hk1
        have hf := hf.trans (congrArg some (show y_14 = (rr, ww) from hk1))
        refine lv_iload_n hx hb dX6_busiestUser_44 rfl (lv_at hl 2 rfl) ?_
        exact am_reti hx hb hr hlocks hH hf dX6_busiestUser_45
      · have hf := (if_neg hc_13).symm.trans hf
        refine lv_aload_n hx hb dX6_busiestUser_15 rfl (lv_at hl 1 rfl) ?_
        refine am_get hx hb hts hK hown hH (am_o9 ho1.1) rfl am_inX9 1 (by decide) am_q180 (v := .ref (G.1 + (o1 + 2))) rfl dX6_busiestUser_16 ?_
        refine lv_iload_n hx hb dX6_busiestUser_19 rfl (lv_at hl 3 rfl) ?_
        obtain ⟨hi_15, hf⟩ := am_chk_some hf
        refine am_lald hx hb hK hH (am_al_of (N := 10) ho1.2.2.1) hi_15 dX6_busiestUser_20 ?_
        obtain ⟨r_18, w_16, hq_17, hf⟩ := am_b2_some hf
        refine am_calli (r := r_18) (w' := w_16) (am_runS (n := 1) (As := [.long (w.2.1 (o1 + 2) x3.toNatClampNeg)]) (rest := []) ⟨hx, hb, hml, hown, hts⟩ hK hE hH (k_J13_bitCount_95d88 hq_17) (am_gS am_q1201 am_q850 am_q28 am_q851) ⟨rfl, rfl⟩ (by decide +kernel) ⟨Nat.le_of_ble_eq_true rfl, Nat.le_of_ble_eq_true rfl⟩ rfl hl.1 rfl (Nat.le_of_ble_eq_true rfl) ⟨Nat.zero_le _, Nat.zero_le _⟩ dX6_busiestUser_21) hH (fun H locs hH => ?_)
        refine lv_aload_n hx hb dX6_busiestUser_24 rfl (lv_at hl 1 rfl) ?_
        refine am_get hx hb hts hK hown hH (am_o9 ho1.1) rfl am_inX9 1 (by decide) am_q180 (v := .ref (G.1 + (o1 + 2))) rfl dX6_busiestUser_25 ?_
        refine lv_iload_n hx hb dX6_busiestUser_28 rfl (lv_at hl 2 rfl) ?_
        obtain ⟨hi_19, hf⟩ := am_chk_some hf
        refine am_lald hx hb hK hH (am_al_of (N := 10) ho1.2.2.1) hi_19 dX6_busiestUser_29 ?_
        obtain ⟨r_22, w_20, hq_21, hf⟩ := am_b2_some hf
        refine am_calli (r := r_22) (w' := w_20) (am_runS (n := 1) (As := [.long (w_16.2.1 (o1 + 2) x2.toNatClampNeg)]) (rest := [.int r_18]) ⟨hx, hb, hml, hown, hts⟩ hK hE hH (k_J13_bitCount_95d88 hq_21) (am_gS am_q1201 am_q850 am_q28 am_q851) ⟨rfl, rfl⟩ (by decide +kernel) ⟨Nat.le_of_ble_eq_true rfl, Nat.le_of_ble_eq_true rfl⟩ rfl hl.1 rfl (Nat.le_of_ble_eq_true rfl) ⟨Nat.zero_le _, Nat.zero_le _⟩ dX6_busiestUser_30) hH (fun H locs hH => ?_)
        refine lv_icmp_le (tgt := 38) hx hb dX6_busiestUser_33 (by decide) (fun hc_23 => ?_) (fun hc_23 => ?_)
        · have hf := (if_pos hc_23).symm.trans hf
          exact P38 x2 x3 w_20 z1 H locs ls hf hk1 hH (lv_sub hl [0, 1, 2, 3] rfl)
        · have hf := (if_neg hc_23).symm.trans hf
          refine lv_iload_n hx hb dX6_busiestUser_36 rfl (lv_at hl 3 rfl) ?_
          refine lv_istore_n (lv' := [(2, .int x3), (0, .ref (G.1 + 257)), (1, .ref (G.1 + o1)), (3, .int x3)]) hx hb dX6_busiestUser_37 rfl hl (by decide) rfl (fun ls hl => ?_)
          exact P38 x3 x3 w_20 z1 H locs ls hf hk1 hH (lv_sub hl [1, 2, 0, 3] rfl)
  refine am_enter (lv := [(0, .ref (G.1 + 257)), (1, .ref (G.1 + o1))]) (Nat.le_of_ble_eq_true rfl) rfl (fun ls hl => ?_)
  unfold f_X6_busiestUser at hf
  refine am_start hH (fun H locs hH => ?_)
  refine lv_iconst (v := 0) hx hb dX6_busiestUser_0 (by decide) ?_
  refine lv_istore_n (lv' := [(2, .int (0 : Int32)), (0, .ref (G.1 + 257)), (1, .ref (G.1 + o1))]) hx hb dX6_busiestUser_1 rfl hl (by decide) rfl (fun ls hl => ?_)
  refine lv_iconst (v := 1) hx hb dX6_busiestUser_2 (by decide) ?_
  refine lv_istore_n (lv' := [(3, .int (1 : Int32)), (2, .int (0 : Int32)), (0, .ref (G.1 + 257)), (1, .ref (G.1 + o1))]) hx hb dX6_busiestUser_3 rfl hl (by decide) rfl (fun ls hl => ?_)
  exact P4 am_fuel (0 : Int32) (1 : Int32) w H locs ls hf hH (lv_sub hl [2, 3, 1, 0] rfl)

def f_X6_strongestUser_39  (x1 : Int32) (x2 : Int32) (w : am_S) : Option ((Int32 × am_S) ⊕ (Int32 × Int32 × am_S)) :=
  am_v (x2 + (1 : Int32)) fun (x2_6 : Int32) => some (.inr (x1, x2_6, w))
def f_X6_strongestUser_4b  (x1 : Int32) (x2 : Int32) (w : am_S) : Option ((Int32 × am_S) ⊕ (Int32 × Int32 × am_S)) :=
  if (w.1 11 11) ≤ x2 then (am_x (some (x1, w))) else (am_chk x2 10 (am_chk x1 10 (if (Op.cmpValue (FP.fcmp (w.2.2 251 x2.toNatClampNeg) (w.2.2 251 x1.toNatClampNeg)) .l) ≤ 0 then (f_X6_strongestUser_39 x1 x2 w) else (f_X6_strongestUser_39 x2 x2 w))))
def f_X6_strongestUser_4  (x1 : Int32) (x2 : Int32) (w : am_S) : Option (Int32 × am_S) :=
  am_loop (fun (st : (Int32 × Int32 × am_S)) => f_X6_strongestUser_4b st.1 st.2.1 st.2.2) am_fuel (x1, x2, w)
def f_X6_strongestUser  (w : am_S) : Option (Int32 × am_S) :=
  f_X6_strongestUser_4 (0 : Int32) (1 : Int32) w
set_option maxRecDepth 100000 in
set_option maxHeartbeats 4000000 in
theorem k_X6_strongestUser {G : am_G} {l : Launch}   {w : am_S} {rr : Int32} {ww : am_S} (hf : f_X6_strongestUser  w = some (rr, ww)) : am_Mi G l yX6_strongestUser (Cond.code yX6_strongestUser cX6_strongestUser 3 (some .int) :: am_T) { frames := 0, cells := 0, slots := 0, locals := 0 } [.ref (G.1 + 257)] w rr ww := by
  refine Met.ofW (cc := cX6_strongestUser) (maxL := 3) (ret := (some .int)) (by decide) rfl ?_
  intro p e s m args below meth c s₁ B hml hv
  obtain ⟨rfl, hx, hb, hr, hts, hown, hlocks, hK, hE, hH⟩ := am_begin B hv
  have hown : s.vm.findClass RX6 = some m.cls := hown
  show W p l e { frames := 0, cells := 0, slots := 0, locals := 0 } s m _ below meth c s.heap [] 0 0 _ _
  have P4 : ∀ (n1 : Nat) (x1 : Int32) (x2 : Int32) (w : am_S) (H : Heap) (locs : List Loc) (ls : Array Slot), am_loop (fun (st : (Int32 × Int32 × am_S)) => f_X6_strongestUser_4b st.1 st.2.1 st.2.2) n1 (x1, x2, w) = some (rr, ww) → am_H G w s H locs → lv_has ls 3 [(0, .ref (G.1 + 257)), (1, .int x1), (2, .int x2)] → W p l e { frames := 0, cells := 0, slots := 0, locals := 0 } s m [.ref (G.1 + 257)].toArray below meth c H locs 0 0 (MQ below (va_Qi (fun (x : Int32) (u : am_S) => x = rr ∧ u = ww) (am_U G) (am_A G)) [.ref (G.1 + 257)].toArray s 0 0 (am_A G)) (F0 m 4 ls []) := by
    intro n1
    induction n1 with
    | zero =>
      intro x1 x2 w H locs ls hf hH hl
      exact (am_loop_zero hf).elim
    | succ n1 ih1 =>
      intro x1 x2 w H locs ls hf hH hl
      obtain ⟨z1, hf, hk1⟩ := am_loop_succ hf
      have hf : f_X6_strongestUser_4b x1 x2 w = some z1 := hf
      have P39 : ∀ (x1 : Int32) (x2 : Int32) (w : am_S) (z1 : ((Int32 × am_S) ⊕ (Int32 × Int32 × am_S))) (H : Heap) (locs : List Loc) (ls : Array Slot), f_X6_strongestUser_39 x1 x2 w = some z1 → am_lk (fun (st : (Int32 × Int32 × am_S)) => f_X6_strongestUser_4b st.1 st.2.1 st.2.2) n1 (rr, ww) z1 → am_H G w s H locs → lv_has ls 3 [(0, .ref (G.1 + 257)), (1, .int x1), (2, .int x2)] → W p l e { frames := 0, cells := 0, slots := 0, locals := 0 } s m [.ref (G.1 + 257)].toArray below meth c H locs 0 0 (MQ below (va_Qi (fun (x : Int32) (u : am_S) => x = rr ∧ u = ww) (am_U G) (am_A G)) [.ref (G.1 + 257)].toArray s 0 0 (am_A G)) (F0 m 39 ls []) := by
        intro x1 x2 w z1 H locs ls hf hk1 hH hl
        unfold f_X6_strongestUser_39 at hf
        obtain ⟨x2_6, hx2_6, hf⟩ := am_v_some hf
        refine lv_iinc (v := x2_6) (lv' := [(2, .int x2_6), (0, .ref (G.1 + 257)), (1, .int x1)]) hx hb dX6_strongestUser_39 hl (k := 2) rfl (by rw [hx2_6]; rfl) (by decide) rfl (fun ls hl => ?_)
        refine lv_goto (tgt := 4) hx hb dX6_strongestUser_42 (by decide) ?_
        obtain rfl := Option.some.inj hf
        exact ih1 x1 x2_6 w H locs ls hk1 hH (lv_sub hl [1, 2, 0] rfl)
      unfold f_X6_strongestUser_4b at hf
      refine lv_iload_n hx hb dX6_strongestUser_4 rfl (lv_at hl 2 rfl) ?_
      refine lv_aload_n hx hb dX6_strongestUser_5 rfl (lv_at hl 0 rfl) ?_
      refine am_get hx hb hts hK hown hH (am_o6 (p := 257) (by decide +kernel)) rfl am_inX6 0 (by decide) am_q314 (v := .ref (G.1 + 11)) rfl dX6_strongestUser_6 ?_
      refine am_get hx hb hts hK hown hH (am_o1 (p := 11) (by decide +kernel)) rfl am_inX1 11 (by decide) am_q107 (v := .int (w.1 11 11)) rfl dX6_strongestUser_9 ?_
      refine lv_icmp_ge (tgt := 45) hx hb dX6_strongestUser_12 (by decide) (fun hc_7 => ?_) (fun hc_7 => ?_)
      · have hf := (if_pos hc_7).symm.trans hf
        obtain ⟨y_8, hf, hzy_8⟩ := am_x_some hf
        rw [hzy_8] at hk1
        have hf := hf.trans (congrArg some (show y_8 = (rr, ww) from hk1))
        refine lv_iload_n hx hb dX6_strongestUser_45 rfl (lv_at hl 1 rfl) ?_
        exact am_reti hx hb hr hlocks hH hf dX6_strongestUser_46
      · have hf := (if_neg hc_7).symm.trans hf
        refine lv_aload_n hx hb dX6_strongestUser_15 rfl (lv_at hl 0 rfl) ?_
        refine am_get hx hb hts hK hown hH (am_o6 (p := 257) (by decide +kernel)) rfl am_inX6 1 (by decide) am_q315 (v := .ref (G.1 + 250)) rfl dX6_strongestUser_16 ?_
        refine am_get hx hb hts hK hown hH (am_o7 (p := 250) (by decide +kernel)) rfl am_inX7 1 (by decide) am_q262 (v := .ref (G.1 + 251)) rfl dX6_strongestUser_19 ?_
        refine lv_iload_n hx hb dX6_strongestUser_22 rfl (lv_at hl 2 rfl) ?_
        obtain ⟨hi_9, hf⟩ := am_chk_some hf
        refine am_fald hx hb hK hH (am_af_of (N := 10) (by decide +kernel)) hi_9 dX6_strongestUser_23 ?_
        refine lv_aload_n hx hb dX6_strongestUser_24 rfl (lv_at hl 0 rfl) ?_
        refine am_get hx hb hts hK hown hH (am_o6 (p := 257) (by decide +kernel)) rfl am_inX6 1 (by decide) am_q315 (v := .ref (G.1 + 250)) rfl dX6_strongestUser_25 ?_
        refine am_get hx hb hts hK hown hH (am_o7 (p := 250) (by decide +kernel)) rfl am_inX7 1 (by decide) am_q262 (v := .ref (G.1 + 251)) rfl dX6_strongestUser_28 ?_
        refine lv_iload_n hx hb dX6_strongestUser_31 rfl (lv_at hl 1 rfl) ?_
        obtain ⟨hi_10, hf⟩ := am_chk_some hf
        refine am_fald hx hb hK hH (am_af_of (N := 10) (by decide +kernel)) hi_10 dX6_strongestUser_32 ?_
        refine lv_fcmp hx hb dX6_strongestUser_33 ?_
        refine lv_if_le (tgt := 39) hx hb dX6_strongestUser_34 (by decide) (fun hc_11 => ?_) (fun hc_11 => ?_)
        · have hf := (if_pos hc_11).symm.trans hf
          exact P39 x1 x2 w z1 H locs ls hf hk1 hH (lv_sub hl [0, 1, 2] rfl)
        · have hf := (if_neg hc_11).symm.trans hf
          refine lv_iload_n hx hb dX6_strongestUser_37 rfl (lv_at hl 2 rfl) ?_
          refine lv_istore_n (lv' := [(1, .int x2), (0, .ref (G.1 + 257)), (2, .int x2)]) hx hb dX6_strongestUser_38 rfl hl (by decide) rfl (fun ls hl => ?_)
          exact P39 x2 x2 w z1 H locs ls hf hk1 hH (lv_sub hl [1, 0, 2] rfl)
  refine am_enter (lv := [(0, .ref (G.1 + 257))]) (Nat.le_of_ble_eq_true rfl) rfl (fun ls hl => ?_)
  unfold f_X6_strongestUser at hf
  refine am_start hH (fun H locs hH => ?_)
  refine lv_iconst (v := 0) hx hb dX6_strongestUser_0 (by decide) ?_
  refine lv_istore_n (lv' := [(1, .int (0 : Int32)), (0, .ref (G.1 + 257))]) hx hb dX6_strongestUser_1 rfl hl (by decide) rfl (fun ls hl => ?_)
  refine lv_iconst (v := 1) hx hb dX6_strongestUser_2 (by decide) ?_
  refine lv_istore_n (lv' := [(2, .int (1 : Int32)), (1, .int (0 : Int32)), (0, .ref (G.1 + 257))]) hx hb dX6_strongestUser_3 rfl hl (by decide) rfl (fun ls hl => ?_)
  exact P4 am_fuel (0 : Int32) (1 : Int32) w H locs ls hf hH (lv_sub hl [2, 1, 0] rfl)

def f_X6_slotsWith_37 (a1 : Int32) (x3 : Int32) (s0 : Int32) (s1 : Int32) (w : am_S) : Option ((Int32 × am_S) ⊕ (Int32 × Int32 × am_S)) :=
  am_v (s1 + s0) fun (x2_12 : Int32) => am_v (x3 + (1 : Int32)) fun (x3_13 : Int32) => some (.inr (x2_12, x3_13, w))
def f_X6_slotsWith_4b (a1 : Int32) (x2 : Int32) (x3 : Int32) (w : am_S) : Option ((Int32 × am_S) ⊕ (Int32 × Int32 × am_S)) :=
  am_b2 (f_X1_allSlots 11 w) fun r_16 w_14 => if r_16 ≤ x3 then (am_x (some (x2, w_14))) else (am_chk x3 48 (am_b2 (f_J6_bitCount_0f7a4 (w_14.1 254 x3.toNatClampNeg) w_14) fun r_22 w_20 => if r_22 = a1 then (f_X6_slotsWith_37 a1 x3 (1 : Int32) x2 w_20) else (f_X6_slotsWith_37 a1 x3 (0 : Int32) x2 w_20)))
def f_X6_slotsWith_4 (a1 : Int32) (x2 : Int32) (x3 : Int32) (w : am_S) : Option (Int32 × am_S) :=
  am_loop (fun (st : (Int32 × Int32 × am_S)) => f_X6_slotsWith_4b a1 st.1 st.2.1 st.2.2) am_fuel (x2, x3, w)
def f_X6_slotsWith (a1 : Int32) (w : am_S) : Option (Int32 × am_S) :=
  f_X6_slotsWith_4 a1 (0 : Int32) (0 : Int32) w
set_option maxRecDepth 100000 in
set_option maxHeartbeats 4000000 in
theorem k_X6_slotsWith {G : am_G} {l : Launch} {a1 : Int32}  {w : am_S} {rr : Int32} {ww : am_S} (hf : f_X6_slotsWith a1 w = some (rr, ww)) : am_Mi G l yX6_slotsWith (Cond.code yX6_slotsWith cX6_slotsWith 4 (some .int) :: am_T) { frames := 1, cells := 0, slots := 0, locals := 64 } [.ref (G.1 + 257), .int a1] w rr ww := by
  refine Met.ofW (cc := cX6_slotsWith) (maxL := 4) (ret := (some .int)) (by decide) rfl ?_
  intro p e s m args below meth c s₁ B hml hv
  obtain ⟨rfl, hx, hb, hr, hts, hown, hlocks, hK, hE, hH⟩ := am_begin B hv
  have hown : s.vm.findClass RX6 = some m.cls := hown
  show W p l e { frames := 1, cells := 0, slots := 0, locals := 64 } s m _ below meth c s.heap [] 0 0 _ _
  have P4 : ∀ (n1 : Nat) (x2 : Int32) (x3 : Int32) (w : am_S) (H : Heap) (locs : List Loc) (ls : Array Slot), am_loop (fun (st : (Int32 × Int32 × am_S)) => f_X6_slotsWith_4b a1 st.1 st.2.1 st.2.2) n1 (x2, x3, w) = some (rr, ww) → am_H G w s H locs → lv_has ls 4 [(0, .ref (G.1 + 257)), (1, .int a1), (2, .int x2), (3, .int x3)] → W p l e { frames := 1, cells := 0, slots := 0, locals := 64 } s m [.ref (G.1 + 257), .int a1].toArray below meth c H locs 0 0 (MQ below (va_Qi (fun (x : Int32) (u : am_S) => x = rr ∧ u = ww) (am_U G) (am_A G)) [.ref (G.1 + 257), .int a1].toArray s 0 0 (am_A G)) (F0 m 4 ls []) := by
    intro n1
    induction n1 with
    | zero =>
      intro x2 x3 w H locs ls hf hH hl
      exact (am_loop_zero hf).elim
    | succ n1 ih1 =>
      intro x2 x3 w H locs ls hf hH hl
      obtain ⟨z1, hf, hk1⟩ := am_loop_succ hf
      have hf : f_X6_slotsWith_4b a1 x2 x3 w = some z1 := hf
      have P37 : ∀ (x3 : Int32) (s0 : Int32) (s1 : Int32) (w : am_S) (z1 : ((Int32 × am_S) ⊕ (Int32 × Int32 × am_S))) (H : Heap) (locs : List Loc) (ls : Array Slot), f_X6_slotsWith_37 a1 x3 s0 s1 w = some z1 → am_lk (fun (st : (Int32 × Int32 × am_S)) => f_X6_slotsWith_4b a1 st.1 st.2.1 st.2.2) n1 (rr, ww) z1 → am_H G w s H locs → lv_has ls 4 [(0, .ref (G.1 + 257)), (1, .int a1), (3, .int x3)] → W p l e { frames := 1, cells := 0, slots := 0, locals := 64 } s m [.ref (G.1 + 257), .int a1].toArray below meth c H locs 0 0 (MQ below (va_Qi (fun (x : Int32) (u : am_S) => x = rr ∧ u = ww) (am_U G) (am_A G)) [.ref (G.1 + 257), .int a1].toArray s 0 0 (am_A G)) (F0 m 37 ls [.int s0, .int s1]) := by
        intro x3 s0 s1 w z1 H locs ls hf hk1 hH hl
        unfold f_X6_slotsWith_37 at hf
        refine lv_iadd hx hb dX6_slotsWith_37 ?_
        obtain ⟨x2_12, hx2_12, hf⟩ := am_v_some hf
        refine am_topi hx2_12 ?_
        refine lv_istore_n (lv' := [(2, .int x2_12), (0, .ref (G.1 + 257)), (1, .int a1), (3, .int x3)]) hx hb dX6_slotsWith_38 rfl hl (by decide) rfl (fun ls hl => ?_)
        obtain ⟨x3_13, hx3_13, hf⟩ := am_v_some hf
        refine lv_iinc (v := x3_13) (lv' := [(3, .int x3_13), (2, .int x2_12), (0, .ref (G.1 + 257)), (1, .int a1)]) hx hb dX6_slotsWith_39 hl (k := 3) rfl (by rw [hx3_13]; rfl) (by decide) rfl (fun ls hl => ?_)
        refine lv_goto (tgt := 4) hx hb dX6_slotsWith_42 (by decide) ?_
        obtain rfl := Option.some.inj hf
        exact ih1 x2_12 x3_13 w H locs ls hk1 hH (lv_sub hl [2, 3, 1, 0] rfl)
      unfold f_X6_slotsWith_4b at hf
      refine lv_iload_n hx hb dX6_slotsWith_4 rfl (lv_at hl 3 rfl) ?_
      refine lv_aload_n hx hb dX6_slotsWith_5 rfl (lv_at hl 0 rfl) ?_
      refine am_get hx hb hts hK hown hH (am_o6 (p := 257) (by decide +kernel)) rfl am_inX6 0 (by decide) am_q314 (v := .ref (G.1 + 11)) rfl dX6_slotsWith_6 ?_
      obtain ⟨r_16, w_14, hq_15, hf⟩ := am_b2_some hf
      refine am_calli (r := r_16) (w' := w_14) (am_runV (n := 0) (As := []) (rest := [.int x3]) ⟨hx, hb, hml, hown, hts⟩ hK hE hH (k_X1_allSlots (by decide +kernel) hq_15) (am_gV am_q1196 am_q630 am_q631 am_q3 am_q632) (am_o1 (p := 11) (by decide +kernel)) rfl ⟨rfl, rfl⟩ (by decide +kernel) ⟨Nat.le_of_ble_eq_true rfl, Nat.le_of_ble_eq_true rfl⟩ rfl hl.1 rfl (Nat.le_of_ble_eq_true rfl) ⟨Nat.zero_le _, Nat.zero_le _⟩ dX6_slotsWith_9) hH (fun H locs hH => ?_)
      refine lv_icmp_ge (tgt := 45) hx hb dX6_slotsWith_12 (by decide) (fun hc_17 => ?_) (fun hc_17 => ?_)
      · have hf := (if_pos hc_17).symm.trans hf
        obtain ⟨y_18, hf, hzy_18⟩ := am_x_some hf
        rw [hzy_18] at hk1
        have hf := hf.trans (congrArg some (show y_18 = (rr, ww) from hk1))
        refine lv_iload_n hx hb dX6_slotsWith_45 rfl (lv_at hl 2 rfl) ?_
        exact am_reti hx hb hr hlocks hH hf dX6_slotsWith_46
      · have hf := (if_neg hc_17).symm.trans hf
        refine lv_iload_n hx hb dX6_slotsWith_15 rfl (lv_at hl 2 rfl) ?_
        refine lv_aload_n hx hb dX6_slotsWith_16 rfl (lv_at hl 0 rfl) ?_
        refine am_get hx hb hts hK hown hH (am_o6 (p := 257) (by decide +kernel)) rfl am_inX6 1 (by decide) am_q315 (v := .ref (G.1 + 250)) rfl dX6_slotsWith_17 ?_
        refine am_get hx hb hts hK hown hH (am_o7 (p := 250) (by decide +kernel)) rfl am_inX7 4 (by decide) am_q266 (v := .ref (G.1 + 254)) rfl dX6_slotsWith_20 ?_
        refine lv_iload_n hx hb dX6_slotsWith_23 rfl (lv_at hl 3 rfl) ?_
        obtain ⟨hi_19, hf⟩ := am_chk_some hf
        refine am_iald hx hb hK hH (am_ai_of (N := 48) (by decide +kernel)) hi_19 dX6_slotsWith_24 ?_
        obtain ⟨r_22, w_20, hq_21, hf⟩ := am_b2_some hf
        refine am_calli (r := r_22) (w' := w_20) (am_runS (n := 1) (As := [.int (w_14.1 254 x3.toNatClampNeg)]) (rest := [.int x2]) ⟨hx, hb, hml, hown, hts⟩ hK hE hH (k_J6_bitCount_0f7a4 hq_21) (am_gS am_q974 am_q716 am_q23 am_q717) ⟨rfl, rfl⟩ (by decide +kernel) ⟨Nat.le_of_ble_eq_true rfl, Nat.le_of_ble_eq_true rfl⟩ rfl hl.1 rfl (Nat.le_of_ble_eq_true rfl) ⟨Nat.zero_le _, Nat.zero_le _⟩ dX6_slotsWith_25) hH (fun H locs hH => ?_)
        refine lv_iload_n hx hb dX6_slotsWith_28 rfl (lv_at hl 1 rfl) ?_
        refine lv_icmp_ne (tgt := 36) hx hb dX6_slotsWith_29 (by decide) (fun hc_23 => ?_) (fun hc_23 => ?_)
        · have hf := (if_neg hc_23).symm.trans hf
          refine lv_iconst (v := 0) hx hb dX6_slotsWith_36 (by decide) ?_
          exact P37 x3 (0 : Int32) x2 w_20 z1 H locs ls hf hk1 hH (lv_sub hl [0, 1, 3] rfl)
        · have hf := (if_pos hc_23).symm.trans hf
          refine lv_iconst (v := 1) hx hb dX6_slotsWith_32 (by decide) ?_
          refine lv_goto (tgt := 37) hx hb dX6_slotsWith_33 (by decide) ?_
          exact P37 x3 (1 : Int32) x2 w_20 z1 H locs ls hf hk1 hH (lv_sub hl [0, 1, 3] rfl)
  refine am_enter (lv := [(0, .ref (G.1 + 257)), (1, .int a1)]) (Nat.le_of_ble_eq_true rfl) rfl (fun ls hl => ?_)
  unfold f_X6_slotsWith at hf
  refine am_start hH (fun H locs hH => ?_)
  refine lv_iconst (v := 0) hx hb dX6_slotsWith_0 (by decide) ?_
  refine lv_istore_n (lv' := [(2, .int (0 : Int32)), (0, .ref (G.1 + 257)), (1, .int a1)]) hx hb dX6_slotsWith_1 rfl hl (by decide) rfl (fun ls hl => ?_)
  refine lv_iconst (v := 0) hx hb dX6_slotsWith_2 (by decide) ?_
  refine lv_istore_n (lv' := [(3, .int (0 : Int32)), (2, .int (0 : Int32)), (0, .ref (G.1 + 257)), (1, .int a1)]) hx hb dX6_slotsWith_3 rfl hl (by decide) rfl (fun ls hl => ?_)
  exact P4 am_fuel (0 : Int32) (0 : Int32) w H locs ls hf hH (lv_sub hl [2, 3, 1, 0] rfl)
