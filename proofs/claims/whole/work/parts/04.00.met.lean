/-! functions and contracts of methods, by program (wip/whole/gen.py) -/
def f_X11_noField_15  (s0 : Int32) (w : am_S) : Option (Int32 × am_S) :=
  am_nar .boolean s0 (some (s0, w))
def f_X11_noField  (w : am_S) : Option (Int32 × am_S) :=
  if (w.1 11 11) = 0 then (f_X11_noField_15 (1 : Int32) w) else (f_X11_noField_15 (0 : Int32) w)
set_option maxRecDepth 100000 in
set_option maxHeartbeats 4000000 in
theorem k_X11_noField {G : am_G} {l : Launch}   {w : am_S} {rr : Int32} {ww : am_S} (hf : f_X11_noField  w = some (rr, ww)) : am_Mi G l yX11_noField (Cond.code yX11_noField cX11_noField 1 (some .boolean) :: am_T) { frames := 0, cells := 0, slots := 0, locals := 0 } [.ref (G.1 + 0)] w rr ww := by
  refine Met.ofW (cc := cX11_noField) (maxL := 1) (ret := (some .boolean)) (by decide) rfl ?_
  intro p e s m args below meth c s₁ B hml hv
  obtain ⟨rfl, hx, hb, hr, hts, hown, hlocks, hK, hE, hH⟩ := am_begin B hv
  have hown : s.vm.findClass RX11 = some m.cls := hown
  show W p l e { frames := 0, cells := 0, slots := 0, locals := 0 } s m _ below meth c s.heap [] 0 0 _ _
  have P15 : ∀ (s0 : Int32) (w : am_S) (H : Heap) (locs : List Loc) (ls : Array Slot), f_X11_noField_15 s0 w = some (rr, ww) → am_H G w s H locs → lv_has ls 1 [] → W p l e { frames := 0, cells := 0, slots := 0, locals := 0 } s m [.ref (G.1 + 0)].toArray below meth c H locs 0 0 (MQ below (va_Qi (fun (x : Int32) (u : am_S) => x = rr ∧ u = ww) (am_U G) (am_A G)) [.ref (G.1 + 0)].toArray s 0 0 (am_A G)) (F0 m 15 ls [.int s0]) := by
    intro s0 w H locs ls hf hH hl
    unfold f_X11_noField_15 at hf
    obtain ⟨hr_2, hf⟩ := am_nar_some hf
    exact am_retz hx hb hr hr_2.1 hlocks hH hf dX11_noField_15
  refine am_enter (lv := [(0, .ref (G.1 + 0))]) (Nat.le_of_ble_eq_true rfl) rfl (fun ls hl => ?_)
  unfold f_X11_noField at hf
  refine am_start hH (fun H locs hH => ?_)
  refine lv_aload_n hx hb dX11_noField_0 rfl (lv_at hl 0 rfl) ?_
  refine am_get hx hb hts hK hown hH (am_o11 (p := 0) (by decide +kernel)) rfl am_inX11 2 (by decide) am_q333 (v := .ref (G.1 + 11)) rfl dX11_noField_1 ?_
  refine am_get hx hb hts hK hown hH (am_o1 (p := 11) (by decide +kernel)) rfl am_inX1 11 (by decide) am_q106 (v := .int (w.1 11 11)) rfl dX11_noField_4 ?_
  refine lv_if_ne (tgt := 14) hx hb dX11_noField_7 (by decide) (fun hc_3 => ?_) (fun hc_3 => ?_)
  · have hf := (if_neg hc_3).symm.trans hf
    refine lv_iconst (v := 0) hx hb dX11_noField_14 (by decide) ?_
    exact P15 (0 : Int32) w H locs ls hf hH (lv_sub hl [] rfl)
  · have hf := (if_pos hc_3).symm.trans hf
    refine lv_iconst (v := 1) hx hb dX11_noField_10 (by decide) ?_
    refine lv_goto (tgt := 15) hx hb dX11_noField_11 (by decide) ?_
    exact P15 (1 : Int32) w H locs ls hf hH (lv_sub hl [] rfl)

def f_J7_fill_53178_5b (p0 : Nat) (m0 : Nat) (a1 : Int32) (x3 : Int32) (x2 : Int32) (w : am_S) : Option (am_S ⊕ (Int32 × am_S)) :=
  if x3 ≤ x2 then (am_x (some w)) else (am_chk x2 m0 (am_v (am_pi w p0 x2.toNatClampNeg a1) fun (w_9 : am_S) => am_v (x2 + (1 : Int32)) fun (x2_10 : Int32) => some (.inr (x2_10, w_9))))
def f_J7_fill_53178_5 (p0 : Nat) (m0 : Nat) (a1 : Int32) (x2 : Int32) (x3 : Int32) (w : am_S) : Option am_S :=
  am_loop (fun (st : (Int32 × am_S)) => f_J7_fill_53178_5b p0 m0 a1 x3 st.1 st.2) am_fuel (x2, w)
def f_J7_fill_53178 (p0 : Nat) (m0 : Nat) (a1 : Int32) (w : am_S) : Option am_S :=
  am_v (Int32.ofNat m0) fun (x3_11 : Int32) => f_J7_fill_53178_5 p0 m0 a1 (0 : Int32) x3_11 w
set_option maxRecDepth 100000 in
set_option maxHeartbeats 4000000 in
theorem k_J7_fill_53178 {G : am_G} {l : Launch} {p0 : Nat} {m0 : Nat} {a1 : Int32} (ha0 : am_ai G p0 m0) {w : am_S} {ww : am_S} (hf : f_J7_fill_53178 p0 m0 a1 w = some ww) : am_Mv G l yJ7_fill_53178 (Cond.code yJ7_fill_53178 cJ7_fill_53178 4 none :: am_T) { frames := 0, cells := 0, slots := 0, locals := 0 } [.ref (G.1 + p0), .int a1] w ww := by
  refine Met.ofW (cc := cJ7_fill_53178) (maxL := 4) (ret := none) (by decide) rfl ?_
  intro p e s m args below meth c s₁ B hml hv
  obtain ⟨rfl, hx, hb, hr, hts, hown, hlocks, hK, hE, hH⟩ := am_begin B hv
  have hown : s.vm.findClass RJ7 = some m.cls := hown
  show W p l e { frames := 0, cells := 0, slots := 0, locals := 0 } s m _ below meth c s.heap [] 0 0 _ _
  have P5 : ∀ (x3 : Int32) (n1 : Nat) (x2 : Int32) (w : am_S) (H : Heap) (locs : List Loc) (ls : Array Slot), am_loop (fun (st : (Int32 × am_S)) => f_J7_fill_53178_5b p0 m0 a1 x3 st.1 st.2) n1 (x2, w) = some ww → am_H G w s H locs → lv_has ls 4 [(0, .ref (G.1 + p0)), (1, .int a1), (2, .int x2), (3, .int x3)] → W p l e { frames := 0, cells := 0, slots := 0, locals := 0 } s m [.ref (G.1 + p0), .int a1].toArray below meth c H locs 0 0 (MQ below (va_Qv (fun (u : am_S) => u = ww) (am_U G) (am_A G)) [.ref (G.1 + p0), .int a1].toArray s 0 0 (am_A G)) (F0 m 5 ls []) := by
    intro x3 n1
    induction n1 with
    | zero =>
      intro x2 w H locs ls hf hH hl
      exact (am_loop_zero hf).elim
    | succ n1 ih1 =>
      intro x2 w H locs ls hf hH hl
      obtain ⟨z1, hf, hk1⟩ := am_loop_succ hf
      have hf : f_J7_fill_53178_5b p0 m0 a1 x3 x2 w = some z1 := hf
      unfold f_J7_fill_53178_5b at hf
      refine lv_iload_n hx hb dJ7_fill_53178_5 rfl (lv_at hl 2 rfl) ?_
      refine lv_iload_n hx hb dJ7_fill_53178_6 rfl (lv_at hl 3 rfl) ?_
      refine lv_icmp_ge (tgt := 20) hx hb dJ7_fill_53178_7 (by decide) (fun hc_6 => ?_) (fun hc_6 => ?_)
      · have hf := (if_pos hc_6).symm.trans hf
        obtain ⟨y_7, hf, hzy_7⟩ := am_x_some hf
        rw [hzy_7] at hk1
        have hf := hf.trans (congrArg some (show y_7 = ww from hk1))
        exact am_retv hx hb hr hlocks hH hf dJ7_fill_53178_20
      · have hf := (if_neg hc_6).symm.trans hf
        refine lv_aload_n hx hb dJ7_fill_53178_10 rfl (lv_at hl 0 rfl) ?_
        refine lv_iload_n hx hb dJ7_fill_53178_11 rfl (lv_at hl 2 rfl) ?_
        refine lv_iload_n hx hb dJ7_fill_53178_12 rfl (lv_at hl 1 rfl) ?_
        obtain ⟨hi_8, hf⟩ := am_chk_some hf
        obtain ⟨w_9, hw_9, hf⟩ := am_v_some hf
        refine am_iast hx hb hK hH ha0 hi_8 dJ7_fill_53178_13 (fun H locs hH => ?_)
        rw [← hw_9] at hH
        obtain ⟨x2_10, hx2_10, hf⟩ := am_v_some hf
        refine lv_iinc (v := x2_10) (lv' := [(2, .int x2_10), (0, .ref (G.1 + p0)), (1, .int a1), (3, .int x3)]) hx hb dJ7_fill_53178_14 hl (k := 2) rfl (by rw [hx2_10]; rfl) (by decide) rfl (fun ls hl => ?_)
        refine lv_goto (tgt := 5) hx hb dJ7_fill_53178_17 (by decide) ?_
        obtain rfl := Option.some.inj hf
        exact ih1 x2_10 w_9 H locs ls hk1 hH (lv_sub hl [1, 2, 0, 3] rfl)
  refine am_enter (lv := [(0, .ref (G.1 + p0)), (1, .int a1)]) (Nat.le_of_ble_eq_true rfl) rfl (fun ls hl => ?_)
  unfold f_J7_fill_53178 at hf
  refine am_start hH (fun H locs hH => ?_)
  refine lv_iconst (v := 0) hx hb dJ7_fill_53178_0 (by decide) ?_
  refine lv_istore_n (lv' := [(2, .int (0 : Int32)), (0, .ref (G.1 + p0)), (1, .int a1)]) hx hb dJ7_fill_53178_1 rfl hl (by decide) rfl (fun ls hl => ?_)
  refine lv_aload_n hx hb dJ7_fill_53178_2 rfl (lv_at hl 1 rfl) ?_
  refine am_leni (v := Int32.ofNat m0) hx hb hK hH ha0 rfl dJ7_fill_53178_3 ?_
  obtain ⟨x3_11, hx3_11, hf⟩ := am_v_some hf
  refine am_topi hx3_11 ?_
  refine lv_istore_n (lv' := [(3, .int x3_11), (2, .int (0 : Int32)), (0, .ref (G.1 + p0)), (1, .int a1)]) hx hb dJ7_fill_53178_4 rfl hl (by decide) rfl (fun ls hl => ?_)
  exact P5 x3_11 am_fuel (0 : Int32) w H locs ls hf hH (lv_sub hl [2, 3, 1, 0] rfl)

def f_X7_assume_21 (a1 : Int32) (w : am_S) : Option am_S :=
  some w
def f_X7_assume (a1 : Int32) (w : am_S) : Option am_S :=
  if (w.1 250 5) = a1 then (f_X7_assume_21 a1 w) else (am_b1 (f_J7_fill_53178 253 1024 (-1 : Int32) w) fun w_6 => am_v (am_pi w_6 250 5 a1) fun (w_8 : am_S) => f_X7_assume_21 a1 w_8)
set_option maxRecDepth 100000 in
set_option maxHeartbeats 4000000 in
theorem k_X7_assume {G : am_G} {l : Launch} {a1 : Int32}  {w : am_S} {ww : am_S} (hf : f_X7_assume a1 w = some ww) : am_Mv G l yX7_assume (Cond.code yX7_assume cX7_assume 2 none :: am_T) { frames := 1, cells := 0, slots := 0, locals := 64 } [.ref (G.1 + 250), .int a1] w ww := by
  refine Met.ofW (cc := cX7_assume) (maxL := 2) (ret := none) (by decide) rfl ?_
  intro p e s m args below meth c s₁ B hml hv
  obtain ⟨rfl, hx, hb, hr, hts, hown, hlocks, hK, hE, hH⟩ := am_begin B hv
  have hown : s.vm.findClass RX7 = some m.cls := hown
  show W p l e { frames := 1, cells := 0, slots := 0, locals := 64 } s m _ below meth c s.heap [] 0 0 _ _
  have P21 : ∀ (w : am_S) (H : Heap) (locs : List Loc) (ls : Array Slot), f_X7_assume_21 a1 w = some ww → am_H G w s H locs → lv_has ls 2 [] → W p l e { frames := 1, cells := 0, slots := 0, locals := 64 } s m [.ref (G.1 + 250), .int a1].toArray below meth c H locs 0 0 (MQ below (va_Qv (fun (u : am_S) => u = ww) (am_U G) (am_A G)) [.ref (G.1 + 250), .int a1].toArray s 0 0 (am_A G)) (F0 m 21 ls []) := by
    intro w H locs ls hf hH hl
    unfold f_X7_assume_21 at hf
    exact am_retv hx hb hr hlocks hH hf dX7_assume_21
  refine am_enter (lv := [(0, .ref (G.1 + 250)), (1, .int a1)]) (Nat.le_of_ble_eq_true rfl) rfl (fun ls hl => ?_)
  unfold f_X7_assume at hf
  refine am_start hH (fun H locs hH => ?_)
  refine lv_aload_n hx hb dX7_assume_0 rfl (lv_at hl 0 rfl) ?_
  refine am_get hx hb hts hK hown hH (am_o7 (p := 250) (by decide +kernel)) rfl am_inX7 5 (by decide) am_q269 (v := .int (w.1 250 5)) rfl dX7_assume_1 ?_
  refine lv_iload_n hx hb dX7_assume_4 rfl (lv_at hl 1 rfl) ?_
  refine lv_icmp_eq (tgt := 21) hx hb dX7_assume_5 (by decide) (fun hc_5 => ?_) (fun hc_5 => ?_)
  · have hf := (if_pos hc_5).symm.trans hf
    exact P21 w H locs ls hf hH (lv_sub hl [] rfl)
  · have hf := (if_neg hc_5).symm.trans hf
    refine lv_aload_n hx hb dX7_assume_8 rfl (lv_at hl 0 rfl) ?_
    refine am_get hx hb hts hK hown hH (am_o7 (p := 250) (by decide +kernel)) rfl am_inX7 3 (by decide) am_q264 (v := .ref (G.1 + 253)) rfl dX7_assume_9 ?_
    refine lv_iconst (v := -1) hx hb dX7_assume_12 (by decide) ?_
    obtain ⟨w_6, hq_7, hf⟩ := am_b1_some hf
    refine am_callv (w' := w_6) (am_runS (n := 2) (As := [.ref (G.1 + 253), .int (-1 : Int32)]) (rest := []) ⟨hx, hb, hml, hown, hts⟩ hK hE hH (k_J7_fill_53178 (am_ai_of (N := 1024) (by decide +kernel)) hq_7) (am_gS am_q674 am_q423 am_q14 am_q424) ⟨rfl, rfl⟩ (by decide +kernel) ⟨Nat.le_of_ble_eq_true rfl, Nat.le_of_ble_eq_true rfl⟩ rfl hl.1 rfl (Nat.le_of_ble_eq_true rfl) ⟨Nat.zero_le _, Nat.zero_le _⟩ dX7_assume_13) hH (fun H locs hH => ?_)
    refine lv_aload_n hx hb dX7_assume_16 rfl (lv_at hl 0 rfl) ?_
    refine lv_iload_n hx hb dX7_assume_17 rfl (lv_at hl 1 rfl) ?_
    obtain ⟨w_8, hw_8, hf⟩ := am_v_some hf
    refine am_puti hx hb hts hK hown hH (am_o7 (p := 250) (by decide +kernel)) rfl am_inX7 tyX7 tyX7_ok nmX7 5 (by decide) am_q269 rfl rfl rfl (fun _ _ => Nat.le_of_ble_eq_true rfl) (fun _ _ _ => rfl) dX7_assume_18 (fun H locs hH => ?_)
    rw [← hw_8] at hH
    exact P21 w_8 H locs ls hf hH (lv_sub hl [] rfl)

def f_X1_reachTo_25 (o0 : Nat) (a1 : Int32) (s0 : Int32) (w : am_S) : Option (Int32 × am_S) :=
  some (s0 * (w.1 o0 7), w)
def f_X1_reachTo (o0 : Nat) (a1 : Int32) (w : am_S) : Option (Int32 × am_S) :=
  am_chk a1 10 (am_v ((w.1 (o0 + 4) a1.toNatClampNeg) + (2 : Int32)) fun (x2_5 : Int32) => if (w.1 o0 8) ≤ x2_5 then (f_X1_reachTo_25 o0 a1 (w.1 o0 8) w) else (f_X1_reachTo_25 o0 a1 x2_5 w))
set_option maxRecDepth 100000 in
set_option maxHeartbeats 4000000 in
theorem k_X1_reachTo {G : am_G} {l : Launch} {o0 : Nat} {a1 : Int32} (ho0 : am_f1 o0) {w : am_S} {rr : Int32} {ww : am_S} (hf : f_X1_reachTo o0 a1 w = some (rr, ww)) : am_Mi G l yX1_reachTo (Cond.code yX1_reachTo cX1_reachTo 3 (some .int) :: am_T) { frames := 0, cells := 0, slots := 0, locals := 0 } [.ref (G.1 + o0), .int a1] w rr ww := by
  refine Met.ofW (cc := cX1_reachTo) (maxL := 3) (ret := (some .int)) (by decide) rfl ?_
  intro p e s m args below meth c s₁ B hml hv
  obtain ⟨rfl, hx, hb, hr, hts, hown, hlocks, hK, hE, hH⟩ := am_begin B hv
  have hown : s.vm.findClass RX1 = some m.cls := hown
  show W p l e { frames := 0, cells := 0, slots := 0, locals := 0 } s m _ below meth c s.heap [] 0 0 _ _
  have P25 : ∀ (s0 : Int32) (w : am_S) (H : Heap) (locs : List Loc) (ls : Array Slot), f_X1_reachTo_25 o0 a1 s0 w = some (rr, ww) → am_H G w s H locs → lv_has ls 3 [(0, .ref (G.1 + o0))] → W p l e { frames := 0, cells := 0, slots := 0, locals := 0 } s m [.ref (G.1 + o0), .int a1].toArray below meth c H locs 0 0 (MQ below (va_Qi (fun (x : Int32) (u : am_S) => x = rr ∧ u = ww) (am_U G) (am_A G)) [.ref (G.1 + o0), .int a1].toArray s 0 0 (am_A G)) (F0 m 25 ls [.int s0]) := by
    intro s0 w H locs ls hf hH hl
    unfold f_X1_reachTo_25 at hf
    refine lv_aload_n hx hb dX1_reachTo_25 rfl (lv_at hl 0 rfl) ?_
    refine am_get hx hb hts hK hown hH (am_o1 ho0.1) rfl am_inX1 7 (by decide) am_q89 (v := .int (w.1 o0 7)) rfl dX1_reachTo_26 ?_
    refine lv_imul hx hb dX1_reachTo_29 ?_
    exact am_reti hx hb hr hlocks hH hf dX1_reachTo_30
  refine am_enter (lv := [(0, .ref (G.1 + o0)), (1, .int a1)]) (Nat.le_of_ble_eq_true rfl) rfl (fun ls hl => ?_)
  unfold f_X1_reachTo at hf
  refine am_start hH (fun H locs hH => ?_)
  refine lv_aload_n hx hb dX1_reachTo_0 rfl (lv_at hl 0 rfl) ?_
  refine am_get hx hb hts hK hown hH (am_o1 ho0.1) rfl am_inX1 3 (by decide) am_q78 (v := .ref (G.1 + (o0 + 4))) rfl dX1_reachTo_1 ?_
  refine lv_iload_n hx hb dX1_reachTo_4 rfl (lv_at hl 1 rfl) ?_
  obtain ⟨hi_4, hf⟩ := am_chk_some hf
  refine am_iald hx hb hK hH (am_ai_of (N := 10) ho0.2.2.2.2.1) hi_4 dX1_reachTo_5 ?_
  refine lv_iconst (v := 2) hx hb dX1_reachTo_6 (by decide) ?_
  refine lv_iadd hx hb dX1_reachTo_7 ?_
  obtain ⟨x2_5, hx2_5, hf⟩ := am_v_some hf
  refine am_topi hx2_5 ?_
  refine lv_istore_n (lv' := [(2, .int x2_5), (0, .ref (G.1 + o0)), (1, .int a1)]) hx hb dX1_reachTo_8 rfl hl (by decide) rfl (fun ls hl => ?_)
  refine lv_iload_n hx hb dX1_reachTo_9 rfl (lv_at hl 0 rfl) ?_
  refine lv_aload_n hx hb dX1_reachTo_10 rfl (lv_at hl 1 rfl) ?_
  refine am_get hx hb hts hK hown hH (am_o1 ho0.1) rfl am_inX1 8 (by decide) am_q94 (v := .int (w.1 o0 8)) rfl dX1_reachTo_11 ?_
  refine lv_icmp_ge (tgt := 21) hx hb dX1_reachTo_14 (by decide) (fun hc_6 => ?_) (fun hc_6 => ?_)
  · have hf := (if_pos hc_6).symm.trans hf
    refine lv_aload_n hx hb dX1_reachTo_21 rfl (lv_at hl 1 rfl) ?_
    refine am_get hx hb hts hK hown hH (am_o1 ho0.1) rfl am_inX1 8 (by decide) am_q94 (v := .int (w.1 o0 8)) rfl dX1_reachTo_22 ?_
    exact P25 (w.1 o0 8) w H locs ls hf hH (lv_sub hl [1] rfl)
  · have hf := (if_neg hc_6).symm.trans hf
    refine lv_iload_n hx hb dX1_reachTo_17 rfl (lv_at hl 0 rfl) ?_
    refine lv_goto (tgt := 25) hx hb dX1_reachTo_18 (by decide) ?_
    exact P25 x2_5 w H locs ls hf hH (lv_sub hl [1] rfl)

def f_X1_reachFrom (o0 : Nat) (a1 : Int32) (w : am_S) : Option (Int32 × am_S) :=
  am_chk a1 10 (some ((w.1 (o0 + 4) a1.toNatClampNeg) * (w.1 o0 7), w))
set_option maxRecDepth 100000 in
set_option maxHeartbeats 4000000 in
theorem k_X1_reachFrom {G : am_G} {l : Launch} {o0 : Nat} {a1 : Int32} (ho0 : am_f1 o0) {w : am_S} {rr : Int32} {ww : am_S} (hf : f_X1_reachFrom o0 a1 w = some (rr, ww)) : am_Mi G l yX1_reachFrom (Cond.code yX1_reachFrom cX1_reachFrom 2 (some .int) :: am_T) { frames := 0, cells := 0, slots := 0, locals := 0 } [.ref (G.1 + o0), .int a1] w rr ww := by
  refine Met.ofW (cc := cX1_reachFrom) (maxL := 2) (ret := (some .int)) (by decide) rfl ?_
  intro p e s m args below meth c s₁ B hml hv
  obtain ⟨rfl, hx, hb, hr, hts, hown, hlocks, hK, hE, hH⟩ := am_begin B hv
  have hown : s.vm.findClass RX1 = some m.cls := hown
  show W p l e { frames := 0, cells := 0, slots := 0, locals := 0 } s m _ below meth c s.heap [] 0 0 _ _
  refine am_enter (lv := [(0, .ref (G.1 + o0)), (1, .int a1)]) (Nat.le_of_ble_eq_true rfl) rfl (fun ls hl => ?_)
  unfold f_X1_reachFrom at hf
  refine am_start hH (fun H locs hH => ?_)
  refine lv_aload_n hx hb dX1_reachFrom_0 rfl (lv_at hl 0 rfl) ?_
  refine am_get hx hb hts hK hown hH (am_o1 ho0.1) rfl am_inX1 3 (by decide) am_q78 (v := .ref (G.1 + (o0 + 4))) rfl dX1_reachFrom_1 ?_
  refine lv_iload_n hx hb dX1_reachFrom_4 rfl (lv_at hl 1 rfl) ?_
  obtain ⟨hi_2, hf⟩ := am_chk_some hf
  refine am_iald hx hb hK hH (am_ai_of (N := 10) ho0.2.2.2.2.1) hi_2 dX1_reachFrom_5 ?_
  refine lv_aload_n hx hb dX1_reachFrom_6 rfl (lv_at hl 0 rfl) ?_
  refine am_get hx hb hts hK hown hH (am_o1 ho0.1) rfl am_inX1 7 (by decide) am_q89 (v := .int (w.1 o0 7)) rfl dX1_reachFrom_7 ?_
  refine lv_imul hx hb dX1_reachFrom_10 ?_
  exact am_reti hx hb hr hlocks hH hf dX1_reachFrom_11

def f_X9_hasCopy_20 (o0 : Nat) (a1 : Int32) (a2 : Int32) (s0 : Int32) (w : am_S) : Option (Int32 × am_S) :=
  am_nar .boolean s0 (some (s0, w))
def f_X9_hasCopy (o0 : Nat) (a1 : Int32) (a2 : Int32) (w : am_S) : Option (Int32 × am_S) :=
  am_chk a1 10 (if (lg_cmp ((am_lshr (w.2.1 (o0 + 2) a1.toNatClampNeg) a2) &&& (1 : Int64)) (0 : Int64)) = 0 then (f_X9_hasCopy_20 o0 a1 a2 (0 : Int32) w) else (f_X9_hasCopy_20 o0 a1 a2 (1 : Int32) w))
set_option maxRecDepth 100000 in
set_option maxHeartbeats 4000000 in
theorem k_X9_hasCopy {G : am_G} {l : Launch} {o0 : Nat} {a1 : Int32} {a2 : Int32} (ho0 : am_f9 o0) {w : am_S} {rr : Int32} {ww : am_S} (hf : f_X9_hasCopy o0 a1 a2 w = some (rr, ww)) : am_Mi G l yX9_hasCopy (Cond.code yX9_hasCopy cX9_hasCopy 3 (some .boolean) :: am_T) { frames := 0, cells := 0, slots := 0, locals := 0 } [.ref (G.1 + o0), .int a1, .int a2] w rr ww := by
  refine Met.ofW (cc := cX9_hasCopy) (maxL := 3) (ret := (some .boolean)) (by decide) rfl ?_
  intro p e s m args below meth c s₁ B hml hv
  obtain ⟨rfl, hx, hb, hr, hts, hown, hlocks, hK, hE, hH⟩ := am_begin B hv
  have hown : s.vm.findClass RX9 = some m.cls := hown
  show W p l e { frames := 0, cells := 0, slots := 0, locals := 0 } s m _ below meth c s.heap [] 0 0 _ _
  have P20 : ∀ (s0 : Int32) (w : am_S) (H : Heap) (locs : List Loc) (ls : Array Slot), f_X9_hasCopy_20 o0 a1 a2 s0 w = some (rr, ww) → am_H G w s H locs → lv_has ls 3 [] → W p l e { frames := 0, cells := 0, slots := 0, locals := 0 } s m [.ref (G.1 + o0), .int a1, .int a2].toArray below meth c H locs 0 0 (MQ below (va_Qi (fun (x : Int32) (u : am_S) => x = rr ∧ u = ww) (am_U G) (am_A G)) [.ref (G.1 + o0), .int a1, .int a2].toArray s 0 0 (am_A G)) (F0 m 20 ls [.int s0]) := by
    intro s0 w H locs ls hf hH hl
    unfold f_X9_hasCopy_20 at hf
    obtain ⟨hr_3, hf⟩ := am_nar_some hf
    exact am_retz hx hb hr hr_3.1 hlocks hH hf dX9_hasCopy_20
  refine am_enter (lv := [(0, .ref (G.1 + o0)), (1, .int a1), (2, .int a2)]) (Nat.le_of_ble_eq_true rfl) rfl (fun ls hl => ?_)
  unfold f_X9_hasCopy at hf
  refine am_start hH (fun H locs hH => ?_)
  refine lv_aload_n hx hb dX9_hasCopy_0 rfl (lv_at hl 0 rfl) ?_
  refine am_get hx hb hts hK hown hH (am_o9 ho0.1) rfl am_inX9 1 (by decide) am_q177 (v := .ref (G.1 + (o0 + 2))) rfl dX9_hasCopy_1 ?_
  refine lv_iload_n hx hb dX9_hasCopy_4 rfl (lv_at hl 1 rfl) ?_
  obtain ⟨hi_4, hf⟩ := am_chk_some hf
  refine am_lald hx hb hK hH (am_al_of (N := 10) ho0.2.2.1) hi_4 dX9_hasCopy_5 ?_
  refine lv_iload_n hx hb dX9_hasCopy_6 rfl (lv_at hl 2 rfl) ?_
  refine lv_lshr (v := am_lshr (w.2.1 (o0 + 2) a1.toNatClampNeg) a2) hx hb dX9_hasCopy_7 rfl ?_
  refine lv_lconst (v := 1) hx hb dX9_hasCopy_8 (by decide) ?_
  refine lv_land hx hb dX9_hasCopy_9 ?_
  refine lv_lconst (v := 0) hx hb dX9_hasCopy_10 (by decide) ?_
  refine W.lcmp hx hb dX9_hasCopy_11 ?_
  refine lv_if_eq (tgt := 19) hx hb dX9_hasCopy_12 (by decide) (fun hc_5 => ?_) (fun hc_5 => ?_)
  · have hf := (if_pos hc_5).symm.trans hf
    refine lv_iconst (v := 0) hx hb dX9_hasCopy_19 (by decide) ?_
    exact P20 (0 : Int32) w H locs ls hf hH (lv_sub hl [] rfl)
  · have hf := (if_neg hc_5).symm.trans hf
    refine lv_iconst (v := 1) hx hb dX9_hasCopy_15 (by decide) ?_
    refine lv_goto (tgt := 20) hx hb dX9_hasCopy_16 (by decide) ?_
    exact P20 (1 : Int32) w H locs ls hf hH (lv_sub hl [] rfl)

def f_X7_lookAt_101 (o1 : Nat) (x2 : Int32) (x3 : Int32) (x4 : Int32) (s0 : Int32) (s1 : Int32) (s2 : Int32) (w : am_S) : Option ((am_S ⊕ (Int32 × am_S)) ⊕ (Int32 × am_S)) :=
  am_chk s2 48 (am_v (am_pi w 254 s2.toNatClampNeg (s1 ||| s0)) fun (w_27 : am_S) => am_v (x4 + (1 : Int32)) fun (x4_28 : Int32) => some (.inr (x4_28, w_27)))
def f_X7_lookAt_70b (o1 : Nat) (x2 : Int32) (x3 : Int32) (x4 : Int32) (w : am_S) : Option ((am_S ⊕ (Int32 × am_S)) ⊕ (Int32 × am_S)) :=
  if x3 ≤ x4 then (am_x (am_v (x2 + (1 : Int32)) fun (x2_31 : Int32) => some (.inr (x2_31, w)))) else (am_chk x4 48 (am_b2 (f_X9_hasCopy o1 x2 x4 w) fun r_35 w_33 => if r_35 = 0 then (f_X7_lookAt_101 o1 x2 x3 x4 (0 : Int32) (w.1 254 x4.toNatClampNeg) x4 w_33) else (f_X7_lookAt_101 o1 x2 x3 x4 ((1 : Int32) <<< (x2 &&& 31)) (w.1 254 x4.toNatClampNeg) x4 w_33)))
def f_X7_lookAt_70 (o1 : Nat) (x2 : Int32) (x3 : Int32) (x4 : Int32) (w : am_S) : Option (am_S ⊕ (Int32 × am_S)) :=
  am_loop (fun (st : (Int32 × am_S)) => f_X7_lookAt_70b o1 x2 x3 st.1 st.2) am_fuel (x4, w)
def f_X7_lookAt_47 (o1 : Nat) (x2 : Int32) (s0 : Int32) (s1 : Int32) (w : am_S) : Option (am_S ⊕ (Int32 × am_S)) :=
  am_v (am_pi w 250 6 (s1 ||| s0)) fun (w_37 : am_S) => am_b2 (f_X1_reachTo 11 x2 w_37) fun r_40 w_38 => am_b2 (f_X1_reachFrom 11 x2 w_38) fun r_43 w_41 => f_X7_lookAt_70 o1 x2 r_40 r_43 w_41
def f_X7_lookAt_15b (o1 : Nat) (x2 : Int32) (w : am_S) : Option (am_S ⊕ (Int32 × am_S)) :=
  if (w.1 11 11) ≤ x2 then (am_x (am_b1 (f_X7_assume (w.1 o1 4) w) fun w_46 => some w_46)) else (am_chk x2 10 (if (w.1 (o1 + 1) x2.toNatClampNeg) = 0 then (f_X7_lookAt_47 o1 x2 ((1 : Int32) <<< (x2 &&& 31)) (w.1 250 6) w) else (f_X7_lookAt_47 o1 x2 (0 : Int32) (w.1 250 6) w)))
def f_X7_lookAt_15 (o1 : Nat) (x2 : Int32) (w : am_S) : Option am_S :=
  am_loop (fun (st : (Int32 × am_S)) => f_X7_lookAt_15b o1 st.1 st.2) am_fuel (x2, w)
def f_X7_lookAt (o1 : Nat) (w : am_S) : Option am_S :=
  am_b1 (f_J7_fill_53178 254 48 (0 : Int32) w) fun w_50 => am_v (am_pi w_50 250 6 (0 : Int32)) fun (w_52 : am_S) => f_X7_lookAt_15 o1 (0 : Int32) w_52
set_option maxRecDepth 100000 in
set_option maxHeartbeats 4000000 in
theorem k_X7_lookAt {G : am_G} {l : Launch} {o1 : Nat} (ho1 : am_f9 o1) {w : am_S} {ww : am_S} (hf : f_X7_lookAt o1 w = some ww) : am_Mv G l yX7_lookAt (Cond.code yX7_lookAt cX7_lookAt 5 none :: am_T) { frames := 2, cells := 0, slots := 0, locals := 128 } [.ref (G.1 + 250), .ref (G.1 + o1)] w ww := by
  refine Met.ofW (cc := cX7_lookAt) (maxL := 5) (ret := none) (by decide) rfl ?_
  intro p e s m args below meth c s₁ B hml hv
  obtain ⟨rfl, hx, hb, hr, hts, hown, hlocks, hK, hE, hH⟩ := am_begin B hv
  have hown : s.vm.findClass RX7 = some m.cls := hown
  show W p l e { frames := 2, cells := 0, slots := 0, locals := 128 } s m _ below meth c s.heap [] 0 0 _ _
  have P15 : ∀ (n1 : Nat) (x2 : Int32) (w : am_S) (H : Heap) (locs : List Loc) (ls : Array Slot), am_loop (fun (st : (Int32 × am_S)) => f_X7_lookAt_15b o1 st.1 st.2) n1 (x2, w) = some ww → am_H G w s H locs → lv_has ls 5 [(0, .ref (G.1 + 250)), (1, .ref (G.1 + o1)), (2, .int x2)] → W p l e { frames := 2, cells := 0, slots := 0, locals := 128 } s m [.ref (G.1 + 250), .ref (G.1 + o1)].toArray below meth c H locs 0 0 (MQ below (va_Qv (fun (u : am_S) => u = ww) (am_U G) (am_A G)) [.ref (G.1 + 250), .ref (G.1 + o1)].toArray s 0 0 (am_A G)) (F0 m 15 ls []) := by
    intro n1
    induction n1 with
    | zero =>
      intro x2 w H locs ls hf hH hl
      exact (am_loop_zero hf).elim
    | succ n1 ih1 =>
      intro x2 w H locs ls hf hH hl
      obtain ⟨z1, hf, hk1⟩ := am_loop_succ hf
      have hf : f_X7_lookAt_15b o1 x2 w = some z1 := hf
      have P70 : ∀ (x2 : Int32) (x3 : Int32) (n2 : Nat) (x4 : Int32) (w : am_S) (z1 : (am_S ⊕ (Int32 × am_S))) (H : Heap) (locs : List Loc) (ls : Array Slot), am_loop (fun (st : (Int32 × am_S)) => f_X7_lookAt_70b o1 x2 x3 st.1 st.2) n2 (x4, w) = some z1 → am_lk (fun (st : (Int32 × am_S)) => f_X7_lookAt_15b o1 st.1 st.2) n1 ww z1 → am_H G w s H locs → lv_has ls 5 [(0, .ref (G.1 + 250)), (1, .ref (G.1 + o1)), (2, .int x2), (3, .int x3), (4, .int x4)] → W p l e { frames := 2, cells := 0, slots := 0, locals := 128 } s m [.ref (G.1 + 250), .ref (G.1 + o1)].toArray below meth c H locs 0 0 (MQ below (va_Qv (fun (u : am_S) => u = ww) (am_U G) (am_A G)) [.ref (G.1 + 250), .ref (G.1 + o1)].toArray s 0 0 (am_A G)) (F0 m 70 ls []) := by
        intro x2 x3 n2
        induction n2 with
        | zero =>
          intro x4 w z1 H locs ls hf hk1 hH hl
          exact (am_loop_zero hf).elim
        | succ n2 ih2 =>
          intro x4 w z1 H locs ls hf hk1 hH hl
          obtain ⟨z2, hf, hk2⟩ := am_loop_succ hf
          have hf : f_X7_lookAt_70b o1 x2 x3 x4 w = some z2 := hf
          have P101 : ∀ (x4 : Int32) (s0 : Int32) (s1 : Int32) (s2 : Int32) (w : am_S) (z2 : ((am_S ⊕ (Int32 × am_S)) ⊕ (Int32 × am_S))) (H : Heap) (locs : List Loc) (ls : Array Slot), f_X7_lookAt_101 o1 x2 x3 x4 s0 s1 s2 w = some z2 → am_lk (fun (st : (Int32 × am_S)) => f_X7_lookAt_70b o1 x2 x3 st.1 st.2) n2 z1 z2 → am_H G w s H locs → lv_has ls 5 [(0, .ref (G.1 + 250)), (1, .ref (G.1 + o1)), (2, .int x2), (3, .int x3), (4, .int x4)] → W p l e { frames := 2, cells := 0, slots := 0, locals := 128 } s m [.ref (G.1 + 250), .ref (G.1 + o1)].toArray below meth c H locs 0 0 (MQ below (va_Qv (fun (u : am_S) => u = ww) (am_U G) (am_A G)) [.ref (G.1 + 250), .ref (G.1 + o1)].toArray s 0 0 (am_A G)) (F0 m 101 ls [.int s0, .int s1, .int s2, .ref (G.1 + 254)]) := by
            intro x4 s0 s1 s2 w z2 H locs ls hf hk2 hH hl
            unfold f_X7_lookAt_101 at hf
            refine lv_ior hx hb dX7_lookAt_101 ?_
            obtain ⟨hi_26, hf⟩ := am_chk_some hf
            obtain ⟨w_27, hw_27, hf⟩ := am_v_some hf
            refine am_iast hx hb hK hH (am_ai_of (N := 48) (by decide +kernel)) hi_26 dX7_lookAt_102 (fun H locs hH => ?_)
            rw [← hw_27] at hH
            obtain ⟨x4_28, hx4_28, hf⟩ := am_v_some hf
            refine lv_iinc (v := x4_28) (lv' := [(4, .int x4_28), (0, .ref (G.1 + 250)), (1, .ref (G.1 + o1)), (2, .int x2), (3, .int x3)]) hx hb dX7_lookAt_103 hl (k := 4) rfl (by rw [hx4_28]; rfl) (by decide) rfl (fun ls hl => ?_)
            refine lv_goto (tgt := 70) hx hb dX7_lookAt_106 (by decide) ?_
            obtain rfl := Option.some.inj hf
            exact ih2 x4_28 w_27 z1 H locs ls hk2 hk1 hH (lv_sub hl [1, 2, 3, 4, 0] rfl)
          unfold f_X7_lookAt_70b at hf
          refine lv_iload hx hb dX7_lookAt_70 (lv_at hl 4 rfl) ?_
          refine lv_iload_n hx hb dX7_lookAt_72 rfl (lv_at hl 3 rfl) ?_
          refine lv_icmp_ge (tgt := 109) hx hb dX7_lookAt_73 (by decide) (fun hc_29 => ?_) (fun hc_29 => ?_)
          · have hf := (if_pos hc_29).symm.trans hf
            obtain ⟨y_30, hf, hzy_30⟩ := am_x_some hf
            rw [hzy_30] at hk2
            have hf := hf.trans (congrArg some (show y_30 = z1 from hk2))
            obtain ⟨x2_31, hx2_31, hf⟩ := am_v_some hf
            refine lv_iinc (v := x2_31) (lv' := [(2, .int x2_31), (0, .ref (G.1 + 250)), (1, .ref (G.1 + o1)), (3, .int x3), (4, .int x4)]) hx hb dX7_lookAt_109 hl (k := 2) rfl (by rw [hx2_31]; rfl) (by decide) rfl (fun ls hl => ?_)
            refine lv_goto (tgt := 15) hx hb dX7_lookAt_112 (by decide) ?_
            obtain rfl := Option.some.inj hf
            exact ih1 x2_31 w H locs ls hk1 hH (lv_sub hl [1, 2, 0] rfl)
          · have hf := (if_neg hc_29).symm.trans hf
            refine lv_aload_n hx hb dX7_lookAt_76 rfl (lv_at hl 0 rfl) ?_
            refine am_get hx hb hts hK hown hH (am_o7 (p := 250) (by decide +kernel)) rfl am_inX7 4 (by decide) am_q265 (v := .ref (G.1 + 254)) rfl dX7_lookAt_77 ?_
            refine lv_iload hx hb dX7_lookAt_80 (lv_at hl 4 rfl) ?_
            refine lv_dup2_11 hx hb dX7_lookAt_82 rfl rfl ?_
            obtain ⟨hi_32, hf⟩ := am_chk_some hf
            refine am_iald hx hb hK hH (am_ai_of (N := 48) (by decide +kernel)) hi_32 dX7_lookAt_83 ?_
            refine lv_aload_n hx hb dX7_lookAt_84 rfl (lv_at hl 1 rfl) ?_
            refine lv_iload_n hx hb dX7_lookAt_85 rfl (lv_at hl 2 rfl) ?_
            refine lv_iload hx hb dX7_lookAt_86 (lv_at hl 4 rfl) ?_
            obtain ⟨r_35, w_33, hq_34, hf⟩ := am_b2_some hf
            refine am_calli (r := r_35) (w' := w_33) (am_runV (n := 2) (As := [.int x2, .int x4]) (rest := [.int (w.1 254 x4.toNatClampNeg), .int x4, .ref (G.1 + 254)]) ⟨hx, hb, hml, hown, hts⟩ hK hE hH (k_X9_hasCopy ho1 hq_34) (am_gV am_q680 am_q667 am_q668 am_q5 am_q669) (am_o9 ho1.1) rfl ⟨rfl, rfl⟩ (by decide +kernel) ⟨Nat.le_of_ble_eq_true rfl, Nat.le_of_ble_eq_true rfl⟩ rfl hl.1 rfl (Nat.le_of_ble_eq_true rfl) ⟨Nat.zero_le _, Nat.zero_le _⟩ dX7_lookAt_88) hH (fun H locs hH => ?_)
            refine lv_if_eq (tgt := 100) hx hb dX7_lookAt_91 (by decide) (fun hc_36 => ?_) (fun hc_36 => ?_)
            · have hf := (if_pos hc_36).symm.trans hf
              refine lv_iconst (v := 0) hx hb dX7_lookAt_100 (by decide) ?_
              exact P101 x4 (0 : Int32) (w.1 254 x4.toNatClampNeg) x4 w_33 z2 H locs ls hf hk2 hH (lv_sub hl [0, 1, 2, 3, 4] rfl)
            · have hf := (if_neg hc_36).symm.trans hf
              refine lv_iconst (v := 1) hx hb dX7_lookAt_94 (by decide) ?_
              refine lv_iload_n hx hb dX7_lookAt_95 rfl (lv_at hl 2 rfl) ?_
              refine lv_ishl hx hb dX7_lookAt_96 ?_
              refine lv_goto (tgt := 101) hx hb dX7_lookAt_97 (by decide) ?_
              exact P101 x4 ((1 : Int32) <<< (x2 &&& 31)) (w.1 254 x4.toNatClampNeg) x4 w_33 z2 H locs ls hf hk2 hH (lv_sub hl [0, 1, 2, 3, 4] rfl)
      have P47 : ∀ (x2 : Int32) (s0 : Int32) (s1 : Int32) (w : am_S) (z1 : (am_S ⊕ (Int32 × am_S))) (H : Heap) (locs : List Loc) (ls : Array Slot), f_X7_lookAt_47 o1 x2 s0 s1 w = some z1 → am_lk (fun (st : (Int32 × am_S)) => f_X7_lookAt_15b o1 st.1 st.2) n1 ww z1 → am_H G w s H locs → lv_has ls 5 [(0, .ref (G.1 + 250)), (1, .ref (G.1 + o1)), (2, .int x2)] → W p l e { frames := 2, cells := 0, slots := 0, locals := 128 } s m [.ref (G.1 + 250), .ref (G.1 + o1)].toArray below meth c H locs 0 0 (MQ below (va_Qv (fun (u : am_S) => u = ww) (am_U G) (am_A G)) [.ref (G.1 + 250), .ref (G.1 + o1)].toArray s 0 0 (am_A G)) (F0 m 47 ls [.int s0, .int s1, .ref (G.1 + 250)]) := by
        intro x2 s0 s1 w z1 H locs ls hf hk1 hH hl
        unfold f_X7_lookAt_47 at hf
        refine lv_ior hx hb dX7_lookAt_47 ?_
        obtain ⟨w_37, hw_37, hf⟩ := am_v_some hf
        refine am_puti hx hb hts hK hown hH (am_o7 (p := 250) (by decide +kernel)) rfl am_inX7 tyX7 tyX7_ok nmX7 6 (by decide) am_q271 rfl rfl rfl (fun _ _ => Nat.le_of_ble_eq_true rfl) (fun _ _ _ => rfl) dX7_lookAt_48 (fun H locs hH => ?_)
        rw [← hw_37] at hH
        refine lv_aload_n hx hb dX7_lookAt_51 rfl (lv_at hl 0 rfl) ?_
        refine am_get hx hb hts hK hown hH (am_o7 (p := 250) (by decide +kernel)) rfl am_inX7 0 (by decide) am_q259 (v := .ref (G.1 + 11)) rfl dX7_lookAt_52 ?_
        refine lv_iload_n hx hb dX7_lookAt_55 rfl (lv_at hl 2 rfl) ?_
        obtain ⟨r_40, w_38, hq_39, hf⟩ := am_b2_some hf
        refine am_calli (r := r_40) (w' := w_38) (am_runV (n := 1) (As := [.int x2]) (rest := []) ⟨hx, hb, hml, hown, hts⟩ hK hE hH (k_X1_reachTo (by decide +kernel) hq_39) (am_gV am_q675 am_q676 am_q677 am_q3 am_q678) (am_o1 (p := 11) (by decide +kernel)) rfl ⟨rfl, rfl⟩ (by decide +kernel) ⟨Nat.le_of_ble_eq_true rfl, Nat.le_of_ble_eq_true rfl⟩ rfl hl.1 rfl (Nat.le_of_ble_eq_true rfl) ⟨Nat.zero_le _, Nat.zero_le _⟩ dX7_lookAt_56) hH (fun H locs hH => ?_)
        refine lv_istore_n (lv' := [(3, .int r_40), (0, .ref (G.1 + 250)), (1, .ref (G.1 + o1)), (2, .int x2)]) hx hb dX7_lookAt_59 rfl hl (by decide) rfl (fun ls hl => ?_)
        refine lv_aload_n hx hb dX7_lookAt_60 rfl (lv_at hl 1 rfl) ?_
        refine am_get hx hb hts hK hown hH (am_o7 (p := 250) (by decide +kernel)) rfl am_inX7 0 (by decide) am_q259 (v := .ref (G.1 + 11)) rfl dX7_lookAt_61 ?_
        refine lv_iload_n hx hb dX7_lookAt_64 rfl (lv_at hl 3 rfl) ?_
        obtain ⟨r_43, w_41, hq_42, hf⟩ := am_b2_some hf
        refine am_calli (r := r_43) (w' := w_41) (am_runV (n := 1) (As := [.int x2]) (rest := []) ⟨hx, hb, hml, hown, hts⟩ hK hE hH (k_X1_reachFrom (by decide +kernel) hq_42) (am_gV am_q679 am_q601 am_q602 am_q3 am_q603) (am_o1 (p := 11) (by decide +kernel)) rfl ⟨rfl, rfl⟩ (by decide +kernel) ⟨Nat.le_of_ble_eq_true rfl, Nat.le_of_ble_eq_true rfl⟩ rfl hl.1 rfl (Nat.le_of_ble_eq_true rfl) ⟨Nat.zero_le _, Nat.zero_le _⟩ dX7_lookAt_65) hH (fun H locs hH => ?_)
        refine lv_istore (lv' := [(4, .int r_43), (3, .int r_40), (0, .ref (G.1 + 250)), (1, .ref (G.1 + o1)), (2, .int x2)]) hx hb dX7_lookAt_68 hl (by decide) rfl (fun ls hl => ?_)
        exact P70 x2 r_40 am_fuel r_43 w_41 z1 H locs ls hf hk1 hH (lv_sub hl [2, 3, 4, 1, 0] rfl)
      unfold f_X7_lookAt_15b at hf
      refine lv_iload_n hx hb dX7_lookAt_15 rfl (lv_at hl 2 rfl) ?_
      refine lv_aload_n hx hb dX7_lookAt_16 rfl (lv_at hl 0 rfl) ?_
      refine am_get hx hb hts hK hown hH (am_o7 (p := 250) (by decide +kernel)) rfl am_inX7 0 (by decide) am_q259 (v := .ref (G.1 + 11)) rfl dX7_lookAt_17 ?_
      refine am_get hx hb hts hK hown hH (am_o1 (p := 11) (by decide +kernel)) rfl am_inX1 11 (by decide) am_q102 (v := .int (w.1 11 11)) rfl dX7_lookAt_20 ?_
      refine lv_icmp_ge (tgt := 115) hx hb dX7_lookAt_23 (by decide) (fun hc_44 => ?_) (fun hc_44 => ?_)
      · have hf := (if_pos hc_44).symm.trans hf
        obtain ⟨y_45, hf, hzy_45⟩ := am_x_some hf
        rw [hzy_45] at hk1
        have hf := hf.trans (congrArg some (show y_45 = ww from hk1))
        refine lv_aload_n hx hb dX7_lookAt_115 rfl (lv_at hl 0 rfl) ?_
        refine lv_aload_n hx hb dX7_lookAt_116 rfl (lv_at hl 1 rfl) ?_
        refine am_get hx hb hts hK hown hH (am_o9 ho1.1) rfl am_inX9 4 (by decide) am_q188 (v := .int (w.1 o1 4)) rfl dX7_lookAt_117 ?_
        obtain ⟨w_46, hq_47, hf⟩ := am_b1_some hf
        refine am_callv (w' := w_46) (am_runV (n := 1) (As := [.int (w.1 o1 4)]) (rest := []) ⟨hx, hb, hml, hown, hts⟩ hK hE hH (k_X7_assume hq_47) (am_gV am_q681 am_q682 am_q683 am_q9 am_q684) (am_o7 (p := 250) (by decide +kernel)) rfl ⟨rfl, rfl⟩ (by decide +kernel) ⟨Nat.le_of_ble_eq_true rfl, Nat.le_of_ble_eq_true rfl⟩ rfl hl.1 rfl (Nat.le_of_ble_eq_true rfl) ⟨Nat.zero_le _, Nat.zero_le _⟩ dX7_lookAt_120) hH (fun H locs hH => ?_)
        exact am_retv hx hb hr hlocks hH hf dX7_lookAt_123
      · have hf := (if_neg hc_44).symm.trans hf
        refine lv_aload_n hx hb dX7_lookAt_26 rfl (lv_at hl 0 rfl) ?_
        refine lv_dup hx hb dX7_lookAt_27 rfl ?_
        refine am_get hx hb hts hK hown hH (am_o7 (p := 250) (by decide +kernel)) rfl am_inX7 6 (by decide) am_q271 (v := .int (w.1 250 6)) rfl dX7_lookAt_28 ?_
        refine lv_aload_n hx hb dX7_lookAt_31 rfl (lv_at hl 1 rfl) ?_
        refine am_get hx hb hts hK hown hH (am_o9 ho1.1) rfl am_inX9 0 (by decide) am_q174 (v := .ref (G.1 + (o1 + 1))) rfl dX7_lookAt_32 ?_
        refine lv_iload_n hx hb dX7_lookAt_35 rfl (lv_at hl 2 rfl) ?_
        obtain ⟨hi_48, hf⟩ := am_chk_some hf
        refine am_iald hx hb hK hH (am_ai_of (N := 10) ho1.2.1) hi_48 dX7_lookAt_36 ?_
        refine lv_if_ne (tgt := 46) hx hb dX7_lookAt_37 (by decide) (fun hc_49 => ?_) (fun hc_49 => ?_)
        · have hf := (if_neg hc_49).symm.trans hf
          refine lv_iconst (v := 0) hx hb dX7_lookAt_46 (by decide) ?_
          exact P47 x2 (0 : Int32) (w.1 250 6) w z1 H locs ls hf hk1 hH (lv_sub hl [0, 1, 2] rfl)
        · have hf := (if_pos hc_49).symm.trans hf
          refine lv_iconst (v := 1) hx hb dX7_lookAt_40 (by decide) ?_
          refine lv_iload_n hx hb dX7_lookAt_41 rfl (lv_at hl 2 rfl) ?_
          refine lv_ishl hx hb dX7_lookAt_42 ?_
          refine lv_goto (tgt := 47) hx hb dX7_lookAt_43 (by decide) ?_
          exact P47 x2 ((1 : Int32) <<< (x2 &&& 31)) (w.1 250 6) w z1 H locs ls hf hk1 hH (lv_sub hl [0, 1, 2] rfl)
  refine am_enter (lv := [(0, .ref (G.1 + 250)), (1, .ref (G.1 + o1))]) (Nat.le_of_ble_eq_true rfl) rfl (fun ls hl => ?_)
  unfold f_X7_lookAt at hf
  refine am_start hH (fun H locs hH => ?_)
  refine lv_aload_n hx hb dX7_lookAt_0 rfl (lv_at hl 0 rfl) ?_
  refine am_get hx hb hts hK hown hH (am_o7 (p := 250) (by decide +kernel)) rfl am_inX7 4 (by decide) am_q265 (v := .ref (G.1 + 254)) rfl dX7_lookAt_1 ?_
  refine lv_iconst (v := 0) hx hb dX7_lookAt_4 (by decide) ?_
  obtain ⟨w_50, hq_51, hf⟩ := am_b1_some hf
  refine am_callv (w' := w_50) (am_runS (n := 2) (As := [.ref (G.1 + 254), .int (0 : Int32)]) (rest := []) ⟨hx, hb, hml, hown, hts⟩ hK hE hH (k_J7_fill_53178 (am_ai_of (N := 48) (by decide +kernel)) hq_51) (am_gS am_q674 am_q423 am_q14 am_q424) ⟨rfl, rfl⟩ (by decide +kernel) ⟨Nat.le_of_ble_eq_true rfl, Nat.le_of_ble_eq_true rfl⟩ rfl hl.1 rfl (Nat.le_of_ble_eq_true rfl) ⟨Nat.zero_le _, Nat.zero_le _⟩ dX7_lookAt_5) hH (fun H locs hH => ?_)
  refine lv_aload_n hx hb dX7_lookAt_8 rfl (lv_at hl 0 rfl) ?_
  refine lv_iconst (v := 0) hx hb dX7_lookAt_9 (by decide) ?_
  obtain ⟨w_52, hw_52, hf⟩ := am_v_some hf
  refine am_puti hx hb hts hK hown hH (am_o7 (p := 250) (by decide +kernel)) rfl am_inX7 tyX7 tyX7_ok nmX7 6 (by decide) am_q271 rfl rfl rfl (fun _ _ => Nat.le_of_ble_eq_true rfl) (fun _ _ _ => rfl) dX7_lookAt_10 (fun H locs hH => ?_)
  rw [← hw_52] at hH
  refine lv_iconst (v := 0) hx hb dX7_lookAt_13 (by decide) ?_
  refine lv_istore_n (lv' := [(2, .int (0 : Int32)), (0, .ref (G.1 + 250)), (1, .ref (G.1 + o1))]) hx hb dX7_lookAt_14 rfl hl (by decide) rfl (fun ls hl => ?_)
  exact P15 am_fuel (0 : Int32) w_52 H locs ls hf hH (lv_sub hl [1, 2, 0] rfl)

def f_X1_everyone (o0 : Nat) (w : am_S) : Option (Int32 × am_S) :=
  some (((1 : Int32) <<< ((w.1 o0 11) &&& 31)) - (1 : Int32), w)
set_option maxRecDepth 100000 in
set_option maxHeartbeats 4000000 in
theorem k_X1_everyone {G : am_G} {l : Launch} {o0 : Nat} (ho0 : am_f1 o0) {w : am_S} {rr : Int32} {ww : am_S} (hf : f_X1_everyone o0 w = some (rr, ww)) : am_Mi G l yX1_everyone (Cond.code yX1_everyone cX1_everyone 1 (some .int) :: am_T) { frames := 0, cells := 0, slots := 0, locals := 0 } [.ref (G.1 + o0)] w rr ww := by
  refine Met.ofW (cc := cX1_everyone) (maxL := 1) (ret := (some .int)) (by decide) rfl ?_
  intro p e s m args below meth c s₁ B hml hv
  obtain ⟨rfl, hx, hb, hr, hts, hown, hlocks, hK, hE, hH⟩ := am_begin B hv
  have hown : s.vm.findClass RX1 = some m.cls := hown
  show W p l e { frames := 0, cells := 0, slots := 0, locals := 0 } s m _ below meth c s.heap [] 0 0 _ _
  refine am_enter (lv := [(0, .ref (G.1 + o0))]) (Nat.le_of_ble_eq_true rfl) rfl (fun ls hl => ?_)
  unfold f_X1_everyone at hf
  refine am_start hH (fun H locs hH => ?_)
  refine lv_iconst (v := 1) hx hb dX1_everyone_0 (by decide) ?_
  refine lv_aload_n hx hb dX1_everyone_1 rfl (lv_at hl 0 rfl) ?_
  refine am_get hx hb hts hK hown hH (am_o1 ho0.1) rfl am_inX1 11 (by decide) am_q104 (v := .int (w.1 o0 11)) rfl dX1_everyone_2 ?_
  refine lv_ishl hx hb dX1_everyone_5 ?_
  refine lv_iconst (v := 1) hx hb dX1_everyone_6 (by decide) ?_
  refine lv_isub hx hb dX1_everyone_7 ?_
  exact am_reti hx hb hr hlocks hH hf dX1_everyone_8

def f_X1_allSlots (o0 : Nat) (w : am_S) : Option (Int32 × am_S) :=
  some ((w.1 o0 7) * (w.1 o0 8), w)
set_option maxRecDepth 100000 in
set_option maxHeartbeats 4000000 in
theorem k_X1_allSlots {G : am_G} {l : Launch} {o0 : Nat} (ho0 : am_f1 o0) {w : am_S} {rr : Int32} {ww : am_S} (hf : f_X1_allSlots o0 w = some (rr, ww)) : am_Mi G l yX1_allSlots (Cond.code yX1_allSlots cX1_allSlots 1 (some .int) :: am_T) { frames := 0, cells := 0, slots := 0, locals := 0 } [.ref (G.1 + o0)] w rr ww := by
  refine Met.ofW (cc := cX1_allSlots) (maxL := 1) (ret := (some .int)) (by decide) rfl ?_
  intro p e s m args below meth c s₁ B hml hv
  obtain ⟨rfl, hx, hb, hr, hts, hown, hlocks, hK, hE, hH⟩ := am_begin B hv
  have hown : s.vm.findClass RX1 = some m.cls := hown
  show W p l e { frames := 0, cells := 0, slots := 0, locals := 0 } s m _ below meth c s.heap [] 0 0 _ _
  refine am_enter (lv := [(0, .ref (G.1 + o0))]) (Nat.le_of_ble_eq_true rfl) rfl (fun ls hl => ?_)
  unfold f_X1_allSlots at hf
  refine am_start hH (fun H locs hH => ?_)
  refine lv_aload_n hx hb dX1_allSlots_0 rfl (lv_at hl 0 rfl) ?_
  refine am_get hx hb hts hK hown hH (am_o1 ho0.1) rfl am_inX1 7 (by decide) am_q89 (v := .int (w.1 o0 7)) rfl dX1_allSlots_1 ?_
  refine lv_aload_n hx hb dX1_allSlots_4 rfl (lv_at hl 0 rfl) ?_
  refine am_get hx hb hts hK hown hH (am_o1 ho0.1) rfl am_inX1 8 (by decide) am_q94 (v := .int (w.1 o0 8)) rfl dX1_allSlots_5 ?_
  refine lv_imul hx hb dX1_allSlots_8 ?_
  exact am_reti hx hb hr hlocks hH hf dX1_allSlots_9

def f_X7_clearAmong_96 (a1 : Int32) (x3 : Int32) (s0 : Int32) (s1 : Int32) (w : am_S) : Option ((Int32 × am_S) ⊕ (Int32 × Int32 × am_S)) :=
  am_v (s1 ||| s0) fun (x2_14 : Int32) => am_v (x3 + (1 : Int32)) fun (x3_15 : Int32) => some (.inr (x2_14, x3_15, w))
def f_X7_clearAmong_95 (a1 : Int32) (x3 : Int32) (s0 : Int32) (w : am_S) : Option ((Int32 × am_S) ⊕ (Int32 × Int32 × am_S)) :=
  f_X7_clearAmong_96 a1 x3 (0 : Int32) s0 w
def f_X7_clearAmong_75 (a1 : Int32) (x2 : Int32) (x3 : Int32) (x4 : Int32) (s0 : Int32) (w : am_S) : Option ((Int32 × am_S) ⊕ (Int32 × Int32 × am_S)) :=
  if x4 = a1 then (f_X7_clearAmong_95 a1 x3 x2 w) else (if s0 = 0 then (f_X7_clearAmong_95 a1 x3 x2 w) else (f_X7_clearAmong_96 a1 x3 ((1 : Int32) <<< (x3 &&& 31)) x2 w))
def f_X7_clearAmong_4b (a1 : Int32) (x2 : Int32) (x3 : Int32) (w : am_S) : Option ((Int32 × am_S) ⊕ (Int32 × Int32 × am_S)) :=
  if (w.1 11 11) ≤ x3 then (am_x (some (x2, w))) else (am_v (a1 &&& (((1 : Int32) <<< (x3 &&& 31)) ^^^ (-1 : Int32))) fun (x4_20 : Int32) => if (w.1 250 5) = 0 then (if x4_20 = 0 then (f_X7_clearAmong_75 a1 x2 x3 x4_20 (1 : Int32) w) else (f_X7_clearAmong_75 a1 x2 x3 x4_20 (0 : Int32) w)) else (am_chk x3 10 (am_n32 (FP.fdiv (FP.i2f (w.1 250 5)) (1092616192 : UInt32)) (am_chk x4_20 1024 (am_n32 (FP.fmul (FP.fdiv (FP.i2f (w.1 250 5)) (1092616192 : UInt32)) (w.2.2 252 x4_20.toNatClampNeg)) (if (Op.cmpValue (FP.fcmp (w.2.2 251 x3.toNatClampNeg) (FP.fmul (FP.fdiv (FP.i2f (w.1 250 5)) (1092616192 : UInt32)) (w.2.2 252 x4_20.toNatClampNeg))) .l) < 0 then (f_X7_clearAmong_75 a1 x2 x3 x4_20 (0 : Int32) w) else (f_X7_clearAmong_75 a1 x2 x3 x4_20 (1 : Int32) w)))))))
def f_X7_clearAmong_4 (a1 : Int32) (x2 : Int32) (x3 : Int32) (w : am_S) : Option (Int32 × am_S) :=
  am_loop (fun (st : (Int32 × Int32 × am_S)) => f_X7_clearAmong_4b a1 st.1 st.2.1 st.2.2) am_fuel (x2, x3, w)
def f_X7_clearAmong (a1 : Int32) (w : am_S) : Option (Int32 × am_S) :=
  f_X7_clearAmong_4 a1 (0 : Int32) (0 : Int32) w
set_option maxRecDepth 100000 in
set_option maxHeartbeats 4000000 in
theorem k_X7_clearAmong {G : am_G} {l : Launch} {a1 : Int32}  {w : am_S} {rr : Int32} {ww : am_S} (hf : f_X7_clearAmong a1 w = some (rr, ww)) : am_Mi G l yX7_clearAmong (Cond.code yX7_clearAmong cX7_clearAmong 6 (some .int) :: am_T) { frames := 0, cells := 0, slots := 0, locals := 0 } [.ref (G.1 + 250), .int a1] w rr ww := by
  refine Met.ofW (cc := cX7_clearAmong) (maxL := 6) (ret := (some .int)) (by decide) rfl ?_
  intro p e s m args below meth c s₁ B hml hv
  obtain ⟨rfl, hx, hb, hr, hts, hown, hlocks, hK, hE, hH⟩ := am_begin B hv
  have hown : s.vm.findClass RX7 = some m.cls := hown
  show W p l e { frames := 0, cells := 0, slots := 0, locals := 0 } s m _ below meth c s.heap [] 0 0 _ _
  have P4 : ∀ (n1 : Nat) (x2 : Int32) (x3 : Int32) (w : am_S) (H : Heap) (locs : List Loc) (ls : Array Slot), am_loop (fun (st : (Int32 × Int32 × am_S)) => f_X7_clearAmong_4b a1 st.1 st.2.1 st.2.2) n1 (x2, x3, w) = some (rr, ww) → am_H G w s H locs → lv_has ls 6 [(0, .ref (G.1 + 250)), (1, .int a1), (2, .int x2), (3, .int x3)] → W p l e { frames := 0, cells := 0, slots := 0, locals := 0 } s m [.ref (G.1 + 250), .int a1].toArray below meth c H locs 0 0 (MQ below (va_Qi (fun (x : Int32) (u : am_S) => x = rr ∧ u = ww) (am_U G) (am_A G)) [.ref (G.1 + 250), .int a1].toArray s 0 0 (am_A G)) (F0 m 4 ls []) := by
    intro n1
    induction n1 with
    | zero =>
      intro x2 x3 w H locs ls hf hH hl
      exact (am_loop_zero hf).elim
    | succ n1 ih1 =>
      intro x2 x3 w H locs ls hf hH hl
      obtain ⟨z1, hf, hk1⟩ := am_loop_succ hf
      have hf : f_X7_clearAmong_4b a1 x2 x3 w = some z1 := hf
      have P96 : ∀ (x3 : Int32) (s0 : Int32) (s1 : Int32) (w : am_S) (z1 : ((Int32 × am_S) ⊕ (Int32 × Int32 × am_S))) (H : Heap) (locs : List Loc) (ls : Array Slot), f_X7_clearAmong_96 a1 x3 s0 s1 w = some z1 → am_lk (fun (st : (Int32 × Int32 × am_S)) => f_X7_clearAmong_4b a1 st.1 st.2.1 st.2.2) n1 (rr, ww) z1 → am_H G w s H locs → lv_has ls 6 [(0, .ref (G.1 + 250)), (1, .int a1), (3, .int x3)] → W p l e { frames := 0, cells := 0, slots := 0, locals := 0 } s m [.ref (G.1 + 250), .int a1].toArray below meth c H locs 0 0 (MQ below (va_Qi (fun (x : Int32) (u : am_S) => x = rr ∧ u = ww) (am_U G) (am_A G)) [.ref (G.1 + 250), .int a1].toArray s 0 0 (am_A G)) (F0 m 96 ls [.int s0, .int s1]) := by
        intro x3 s0 s1 w z1 H locs ls hf hk1 hH hl
        unfold f_X7_clearAmong_96 at hf
        refine lv_ior hx hb dX7_clearAmong_96 ?_
        obtain ⟨x2_14, hx2_14, hf⟩ := am_v_some hf
        refine am_topi hx2_14 ?_
        refine lv_istore_n (lv' := [(2, .int x2_14), (0, .ref (G.1 + 250)), (1, .int a1), (3, .int x3)]) hx hb dX7_clearAmong_97 rfl hl (by decide) rfl (fun ls hl => ?_)
        obtain ⟨x3_15, hx3_15, hf⟩ := am_v_some hf
        refine lv_iinc (v := x3_15) (lv' := [(3, .int x3_15), (2, .int x2_14), (0, .ref (G.1 + 250)), (1, .int a1)]) hx hb dX7_clearAmong_98 hl (k := 3) rfl (by rw [hx3_15]; rfl) (by decide) rfl (fun ls hl => ?_)
        refine lv_goto (tgt := 4) hx hb dX7_clearAmong_101 (by decide) ?_
        obtain rfl := Option.some.inj hf
        exact ih1 x2_14 x3_15 w H locs ls hk1 hH (lv_sub hl [2, 3, 1, 0] rfl)
      have P95 : ∀ (x3 : Int32) (s0 : Int32) (w : am_S) (z1 : ((Int32 × am_S) ⊕ (Int32 × Int32 × am_S))) (H : Heap) (locs : List Loc) (ls : Array Slot), f_X7_clearAmong_95 a1 x3 s0 w = some z1 → am_lk (fun (st : (Int32 × Int32 × am_S)) => f_X7_clearAmong_4b a1 st.1 st.2.1 st.2.2) n1 (rr, ww) z1 → am_H G w s H locs → lv_has ls 6 [(0, .ref (G.1 + 250)), (1, .int a1), (3, .int x3)] → W p l e { frames := 0, cells := 0, slots := 0, locals := 0 } s m [.ref (G.1 + 250), .int a1].toArray below meth c H locs 0 0 (MQ below (va_Qi (fun (x : Int32) (u : am_S) => x = rr ∧ u = ww) (am_U G) (am_A G)) [.ref (G.1 + 250), .int a1].toArray s 0 0 (am_A G)) (F0 m 95 ls [.int s0]) := by
        intro x3 s0 w z1 H locs ls hf hk1 hH hl
        unfold f_X7_clearAmong_95 at hf
        refine lv_iconst (v := 0) hx hb dX7_clearAmong_95 (by decide) ?_
        exact P96 x3 (0 : Int32) s0 w z1 H locs ls hf hk1 hH (lv_sub hl [0, 1, 2] rfl)
      have P75 : ∀ (x2 : Int32) (x3 : Int32) (x4 : Int32) (s0 : Int32) (w : am_S) (z1 : ((Int32 × am_S) ⊕ (Int32 × Int32 × am_S))) (H : Heap) (locs : List Loc) (ls : Array Slot), f_X7_clearAmong_75 a1 x2 x3 x4 s0 w = some z1 → am_lk (fun (st : (Int32 × Int32 × am_S)) => f_X7_clearAmong_4b a1 st.1 st.2.1 st.2.2) n1 (rr, ww) z1 → am_H G w s H locs → lv_has ls 6 [(0, .ref (G.1 + 250)), (1, .int a1), (2, .int x2), (3, .int x3), (4, .int x4)] → W p l e { frames := 0, cells := 0, slots := 0, locals := 0 } s m [.ref (G.1 + 250), .int a1].toArray below meth c H locs 0 0 (MQ below (va_Qi (fun (x : Int32) (u : am_S) => x = rr ∧ u = ww) (am_U G) (am_A G)) [.ref (G.1 + 250), .int a1].toArray s 0 0 (am_A G)) (F0 m 75 ls [.int s0]) := by
        intro x2 x3 x4 s0 w z1 H locs ls hf hk1 hH hl
        unfold f_X7_clearAmong_75 at hf
        refine lv_istore (lv' := [(5, .int s0), (0, .ref (G.1 + 250)), (1, .int a1), (2, .int x2), (3, .int x3), (4, .int x4)]) hx hb dX7_clearAmong_75 hl (by decide) rfl (fun ls hl => ?_)
        refine lv_iload_n hx hb dX7_clearAmong_77 rfl (lv_at hl 3 rfl) ?_
        refine lv_iload hx hb dX7_clearAmong_78 (lv_at hl 5 rfl) ?_
        refine lv_iload_n hx hb dX7_clearAmong_80 rfl (lv_at hl 2 rfl) ?_
        refine lv_icmp_eq (tgt := 95) hx hb dX7_clearAmong_81 (by decide) (fun hc_16 => ?_) (fun hc_16 => ?_)
        · have hf := (if_pos hc_16).symm.trans hf
          exact P95 x3 x2 w z1 H locs ls hf hk1 hH (lv_sub hl [1, 2, 4] rfl)
        · have hf := (if_neg hc_16).symm.trans hf
          refine lv_iload hx hb dX7_clearAmong_84 (lv_at hl 0 rfl) ?_
          refine lv_if_eq (tgt := 95) hx hb dX7_clearAmong_86 (by decide) (fun hc_17 => ?_) (fun hc_17 => ?_)
          · have hf := (if_pos hc_17).symm.trans hf
            exact P95 x3 x2 w z1 H locs ls hf hk1 hH (lv_sub hl [1, 2, 4] rfl)
          · have hf := (if_neg hc_17).symm.trans hf
            refine lv_iconst (v := 1) hx hb dX7_clearAmong_89 (by decide) ?_
            refine lv_iload_n hx hb dX7_clearAmong_90 rfl (lv_at hl 4 rfl) ?_
            refine lv_ishl hx hb dX7_clearAmong_91 ?_
            refine lv_goto (tgt := 96) hx hb dX7_clearAmong_92 (by decide) ?_
            exact P96 x3 ((1 : Int32) <<< (x3 &&& 31)) x2 w z1 H locs ls hf hk1 hH (lv_sub hl [1, 2, 4] rfl)
      unfold f_X7_clearAmong_4b at hf
      refine lv_iload_n hx hb dX7_clearAmong_4 rfl (lv_at hl 3 rfl) ?_
      refine lv_aload_n hx hb dX7_clearAmong_5 rfl (lv_at hl 0 rfl) ?_
      refine am_get hx hb hts hK hown hH (am_o7 (p := 250) (by decide +kernel)) rfl am_inX7 0 (by decide) am_q259 (v := .ref (G.1 + 11)) rfl dX7_clearAmong_6 ?_
      refine am_get hx hb hts hK hown hH (am_o1 (p := 11) (by decide +kernel)) rfl am_inX1 11 (by decide) am_q102 (v := .int (w.1 11 11)) rfl dX7_clearAmong_9 ?_
      refine lv_icmp_ge (tgt := 104) hx hb dX7_clearAmong_12 (by decide) (fun hc_18 => ?_) (fun hc_18 => ?_)
      · have hf := (if_pos hc_18).symm.trans hf
        obtain ⟨y_19, hf, hzy_19⟩ := am_x_some hf
        rw [hzy_19] at hk1
        have hf := hf.trans (congrArg some (show y_19 = (rr, ww) from hk1))
        refine lv_iload_n hx hb dX7_clearAmong_104 rfl (lv_at hl 2 rfl) ?_
        exact am_reti hx hb hr hlocks hH hf dX7_clearAmong_105
      · have hf := (if_neg hc_18).symm.trans hf
        refine lv_iload_n hx hb dX7_clearAmong_15 rfl (lv_at hl 1 rfl) ?_
        refine lv_iconst (v := 1) hx hb dX7_clearAmong_16 (by decide) ?_
        refine lv_iload_n hx hb dX7_clearAmong_17 rfl (lv_at hl 3 rfl) ?_
        refine lv_ishl hx hb dX7_clearAmong_18 ?_
        refine lv_iconst (v := -1) hx hb dX7_clearAmong_19 (by decide) ?_
        refine lv_ixor hx hb dX7_clearAmong_20 ?_
        refine lv_iand hx hb dX7_clearAmong_21 ?_
        obtain ⟨x4_20, hx4_20, hf⟩ := am_v_some hf
        refine am_topi hx4_20 ?_
        refine lv_istore (lv' := [(4, .int x4_20), (0, .ref (G.1 + 250)), (1, .int a1), (2, .int x2), (3, .int x3)]) hx hb dX7_clearAmong_22 hl (by decide) rfl (fun ls hl => ?_)
        refine lv_aload_n hx hb dX7_clearAmong_24 rfl (lv_at hl 1 rfl) ?_
        refine am_get hx hb hts hK hown hH (am_o7 (p := 250) (by decide +kernel)) rfl am_inX7 5 (by decide) am_q269 (v := .int (w.1 250 5)) rfl dX7_clearAmong_25 ?_
        refine lv_if_ne (tgt := 44) hx hb dX7_clearAmong_28 (by decide) (fun hc_21 => ?_) (fun hc_21 => ?_)
        · have hf := (if_neg hc_21).symm.trans hf
          refine lv_aload_n hx hb dX7_clearAmong_44 rfl (lv_at hl 1 rfl) ?_
          refine am_get hx hb hts hK hown hH (am_o7 (p := 250) (by decide +kernel)) rfl am_inX7 1 (by decide) am_q260 (v := .ref (G.1 + 251)) rfl dX7_clearAmong_45 ?_
          refine lv_iload_n hx hb dX7_clearAmong_48 rfl (lv_at hl 4 rfl) ?_
          obtain ⟨hi_22, hf⟩ := am_chk_some hf
          refine am_fald hx hb hK hH (am_af_of (N := 10) (by decide +kernel)) hi_22 dX7_clearAmong_49 ?_
          refine lv_aload_n hx hb dX7_clearAmong_50 rfl (lv_at hl 1 rfl) ?_
          refine am_get hx hb hts hK hown hH (am_o7 (p := 250) (by decide +kernel)) rfl am_inX7 5 (by decide) am_q269 (v := .int (w.1 250 5)) rfl dX7_clearAmong_51 ?_
          refine lv_i2f hx hb dX7_clearAmong_54 ?_
          refine lv_ldcf (v := 1092616192) hx hb hown (hts _ am_q608) dX7_clearAmong_55 ?_
          obtain ⟨hn_23, hf⟩ := am_n32_some hf
          refine lv_fdiv hx hb dX7_clearAmong_57 hn_23 ?_
          refine lv_aload_n hx hb dX7_clearAmong_58 rfl (lv_at hl 1 rfl) ?_
          refine am_get hx hb hts hK hown hH (am_o7 (p := 250) (by decide +kernel)) rfl am_inX7 2 (by decide) am_q263 (v := .ref (G.1 + 252)) rfl dX7_clearAmong_59 ?_
          refine lv_iload hx hb dX7_clearAmong_62 (lv_at hl 0 rfl) ?_
          obtain ⟨hi_24, hf⟩ := am_chk_some hf
          refine am_fald hx hb hK hH (am_af_of (N := 1024) (by decide +kernel)) hi_24 dX7_clearAmong_64 ?_
          obtain ⟨hn_25, hf⟩ := am_n32_some hf
          refine lv_fmul hx hb dX7_clearAmong_65 hn_25 ?_
          refine lv_fcmp hx hb dX7_clearAmong_66 ?_
          refine lv_if_lt (tgt := 74) hx hb dX7_clearAmong_67 (by decide) (fun hc_26 => ?_) (fun hc_26 => ?_)
          · have hf := (if_pos hc_26).symm.trans hf
            refine lv_iconst (v := 0) hx hb dX7_clearAmong_74 (by decide) ?_
            exact P75 x2 x3 x4_20 (0 : Int32) w z1 H locs ls hf hk1 hH (lv_sub hl [1, 2, 3, 4, 0] rfl)
          · have hf := (if_neg hc_26).symm.trans hf
            refine lv_iconst (v := 1) hx hb dX7_clearAmong_70 (by decide) ?_
            refine lv_goto (tgt := 75) hx hb dX7_clearAmong_71 (by decide) ?_
            exact P75 x2 x3 x4_20 (1 : Int32) w z1 H locs ls hf hk1 hH (lv_sub hl [1, 2, 3, 4, 0] rfl)
        · have hf := (if_pos hc_21).symm.trans hf
          refine lv_iload hx hb dX7_clearAmong_31 (lv_at hl 0 rfl) ?_
          refine lv_if_ne (tgt := 40) hx hb dX7_clearAmong_33 (by decide) (fun hc_27 => ?_) (fun hc_27 => ?_)
          · have hf := (if_neg hc_27).symm.trans hf
            refine lv_iconst (v := 0) hx hb dX7_clearAmong_40 (by decide) ?_
            refine lv_goto (tgt := 75) hx hb dX7_clearAmong_41 (by decide) ?_
            exact P75 x2 x3 x4_20 (0 : Int32) w z1 H locs ls hf hk1 hH (lv_sub hl [1, 2, 3, 4, 0] rfl)
          · have hf := (if_pos hc_27).symm.trans hf
            refine lv_iconst (v := 1) hx hb dX7_clearAmong_36 (by decide) ?_
            refine lv_goto (tgt := 75) hx hb dX7_clearAmong_37 (by decide) ?_
            exact P75 x2 x3 x4_20 (1 : Int32) w z1 H locs ls hf hk1 hH (lv_sub hl [1, 2, 3, 4, 0] rfl)
  refine am_enter (lv := [(0, .ref (G.1 + 250)), (1, .int a1)]) (Nat.le_of_ble_eq_true rfl) rfl (fun ls hl => ?_)
  unfold f_X7_clearAmong at hf
  refine am_start hH (fun H locs hH => ?_)
  refine lv_iconst (v := 0) hx hb dX7_clearAmong_0 (by decide) ?_
  refine lv_istore_n (lv' := [(2, .int (0 : Int32)), (0, .ref (G.1 + 250)), (1, .int a1)]) hx hb dX7_clearAmong_1 rfl hl (by decide) rfl (fun ls hl => ?_)
  refine lv_iconst (v := 0) hx hb dX7_clearAmong_2 (by decide) ?_
  refine lv_istore_n (lv' := [(3, .int (0 : Int32)), (2, .int (0 : Int32)), (0, .ref (G.1 + 250)), (1, .int a1)]) hx hb dX7_clearAmong_3 rfl hl (by decide) rfl (fun ls hl => ?_)
  exact P4 am_fuel (0 : Int32) (0 : Int32) w H locs ls hf hH (lv_sub hl [2, 3, 1, 0] rfl)

def f_X7_clearIn_30 (a1 : Int32) (a2 : Int32) (x3 : Int32) (w : am_S) : Option (Int32 × am_S) :=
  am_chk x3 1024 (some (w.1 253 x3.toNatClampNeg, w))
def f_X7_clearIn (a1 : Int32) (a2 : Int32) (w : am_S) : Option (Int32 × am_S) :=
  am_chk a1 48 (am_v ((w.1 254 a1.toNatClampNeg) &&& a2) fun (x3_13 : Int32) => am_chk x3_13 1024 (if (w.1 253 x3_13.toNatClampNeg) = (-1 : Int32) then (am_b2 (f_X7_clearAmong x3_13 w) fun r_18 w_16 => am_chk x3_13 1024 (am_v (am_pi w_16 253 x3_13.toNatClampNeg r_18) fun (w_20 : am_S) => f_X7_clearIn_30 a1 a2 x3_13 w_20)) else (f_X7_clearIn_30 a1 a2 x3_13 w)))
set_option maxRecDepth 100000 in
set_option maxHeartbeats 4000000 in
theorem k_X7_clearIn {G : am_G} {l : Launch} {a1 : Int32} {a2 : Int32}  {w : am_S} {rr : Int32} {ww : am_S} (hf : f_X7_clearIn a1 a2 w = some (rr, ww)) : am_Mi G l yX7_clearIn (Cond.code yX7_clearIn cX7_clearIn 4 (some .int) :: am_T) { frames := 1, cells := 0, slots := 0, locals := 64 } [.ref (G.1 + 250), .int a1, .int a2] w rr ww := by
  refine Met.ofW (cc := cX7_clearIn) (maxL := 4) (ret := (some .int)) (by decide) rfl ?_
  intro p e s m args below meth c s₁ B hml hv
  obtain ⟨rfl, hx, hb, hr, hts, hown, hlocks, hK, hE, hH⟩ := am_begin B hv
  have hown : s.vm.findClass RX7 = some m.cls := hown
  show W p l e { frames := 1, cells := 0, slots := 0, locals := 64 } s m _ below meth c s.heap [] 0 0 _ _
  have P30 : ∀ (x3 : Int32) (w : am_S) (H : Heap) (locs : List Loc) (ls : Array Slot), f_X7_clearIn_30 a1 a2 x3 w = some (rr, ww) → am_H G w s H locs → lv_has ls 4 [(0, .ref (G.1 + 250)), (3, .int x3)] → W p l e { frames := 1, cells := 0, slots := 0, locals := 64 } s m [.ref (G.1 + 250), .int a1, .int a2].toArray below meth c H locs 0 0 (MQ below (va_Qi (fun (x : Int32) (u : am_S) => x = rr ∧ u = ww) (am_U G) (am_A G)) [.ref (G.1 + 250), .int a1, .int a2].toArray s 0 0 (am_A G)) (F0 m 30 ls []) := by
    intro x3 w H locs ls hf hH hl
    unfold f_X7_clearIn_30 at hf
    refine lv_aload_n hx hb dX7_clearIn_30 rfl (lv_at hl 0 rfl) ?_
    refine am_get hx hb hts hK hown hH (am_o7 (p := 250) (by decide +kernel)) rfl am_inX7 3 (by decide) am_q264 (v := .ref (G.1 + 253)) rfl dX7_clearIn_31 ?_
    refine lv_iload_n hx hb dX7_clearIn_34 rfl (lv_at hl 1 rfl) ?_
    obtain ⟨hi_11, hf⟩ := am_chk_some hf
    refine am_iald hx hb hK hH (am_ai_of (N := 1024) (by decide +kernel)) hi_11 dX7_clearIn_35 ?_
    exact am_reti hx hb hr hlocks hH hf dX7_clearIn_36
  refine am_enter (lv := [(0, .ref (G.1 + 250)), (1, .int a1), (2, .int a2)]) (Nat.le_of_ble_eq_true rfl) rfl (fun ls hl => ?_)
  unfold f_X7_clearIn at hf
  refine am_start hH (fun H locs hH => ?_)
  refine lv_aload_n hx hb dX7_clearIn_0 rfl (lv_at hl 0 rfl) ?_
  refine am_get hx hb hts hK hown hH (am_o7 (p := 250) (by decide +kernel)) rfl am_inX7 4 (by decide) am_q265 (v := .ref (G.1 + 254)) rfl dX7_clearIn_1 ?_
  refine lv_iload_n hx hb dX7_clearIn_4 rfl (lv_at hl 1 rfl) ?_
  obtain ⟨hi_12, hf⟩ := am_chk_some hf
  refine am_iald hx hb hK hH (am_ai_of (N := 48) (by decide +kernel)) hi_12 dX7_clearIn_5 ?_
  refine lv_iload_n hx hb dX7_clearIn_6 rfl (lv_at hl 2 rfl) ?_
  refine lv_iand hx hb dX7_clearIn_7 ?_
  obtain ⟨x3_13, hx3_13, hf⟩ := am_v_some hf
  refine am_topi hx3_13 ?_
  refine lv_istore_n (lv' := [(3, .int x3_13), (0, .ref (G.1 + 250)), (1, .int a1), (2, .int a2)]) hx hb dX7_clearIn_8 rfl hl (by decide) rfl (fun ls hl => ?_)
  refine lv_aload_n hx hb dX7_clearIn_9 rfl (lv_at hl 1 rfl) ?_
  refine am_get hx hb hts hK hown hH (am_o7 (p := 250) (by decide +kernel)) rfl am_inX7 3 (by decide) am_q264 (v := .ref (G.1 + 253)) rfl dX7_clearIn_10 ?_
  refine lv_iload_n hx hb dX7_clearIn_13 rfl (lv_at hl 0 rfl) ?_
  obtain ⟨hi_14, hf⟩ := am_chk_some hf
  refine am_iald hx hb hK hH (am_ai_of (N := 1024) (by decide +kernel)) hi_14 dX7_clearIn_14 ?_
  refine lv_iconst (v := -1) hx hb dX7_clearIn_15 (by decide) ?_
  refine lv_icmp_ne (tgt := 30) hx hb dX7_clearIn_16 (by decide) (fun hc_15 => ?_) (fun hc_15 => ?_)
  · have hf := (if_neg hc_15).symm.trans hf
    exact P30 x3_13 w H locs ls hf hH (lv_sub hl [1, 0] rfl)
  · have hf := (if_pos hc_15).symm.trans hf
    refine lv_aload_n hx hb dX7_clearIn_19 rfl (lv_at hl 1 rfl) ?_
    refine am_get hx hb hts hK hown hH (am_o7 (p := 250) (by decide +kernel)) rfl am_inX7 3 (by decide) am_q264 (v := .ref (G.1 + 253)) rfl dX7_clearIn_20 ?_
    refine lv_iload_n hx hb dX7_clearIn_23 rfl (lv_at hl 0 rfl) ?_
    refine lv_aload_n hx hb dX7_clearIn_24 rfl (lv_at hl 1 rfl) ?_
    refine lv_iload_n hx hb dX7_clearIn_25 rfl (lv_at hl 0 rfl) ?_
    obtain ⟨r_18, w_16, hq_17, hf⟩ := am_b2_some hf
    refine am_calli (r := r_18) (w' := w_16) (am_runV (n := 1) (As := [.int x3_13]) (rest := [.int x3_13, .ref (G.1 + 253)]) ⟨hx, hb, hml, hown, hts⟩ hK hE hH (k_X7_clearAmong hq_17) (am_gV am_q706 am_q708 am_qs15 am_q9 am_q709) (am_o7 (p := 250) (by decide +kernel)) rfl ⟨rfl, rfl⟩ (by decide +kernel) ⟨Nat.le_of_ble_eq_true rfl, Nat.le_of_ble_eq_true rfl⟩ rfl hl.1 rfl (Nat.le_of_ble_eq_true rfl) ⟨Nat.zero_le _, Nat.zero_le _⟩ dX7_clearIn_26) hH (fun H locs hH => ?_)
    obtain ⟨hi_19, hf⟩ := am_chk_some hf
    obtain ⟨w_20, hw_20, hf⟩ := am_v_some hf
    refine am_iast hx hb hK hH (am_ai_of (N := 1024) (by decide +kernel)) hi_19 dX7_clearIn_29 (fun H locs hH => ?_)
    rw [← hw_20] at hH
    exact P30 x3_13 w_20 H locs ls hf hH (lv_sub hl [1, 0] rfl)

def f_X7_clearAnywhere_4b (a1 : Int32) (x2 : Int32) (x3 : Int32) (w : am_S) : Option ((Int32 × am_S) ⊕ (Int32 × Int32 × am_S)) :=
  am_b2 (f_X1_allSlots 11 w) fun r_12 w_10 => if r_12 ≤ x3 then (am_x (some (x2, w_10))) else (am_b2 (f_X7_clearIn x3 a1 w_10) fun r_17 w_15 => am_v (x2 ||| r_17) fun (x2_18 : Int32) => am_v (x3 + (1 : Int32)) fun (x3_19 : Int32) => some (.inr (x2_18, x3_19, w_15)))
def f_X7_clearAnywhere_4 (a1 : Int32) (x2 : Int32) (x3 : Int32) (w : am_S) : Option (Int32 × am_S) :=
  am_loop (fun (st : (Int32 × Int32 × am_S)) => f_X7_clearAnywhere_4b a1 st.1 st.2.1 st.2.2) am_fuel (x2, x3, w)
def f_X7_clearAnywhere (a1 : Int32) (w : am_S) : Option (Int32 × am_S) :=
  f_X7_clearAnywhere_4 a1 (0 : Int32) (0 : Int32) w
set_option maxRecDepth 100000 in
set_option maxHeartbeats 4000000 in
theorem k_X7_clearAnywhere {G : am_G} {l : Launch} {a1 : Int32}  {w : am_S} {rr : Int32} {ww : am_S} (hf : f_X7_clearAnywhere a1 w = some (rr, ww)) : am_Mi G l yX7_clearAnywhere (Cond.code yX7_clearAnywhere cX7_clearAnywhere 4 (some .int) :: am_T) { frames := 2, cells := 0, slots := 0, locals := 128 } [.ref (G.1 + 250), .int a1] w rr ww := by
  refine Met.ofW (cc := cX7_clearAnywhere) (maxL := 4) (ret := (some .int)) (by decide) rfl ?_
  intro p e s m args below meth c s₁ B hml hv
  obtain ⟨rfl, hx, hb, hr, hts, hown, hlocks, hK, hE, hH⟩ := am_begin B hv
  have hown : s.vm.findClass RX7 = some m.cls := hown
  show W p l e { frames := 2, cells := 0, slots := 0, locals := 128 } s m _ below meth c s.heap [] 0 0 _ _
  have P4 : ∀ (n1 : Nat) (x2 : Int32) (x3 : Int32) (w : am_S) (H : Heap) (locs : List Loc) (ls : Array Slot), am_loop (fun (st : (Int32 × Int32 × am_S)) => f_X7_clearAnywhere_4b a1 st.1 st.2.1 st.2.2) n1 (x2, x3, w) = some (rr, ww) → am_H G w s H locs → lv_has ls 4 [(0, .ref (G.1 + 250)), (1, .int a1), (2, .int x2), (3, .int x3)] → W p l e { frames := 2, cells := 0, slots := 0, locals := 128 } s m [.ref (G.1 + 250), .int a1].toArray below meth c H locs 0 0 (MQ below (va_Qi (fun (x : Int32) (u : am_S) => x = rr ∧ u = ww) (am_U G) (am_A G)) [.ref (G.1 + 250), .int a1].toArray s 0 0 (am_A G)) (F0 m 4 ls []) := by
    intro n1
    induction n1 with
    | zero =>
      intro x2 x3 w H locs ls hf hH hl
      exact (am_loop_zero hf).elim
    | succ n1 ih1 =>
      intro x2 x3 w H locs ls hf hH hl
      obtain ⟨z1, hf, hk1⟩ := am_loop_succ hf
      have hf : f_X7_clearAnywhere_4b a1 x2 x3 w = some z1 := hf
      unfold f_X7_clearAnywhere_4b at hf
      refine lv_iload_n hx hb dX7_clearAnywhere_4 rfl (lv_at hl 3 rfl) ?_
      refine lv_aload_n hx hb dX7_clearAnywhere_5 rfl (lv_at hl 0 rfl) ?_
      refine am_get hx hb hts hK hown hH (am_o7 (p := 250) (by decide +kernel)) rfl am_inX7 0 (by decide) am_q259 (v := .ref (G.1 + 11)) rfl dX7_clearAnywhere_6 ?_
      obtain ⟨r_12, w_10, hq_11, hf⟩ := am_b2_some hf
      refine am_calli (r := r_12) (w' := w_10) (am_runV (n := 0) (As := []) (rest := [.int x3]) ⟨hx, hb, hml, hown, hts⟩ hK hE hH (k_X1_allSlots (by decide +kernel) hq_11) (am_gV am_q742 am_q630 am_q631 am_q3 am_q632) (am_o1 (p := 11) (by decide +kernel)) rfl ⟨rfl, rfl⟩ (by decide +kernel) ⟨Nat.le_of_ble_eq_true rfl, Nat.le_of_ble_eq_true rfl⟩ rfl hl.1 rfl (Nat.le_of_ble_eq_true rfl) ⟨Nat.zero_le _, Nat.zero_le _⟩ dX7_clearAnywhere_9) hH (fun H locs hH => ?_)
      refine lv_icmp_ge (tgt := 30) hx hb dX7_clearAnywhere_12 (by decide) (fun hc_13 => ?_) (fun hc_13 => ?_)
      · have hf := (if_pos hc_13).symm.trans hf
        obtain ⟨y_14, hf, hzy_14⟩ := am_x_some hf
        rw [hzy_14] at hk1
        have hf := hf.trans (congrArg some (show y_14 = (rr, ww) from hk1))
        refine lv_iload_n hx hb dX7_clearAnywhere_30 rfl (lv_at hl 2 rfl) ?_
        exact am_reti hx hb hr hlocks hH hf dX7_clearAnywhere_31
      · have hf := (if_neg hc_13).symm.trans hf
        refine lv_iload_n hx hb dX7_clearAnywhere_15 rfl (lv_at hl 2 rfl) ?_
        refine lv_aload_n hx hb dX7_clearAnywhere_16 rfl (lv_at hl 0 rfl) ?_
        refine lv_iload_n hx hb dX7_clearAnywhere_17 rfl (lv_at hl 3 rfl) ?_
        refine lv_iload_n hx hb dX7_clearAnywhere_18 rfl (lv_at hl 1 rfl) ?_
        obtain ⟨r_17, w_15, hq_16, hf⟩ := am_b2_some hf
        refine am_calli (r := r_17) (w' := w_15) (am_runV (n := 2) (As := [.int x3, .int a1]) (rest := [.int x2]) ⟨hx, hb, hml, hown, hts⟩ hK hE hH (k_X7_clearIn hq_16) (am_gV am_q743 am_q703 am_q704 am_q9 am_q705) (am_o7 (p := 250) (by decide +kernel)) rfl ⟨rfl, rfl⟩ (by decide +kernel) ⟨Nat.le_of_ble_eq_true rfl, Nat.le_of_ble_eq_true rfl⟩ rfl hl.1 rfl (Nat.le_of_ble_eq_true rfl) ⟨Nat.zero_le _, Nat.zero_le _⟩ dX7_clearAnywhere_19) hH (fun H locs hH => ?_)
        refine lv_ior hx hb dX7_clearAnywhere_22 ?_
        obtain ⟨x2_18, hx2_18, hf⟩ := am_v_some hf
        refine am_topi hx2_18 ?_
        refine lv_istore_n (lv' := [(2, .int x2_18), (0, .ref (G.1 + 250)), (1, .int a1), (3, .int x3)]) hx hb dX7_clearAnywhere_23 rfl hl (by decide) rfl (fun ls hl => ?_)
        obtain ⟨x3_19, hx3_19, hf⟩ := am_v_some hf
        refine lv_iinc (v := x3_19) (lv' := [(3, .int x3_19), (2, .int x2_18), (0, .ref (G.1 + 250)), (1, .int a1)]) hx hb dX7_clearAnywhere_24 hl (k := 3) rfl (by rw [hx3_19]; rfl) (by decide) rfl (fun ls hl => ?_)
        refine lv_goto (tgt := 4) hx hb dX7_clearAnywhere_27 (by decide) ?_
        obtain rfl := Option.some.inj hf
        exact ih1 x2_18 x3_19 w_15 H locs ls hk1 hH (lv_sub hl [2, 3, 1, 0] rfl)
  refine am_enter (lv := [(0, .ref (G.1 + 250)), (1, .int a1)]) (Nat.le_of_ble_eq_true rfl) rfl (fun ls hl => ?_)
  unfold f_X7_clearAnywhere at hf
  refine am_start hH (fun H locs hH => ?_)
  refine lv_iconst (v := 0) hx hb dX7_clearAnywhere_0 (by decide) ?_
  refine lv_istore_n (lv' := [(2, .int (0 : Int32)), (0, .ref (G.1 + 250)), (1, .int a1)]) hx hb dX7_clearAnywhere_1 rfl hl (by decide) rfl (fun ls hl => ?_)
  refine lv_iconst (v := 0) hx hb dX7_clearAnywhere_2 (by decide) ?_
  refine lv_istore_n (lv' := [(3, .int (0 : Int32)), (2, .int (0 : Int32)), (0, .ref (G.1 + 250)), (1, .int a1)]) hx hb dX7_clearAnywhere_3 rfl hl (by decide) rfl (fun ls hl => ?_)
  exact P4 am_fuel (0 : Int32) (0 : Int32) w H locs ls hf hH (lv_sub hl [2, 3, 1, 0] rfl)

def f_X6_unknownBehind_10b (a1 : Int32) (x2 : Int32) (x3 : Int32) (w : am_S) : Option ((Int32 × am_S) ⊕ (Int32 × Int32 × am_S)) :=
  if a1 ≤ x3 then (am_x (some (x2, w))) else (am_b2 (f_X7_clearAnywhere x2 w) fun r_12 w_10 => am_v (x2 &&& (r_12 ^^^ (-1 : Int32))) fun (x2_13 : Int32) => am_v (x3 + (1 : Int32)) fun (x3_14 : Int32) => some (.inr (x2_13, x3_14, w_10)))
def f_X6_unknownBehind_10 (a1 : Int32) (x2 : Int32) (x3 : Int32) (w : am_S) : Option (Int32 × am_S) :=
  am_loop (fun (st : (Int32 × Int32 × am_S)) => f_X6_unknownBehind_10b a1 st.1 st.2.1 st.2.2) am_fuel (x2, x3, w)
def f_X6_unknownBehind (a1 : Int32) (w : am_S) : Option (Int32 × am_S) :=
  am_v (w.1 250 6) fun (x2_15 : Int32) => f_X6_unknownBehind_10 a1 x2_15 (0 : Int32) w
set_option maxRecDepth 100000 in
set_option maxHeartbeats 4000000 in
theorem k_X6_unknownBehind {G : am_G} {l : Launch} {a1 : Int32}  {w : am_S} {rr : Int32} {ww : am_S} (hf : f_X6_unknownBehind a1 w = some (rr, ww)) : am_Mi G l yX6_unknownBehind (Cond.code yX6_unknownBehind cX6_unknownBehind 4 (some .int) :: am_T) { frames := 3, cells := 0, slots := 0, locals := 192 } [.ref (G.1 + 257), .int a1] w rr ww := by
  refine Met.ofW (cc := cX6_unknownBehind) (maxL := 4) (ret := (some .int)) (by decide) rfl ?_
  intro p e s m args below meth c s₁ B hml hv
  obtain ⟨rfl, hx, hb, hr, hts, hown, hlocks, hK, hE, hH⟩ := am_begin B hv
  have hown : s.vm.findClass RX6 = some m.cls := hown
  show W p l e { frames := 3, cells := 0, slots := 0, locals := 192 } s m _ below meth c s.heap [] 0 0 _ _
  have P10 : ∀ (n1 : Nat) (x2 : Int32) (x3 : Int32) (w : am_S) (H : Heap) (locs : List Loc) (ls : Array Slot), am_loop (fun (st : (Int32 × Int32 × am_S)) => f_X6_unknownBehind_10b a1 st.1 st.2.1 st.2.2) n1 (x2, x3, w) = some (rr, ww) → am_H G w s H locs → lv_has ls 4 [(0, .ref (G.1 + 257)), (1, .int a1), (2, .int x2), (3, .int x3)] → W p l e { frames := 3, cells := 0, slots := 0, locals := 192 } s m [.ref (G.1 + 257), .int a1].toArray below meth c H locs 0 0 (MQ below (va_Qi (fun (x : Int32) (u : am_S) => x = rr ∧ u = ww) (am_U G) (am_A G)) [.ref (G.1 + 257), .int a1].toArray s 0 0 (am_A G)) (F0 m 10 ls []) := by
    intro n1
    induction n1 with
    | zero =>
      intro x2 x3 w H locs ls hf hH hl
      exact (am_loop_zero hf).elim
    | succ n1 ih1 =>
      intro x2 x3 w H locs ls hf hH hl
      obtain ⟨z1, hf, hk1⟩ := am_loop_succ hf
      have hf : f_X6_unknownBehind_10b a1 x2 x3 w = some z1 := hf
      unfold f_X6_unknownBehind_10b at hf
      refine lv_iload_n hx hb dX6_unknownBehind_10 rfl (lv_at hl 3 rfl) ?_
      refine lv_iload_n hx hb dX6_unknownBehind_11 rfl (lv_at hl 1 rfl) ?_
      refine lv_icmp_ge (tgt := 34) hx hb dX6_unknownBehind_12 (by decide) (fun hc_8 => ?_) (fun hc_8 => ?_)
      · have hf := (if_pos hc_8).symm.trans hf
        obtain ⟨y_9, hf, hzy_9⟩ := am_x_some hf
        rw [hzy_9] at hk1
        have hf := hf.trans (congrArg some (show y_9 = (rr, ww) from hk1))
        refine lv_iload_n hx hb dX6_unknownBehind_34 rfl (lv_at hl 2 rfl) ?_
        exact am_reti hx hb hr hlocks hH hf dX6_unknownBehind_35
      · have hf := (if_neg hc_8).symm.trans hf
        refine lv_iload_n hx hb dX6_unknownBehind_15 rfl (lv_at hl 2 rfl) ?_
        refine lv_aload_n hx hb dX6_unknownBehind_16 rfl (lv_at hl 0 rfl) ?_
        refine am_get hx hb hts hK hown hH (am_o6 (p := 257) (by decide +kernel)) rfl am_inX6 1 (by decide) am_q315 (v := .ref (G.1 + 250)) rfl dX6_unknownBehind_17 ?_
        refine lv_iload_n hx hb dX6_unknownBehind_20 rfl (lv_at hl 2 rfl) ?_
        obtain ⟨r_12, w_10, hq_11, hf⟩ := am_b2_some hf
        refine am_calli (r := r_12) (w' := w_10) (am_runV (n := 1) (As := [.int x2]) (rest := [.int x2]) ⟨hx, hb, hml, hown, hts⟩ hK hE hH (k_X7_clearAnywhere hq_11) (am_gV am_q947 am_q739 am_q740 am_q9 am_q741) (am_o7 (p := 250) (by decide +kernel)) rfl ⟨rfl, rfl⟩ (by decide +kernel) ⟨Nat.le_of_ble_eq_true rfl, Nat.le_of_ble_eq_true rfl⟩ rfl hl.1 rfl (Nat.le_of_ble_eq_true rfl) ⟨Nat.zero_le _, Nat.zero_le _⟩ dX6_unknownBehind_21) hH (fun H locs hH => ?_)
        refine lv_iconst (v := -1) hx hb dX6_unknownBehind_24 (by decide) ?_
        refine lv_ixor hx hb dX6_unknownBehind_25 ?_
        refine lv_iand hx hb dX6_unknownBehind_26 ?_
        obtain ⟨x2_13, hx2_13, hf⟩ := am_v_some hf
        refine am_topi hx2_13 ?_
        refine lv_istore_n (lv' := [(2, .int x2_13), (0, .ref (G.1 + 257)), (1, .int a1), (3, .int x3)]) hx hb dX6_unknownBehind_27 rfl hl (by decide) rfl (fun ls hl => ?_)
        obtain ⟨x3_14, hx3_14, hf⟩ := am_v_some hf
        refine lv_iinc (v := x3_14) (lv' := [(3, .int x3_14), (2, .int x2_13), (0, .ref (G.1 + 257)), (1, .int a1)]) hx hb dX6_unknownBehind_28 hl (k := 3) rfl (by rw [hx3_14]; rfl) (by decide) rfl (fun ls hl => ?_)
        refine lv_goto (tgt := 10) hx hb dX6_unknownBehind_31 (by decide) ?_
        obtain rfl := Option.some.inj hf
        exact ih1 x2_13 x3_14 w_10 H locs ls hk1 hH (lv_sub hl [2, 3, 1, 0] rfl)
  refine am_enter (lv := [(0, .ref (G.1 + 257)), (1, .int a1)]) (Nat.le_of_ble_eq_true rfl) rfl (fun ls hl => ?_)
  unfold f_X6_unknownBehind at hf
  refine am_start hH (fun H locs hH => ?_)
  refine lv_aload_n hx hb dX6_unknownBehind_0 rfl (lv_at hl 0 rfl) ?_
  refine am_get hx hb hts hK hown hH (am_o6 (p := 257) (by decide +kernel)) rfl am_inX6 1 (by decide) am_q315 (v := .ref (G.1 + 250)) rfl dX6_unknownBehind_1 ?_
  refine am_get hx hb hts hK hown hH (am_o7 (p := 250) (by decide +kernel)) rfl am_inX7 6 (by decide) am_q270 (v := .int (w.1 250 6)) rfl dX6_unknownBehind_4 ?_
  obtain ⟨x2_15, hx2_15, hf⟩ := am_v_some hf
  refine am_topi hx2_15 ?_
  refine lv_istore_n (lv' := [(2, .int x2_15), (0, .ref (G.1 + 257)), (1, .int a1)]) hx hb dX6_unknownBehind_7 rfl hl (by decide) rfl (fun ls hl => ?_)
  refine lv_iconst (v := 0) hx hb dX6_unknownBehind_8 (by decide) ?_
  refine lv_istore_n (lv' := [(3, .int (0 : Int32)), (2, .int x2_15), (0, .ref (G.1 + 257)), (1, .int a1)]) hx hb dX6_unknownBehind_9 rfl hl (by decide) rfl (fun ls hl => ?_)
  exact P10 am_fuel x2_15 (0 : Int32) w H locs ls hf hH (lv_sub hl [2, 3, 1, 0] rfl)

def f_X11_ahead_17 (a1 : Int32) (w : am_S) : Option (Int32 × am_S) :=
  some ((-1 : Int32), w)
def f_X11_ahead (a1 : Int32) (w : am_S) : Option (Int32 × am_S) :=
  am_b2 (f_X11_noField w) fun r_17 w_15 => if r_17 = 0 then (if a1 < 0 then (f_X11_ahead_17 a1 w_15) else (if a1 ≤ (20 : Int32) then (am_b1 (f_X7_lookAt 23 w_15) fun w_21 => am_b2 (f_X1_everyone 11 w_21) fun r_25 w_23 => am_b2 (f_X6_unknownBehind a1 w_23) fun r_28 w_26 => some (r_25 &&& (r_28 ^^^ (-1 : Int32)), w_26)) else (f_X11_ahead_17 a1 w_15))) else (f_X11_ahead_17 a1 w_15)
set_option maxRecDepth 100000 in
set_option maxHeartbeats 4000000 in
theorem k_X11_ahead {G : am_G} {l : Launch} {a1 : Int32}  {w : am_S} {rr : Int32} {ww : am_S} (hf : f_X11_ahead a1 w = some (rr, ww)) : am_Mi G l yX11_ahead (Cond.code yX11_ahead cX11_ahead 2 (some .int) :: am_T) { frames := 4, cells := 0, slots := 0, locals := 256 } [.ref (G.1 + 0), .int a1] w rr ww := by
  refine Met.ofW (cc := cX11_ahead) (maxL := 2) (ret := (some .int)) (by decide) rfl ?_
  intro p e s m args below meth c s₁ B hml hv
  obtain ⟨rfl, hx, hb, hr, hts, hown, hlocks, hK, hE, hH⟩ := am_begin B hv
  have hown : s.vm.findClass RX11 = some m.cls := hown
  show W p l e { frames := 4, cells := 0, slots := 0, locals := 256 } s m _ below meth c s.heap [] 0 0 _ _
  have P17 : ∀ (w : am_S) (H : Heap) (locs : List Loc) (ls : Array Slot), f_X11_ahead_17 a1 w = some (rr, ww) → am_H G w s H locs → lv_has ls 2 [] → W p l e { frames := 4, cells := 0, slots := 0, locals := 256 } s m [.ref (G.1 + 0), .int a1].toArray below meth c H locs 0 0 (MQ below (va_Qi (fun (x : Int32) (u : am_S) => x = rr ∧ u = ww) (am_U G) (am_A G)) [.ref (G.1 + 0), .int a1].toArray s 0 0 (am_A G)) (F0 m 17 ls []) := by
    intro w H locs ls hf hH hl
    unfold f_X11_ahead_17 at hf
    refine lv_iconst (v := -1) hx hb dX11_ahead_17 (by decide) ?_
    exact am_reti hx hb hr hlocks hH hf dX11_ahead_18
  refine am_enter (lv := [(0, .ref (G.1 + 0)), (1, .int a1)]) (Nat.le_of_ble_eq_true rfl) rfl (fun ls hl => ?_)
  unfold f_X11_ahead at hf
  refine am_start hH (fun H locs hH => ?_)
  refine lv_aload_n hx hb dX11_ahead_0 rfl (lv_at hl 0 rfl) ?_
  obtain ⟨r_17, w_15, hq_16, hf⟩ := am_b2_some hf
  refine am_calli (r := r_17) (w' := w_15) (am_runV (n := 0) (As := []) (rest := []) ⟨hx, hb, hml, hown, hts⟩ hK hE hH (k_X11_noField hq_16) (am_gV am_q625 am_q627 am_qs11 am_q1 am_q628) (am_o11 (p := 0) (by decide +kernel)) rfl ⟨rfl, rfl⟩ (by decide +kernel) ⟨Nat.le_of_ble_eq_true rfl, Nat.le_of_ble_eq_true rfl⟩ rfl hl.1 rfl (Nat.le_of_ble_eq_true rfl) ⟨Nat.zero_le _, Nat.zero_le _⟩ dX11_ahead_1) hH (fun H locs hH => ?_)
  refine lv_if_ne (tgt := 17) hx hb dX11_ahead_4 (by decide) (fun hc_18 => ?_) (fun hc_18 => ?_)
  · have hf := (if_neg hc_18).symm.trans hf
    exact P17 w_15 H locs ls hf hH (lv_sub hl [] rfl)
  · have hf := (if_pos hc_18).symm.trans hf
    refine lv_iload_n hx hb dX11_ahead_7 rfl (lv_at hl 1 rfl) ?_
    refine lv_if_lt (tgt := 17) hx hb dX11_ahead_8 (by decide) (fun hc_19 => ?_) (fun hc_19 => ?_)
    · have hf := (if_pos hc_19).symm.trans hf
      exact P17 w_15 H locs ls hf hH (lv_sub hl [] rfl)
    · have hf := (if_neg hc_19).symm.trans hf
      refine lv_iload_n hx hb dX11_ahead_11 rfl (lv_at hl 1 rfl) ?_
      refine lv_bipush (v := 20) hx hb dX11_ahead_12 (by decide) ?_
      refine lv_icmp_le (tgt := 19) hx hb dX11_ahead_14 (by decide) (fun hc_20 => ?_) (fun hc_20 => ?_)
      · have hf := (if_pos hc_20).symm.trans hf
        refine lv_aload_n hx hb dX11_ahead_19 rfl (lv_at hl 0 rfl) ?_
        refine am_get hx hb hts hK hown hH (am_o11 (p := 0) (by decide +kernel)) rfl am_inX11 13 (by decide) am_q344 (v := .ref (G.1 + 250)) rfl dX11_ahead_20 ?_
        refine lv_aload_n hx hb dX11_ahead_23 rfl (lv_at hl 0 rfl) ?_
        refine am_get hx hb hts hK hown hH (am_o11 (p := 0) (by decide +kernel)) rfl am_inX11 5 (by decide) am_q336 (v := .ref (G.1 + 23)) rfl dX11_ahead_24 ?_
        obtain ⟨w_21, hq_22, hf⟩ := am_b1_some hf
        refine am_callv (w' := w_21) (am_runV (n := 1) (As := [.ref (G.1 + 23)]) (rest := []) ⟨hx, hb, hml, hown, hts⟩ hK hE hH (k_X7_lookAt (by decide +kernel) hq_22) (am_gV am_q670 am_q671 am_q672 am_q9 am_q673) (am_o7 (p := 250) (by decide +kernel)) rfl ⟨rfl, rfl⟩ (by decide +kernel) ⟨Nat.le_of_ble_eq_true rfl, Nat.le_of_ble_eq_true rfl⟩ rfl hl.1 rfl (Nat.le_of_ble_eq_true rfl) ⟨Nat.zero_le _, Nat.zero_le _⟩ dX11_ahead_27) hH (fun H locs hH => ?_)
        refine lv_aload_n hx hb dX11_ahead_30 rfl (lv_at hl 0 rfl) ?_
        refine am_get hx hb hts hK hown hH (am_o11 (p := 0) (by decide +kernel)) rfl am_inX11 2 (by decide) am_q333 (v := .ref (G.1 + 11)) rfl dX11_ahead_31 ?_
        obtain ⟨r_25, w_23, hq_24, hf⟩ := am_b2_some hf
        refine am_calli (r := r_25) (w' := w_23) (am_runV (n := 0) (As := []) (rest := []) ⟨hx, hb, hml, hown, hts⟩ hK hE hH (k_X1_everyone (by decide +kernel) hq_24) (am_gV am_q948 am_q610 am_q611 am_q3 am_q612) (am_o1 (p := 11) (by decide +kernel)) rfl ⟨rfl, rfl⟩ (by decide +kernel) ⟨Nat.le_of_ble_eq_true rfl, Nat.le_of_ble_eq_true rfl⟩ rfl hl.1 rfl (Nat.le_of_ble_eq_true rfl) ⟨Nat.zero_le _, Nat.zero_le _⟩ dX11_ahead_34) hH (fun H locs hH => ?_)
        refine lv_aload_n hx hb dX11_ahead_37 rfl (lv_at hl 0 rfl) ?_
        refine am_get hx hb hts hK hown hH (am_o11 (p := 0) (by decide +kernel)) rfl am_inX11 15 (by decide) am_q346 (v := .ref (G.1 + 257)) rfl dX11_ahead_38 ?_
        refine lv_iload_n hx hb dX11_ahead_41 rfl (lv_at hl 1 rfl) ?_
        obtain ⟨r_28, w_26, hq_27, hf⟩ := am_b2_some hf
        refine am_calli (r := r_28) (w' := w_26) (am_runV (n := 1) (As := [.int a1]) (rest := [.int r_25]) ⟨hx, hb, hml, hown, hts⟩ hK hE hH (k_X6_unknownBehind hq_27) (am_gV am_q961 am_q962 am_q963 am_q11 am_q964) (am_o6 (p := 257) (by decide +kernel)) rfl ⟨rfl, rfl⟩ (by decide +kernel) ⟨Nat.le_of_ble_eq_true rfl, Nat.le_of_ble_eq_true rfl⟩ rfl hl.1 rfl (Nat.le_of_ble_eq_true rfl) ⟨Nat.zero_le _, Nat.zero_le _⟩ dX11_ahead_42) hH (fun H locs hH => ?_)
        refine lv_iconst (v := -1) hx hb dX11_ahead_45 (by decide) ?_
        refine lv_ixor hx hb dX11_ahead_46 ?_
        refine lv_iand hx hb dX11_ahead_47 ?_
        exact am_reti hx hb hr hlocks hH hf dX11_ahead_48
      · have hf := (if_neg hc_20).symm.trans hf
        exact P17 w_15 H locs ls hf hH (lv_sub hl [] rfl)

def f_X9_takeFrom (o0 : Nat) (o1 : Nat) (w : am_S) : Option am_S :=
  am_v (am_ci w (o1 + 1) 0 (o0 + 1) 0 10) fun (w_6 : am_S) => am_v (am_cl w_6 (o1 + 2) 0 (o0 + 2) 0 10) fun (w_7 : am_S) => am_v (am_ci w_7 (o1 + 3) 0 (o0 + 3) 0 30) fun (w_8 : am_S) => am_v (am_ci w_8 (o1 + 4) 0 (o0 + 4) 0 3) fun (w_9 : am_S) => am_v (am_pi w_9 o0 4 (w_9.1 o1 4)) fun (w_10 : am_S) => some w_10
set_option maxRecDepth 100000 in
set_option maxHeartbeats 4000000 in
theorem k_X9_takeFrom {G : am_G} {l : Launch} {o0 : Nat} {o1 : Nat} (ho0 : am_f9 o0) (ho1 : am_f9 o1) {w : am_S} {ww : am_S} (hf : f_X9_takeFrom o0 o1 w = some ww) : am_Mv G l yX9_takeFrom (Cond.code yX9_takeFrom cX9_takeFrom 2 none :: am_T) { frames := 2, cells := 0, slots := 0, locals := 128 } [.ref (G.1 + o0), .ref (G.1 + o1)] w ww := by
  refine Met.ofW (cc := cX9_takeFrom) (maxL := 2) (ret := none) (by decide) rfl ?_
  intro p e s m args below meth c s₁ B hml hv
  obtain ⟨rfl, hx, hb, hr, hts, hown, hlocks, hK, hE, hH⟩ := am_begin B hv
  have hown : s.vm.findClass RX9 = some m.cls := hown
  show W p l e { frames := 2, cells := 0, slots := 0, locals := 128 } s m _ below meth c s.heap [] 0 0 _ _
  refine am_enter (lv := [(0, .ref (G.1 + o0)), (1, .ref (G.1 + o1))]) (Nat.le_of_ble_eq_true rfl) rfl (fun ls hl => ?_)
  unfold f_X9_takeFrom at hf
  refine am_start hH (fun H locs hH => ?_)
  refine lv_aload_n hx hb dX9_takeFrom_0 rfl (lv_at hl 1 rfl) ?_
  refine am_get hx hb hts hK hown hH (am_o9 ho1.1) rfl am_inX9 0 (by decide) am_q173 (v := .ref (G.1 + (o1 + 1))) rfl dX9_takeFrom_1 ?_
  refine lv_iconst (v := 0) hx hb dX9_takeFrom_4 (by decide) ?_
  refine lv_aload_n hx hb dX9_takeFrom_5 rfl (lv_at hl 0 rfl) ?_
  refine am_get hx hb hts hK hown hH (am_o9 ho0.1) rfl am_inX9 0 (by decide) am_q173 (v := .ref (G.1 + (o0 + 1))) rfl dX9_takeFrom_6 ?_
  refine lv_iconst (v := 0) hx hb dX9_takeFrom_9 (by decide) ?_
  refine lv_aload_n hx hb dX9_takeFrom_10 rfl (lv_at hl 0 rfl) ?_
  refine am_get hx hb hts hK hown hH (am_o9 ho0.1) rfl am_inX9 0 (by decide) am_q173 (v := .ref (G.1 + (o0 + 1))) rfl dX9_takeFrom_11 ?_
  refine am_leni (v := (10 : Int32)) hx hb hK hH (am_ai_of (N := 10) ho0.2.1) rfl dX9_takeFrom_14 ?_
  obtain ⟨w_6, hw_6, hf⟩ := am_v_some hf
  refine am_copyi (n := 10) hx hb (hml.trans hl.1.symm) hown (hts _ am_q779) (hts _ am_q444) (hts _ am_q443) (hts _ am_q15) hK hH (am_ai_of (N := 10) ho1.2.1) (am_ai_of (N := 10) ho0.2.1) (by decide) (by decide) (by decide) (by decide) (by decide) (Nat.le_of_ble_eq_true rfl) (by decide +kernel) dX9_takeFrom_15 (fun H locs hH => ?_)
  rw [← hw_6] at hH
  refine lv_aload_n hx hb dX9_takeFrom_18 rfl (lv_at hl 1 rfl) ?_
  refine am_get hx hb hts hK hown hH (am_o9 ho1.1) rfl am_inX9 1 (by decide) am_q177 (v := .ref (G.1 + (o1 + 2))) rfl dX9_takeFrom_19 ?_
  refine lv_iconst (v := 0) hx hb dX9_takeFrom_22 (by decide) ?_
  refine lv_aload_n hx hb dX9_takeFrom_23 rfl (lv_at hl 0 rfl) ?_
  refine am_get hx hb hts hK hown hH (am_o9 ho0.1) rfl am_inX9 1 (by decide) am_q177 (v := .ref (G.1 + (o0 + 2))) rfl dX9_takeFrom_24 ?_
  refine lv_iconst (v := 0) hx hb dX9_takeFrom_27 (by decide) ?_
  refine lv_aload_n hx hb dX9_takeFrom_28 rfl (lv_at hl 0 rfl) ?_
  refine am_get hx hb hts hK hown hH (am_o9 ho0.1) rfl am_inX9 1 (by decide) am_q177 (v := .ref (G.1 + (o0 + 2))) rfl dX9_takeFrom_29 ?_
  refine am_lenl (v := (10 : Int32)) hx hb hK hH (am_al_of (N := 10) ho0.2.2.1) rfl dX9_takeFrom_32 ?_
  obtain ⟨w_7, hw_7, hf⟩ := am_v_some hf
  refine am_copyl (n := 10) hx hb (hml.trans hl.1.symm) hown (hts _ am_q779) (hts _ am_q444) (hts _ am_q443) (hts _ am_q15) hK hH (am_al_of (N := 10) ho1.2.2.1) (am_al_of (N := 10) ho0.2.2.1) (by decide) (by decide) (by decide) (by decide) (by decide) (Nat.le_of_ble_eq_true rfl) (by decide +kernel) dX9_takeFrom_33 (fun H locs hH => ?_)
  rw [← hw_7] at hH
  refine lv_aload_n hx hb dX9_takeFrom_36 rfl (lv_at hl 1 rfl) ?_
  refine am_get hx hb hts hK hown hH (am_o9 ho1.1) rfl am_inX9 2 (by decide) am_q181 (v := .ref (G.1 + (o1 + 3))) rfl dX9_takeFrom_37 ?_
  refine lv_iconst (v := 0) hx hb dX9_takeFrom_40 (by decide) ?_
  refine lv_aload_n hx hb dX9_takeFrom_41 rfl (lv_at hl 0 rfl) ?_
  refine am_get hx hb hts hK hown hH (am_o9 ho0.1) rfl am_inX9 2 (by decide) am_q181 (v := .ref (G.1 + (o0 + 3))) rfl dX9_takeFrom_42 ?_
  refine lv_iconst (v := 0) hx hb dX9_takeFrom_45 (by decide) ?_
  refine lv_aload_n hx hb dX9_takeFrom_46 rfl (lv_at hl 0 rfl) ?_
  refine am_get hx hb hts hK hown hH (am_o9 ho0.1) rfl am_inX9 2 (by decide) am_q181 (v := .ref (G.1 + (o0 + 3))) rfl dX9_takeFrom_47 ?_
  refine am_leni (v := (30 : Int32)) hx hb hK hH (am_ai_of (N := 30) ho0.2.2.2.1) rfl dX9_takeFrom_50 ?_
  obtain ⟨w_8, hw_8, hf⟩ := am_v_some hf
  refine am_copyi (n := 30) hx hb (hml.trans hl.1.symm) hown (hts _ am_q779) (hts _ am_q444) (hts _ am_q443) (hts _ am_q15) hK hH (am_ai_of (N := 30) ho1.2.2.2.1) (am_ai_of (N := 30) ho0.2.2.2.1) (by decide) (by decide) (by decide) (by decide) (by decide) (Nat.le_of_ble_eq_true rfl) (by decide +kernel) dX9_takeFrom_51 (fun H locs hH => ?_)
  rw [← hw_8] at hH
  refine lv_aload_n hx hb dX9_takeFrom_54 rfl (lv_at hl 1 rfl) ?_
  refine am_get hx hb hts hK hown hH (am_o9 ho1.1) rfl am_inX9 3 (by decide) am_q184 (v := .ref (G.1 + (o1 + 4))) rfl dX9_takeFrom_55 ?_
  refine lv_iconst (v := 0) hx hb dX9_takeFrom_58 (by decide) ?_
  refine lv_aload_n hx hb dX9_takeFrom_59 rfl (lv_at hl 0 rfl) ?_
  refine am_get hx hb hts hK hown hH (am_o9 ho0.1) rfl am_inX9 3 (by decide) am_q184 (v := .ref (G.1 + (o0 + 4))) rfl dX9_takeFrom_60 ?_
  refine lv_iconst (v := 0) hx hb dX9_takeFrom_63 (by decide) ?_
  refine lv_aload_n hx hb dX9_takeFrom_64 rfl (lv_at hl 0 rfl) ?_
  refine am_get hx hb hts hK hown hH (am_o9 ho0.1) rfl am_inX9 3 (by decide) am_q184 (v := .ref (G.1 + (o0 + 4))) rfl dX9_takeFrom_65 ?_
  refine am_leni (v := (3 : Int32)) hx hb hK hH (am_ai_of (N := 3) ho0.2.2.2.2) rfl dX9_takeFrom_68 ?_
  obtain ⟨w_9, hw_9, hf⟩ := am_v_some hf
  refine am_copyi (n := 3) hx hb (hml.trans hl.1.symm) hown (hts _ am_q779) (hts _ am_q444) (hts _ am_q443) (hts _ am_q15) hK hH (am_ai_of (N := 3) ho1.2.2.2.2) (am_ai_of (N := 3) ho0.2.2.2.2) (by decide) (by decide) (by decide) (by decide) (by decide) (Nat.le_of_ble_eq_true rfl) (by decide +kernel) dX9_takeFrom_69 (fun H locs hH => ?_)
  rw [← hw_9] at hH
  refine lv_aload_n hx hb dX9_takeFrom_72 rfl (lv_at hl 0 rfl) ?_
  refine lv_aload_n hx hb dX9_takeFrom_73 rfl (lv_at hl 1 rfl) ?_
  refine am_get hx hb hts hK hown hH (am_o9 ho1.1) rfl am_inX9 4 (by decide) am_q187 (v := .int (w_9.1 o1 4)) rfl dX9_takeFrom_74 ?_
  obtain ⟨w_10, hw_10, hf⟩ := am_v_some hf
  refine am_puti hx hb hts hK hown hH (am_o9 ho0.1) rfl am_inX9 tyX9 tyX9_ok nmX9 4 (by decide) am_q187 rfl rfl rfl (fun _ _ => Nat.le_of_ble_eq_true rfl) (fun _ _ _ => rfl) dX9_takeFrom_77 (fun H locs hH => ?_)
  rw [← hw_10] at hH
  exact am_retv hx hb hr hlocks hH hf dX9_takeFrom_80

def f_X4_takeFrom (o0 : Nat) (o1 : Nat) (w : am_S) : Option am_S :=
  am_v (am_ci w (o1 + 1) 0 (o0 + 1) 0 100) fun (w_5 : am_S) => am_v (am_ci w_5 (o1 + 2) 0 (o0 + 2) 0 100) fun (w_6 : am_S) => am_v (am_ci w_6 (o1 + 3) 0 (o0 + 3) 0 100) fun (w_7 : am_S) => am_v (am_pi w_7 o0 3 (w_7.1 o1 3)) fun (w_8 : am_S) => some w_8
set_option maxRecDepth 100000 in
set_option maxHeartbeats 4000000 in
theorem k_X4_takeFrom {G : am_G} {l : Launch} {o0 : Nat} {o1 : Nat} (ho0 : am_f4 o0) (ho1 : am_f4 o1) {w : am_S} {ww : am_S} (hf : f_X4_takeFrom o0 o1 w = some ww) : am_Mv G l yX4_takeFrom (Cond.code yX4_takeFrom cX4_takeFrom 2 none :: am_T) { frames := 2, cells := 0, slots := 0, locals := 128 } [.ref (G.1 + o0), .ref (G.1 + o1)] w ww := by
  refine Met.ofW (cc := cX4_takeFrom) (maxL := 2) (ret := none) (by decide) rfl ?_
  intro p e s m args below meth c s₁ B hml hv
  obtain ⟨rfl, hx, hb, hr, hts, hown, hlocks, hK, hE, hH⟩ := am_begin B hv
  have hown : s.vm.findClass RX4 = some m.cls := hown
  show W p l e { frames := 2, cells := 0, slots := 0, locals := 128 } s m _ below meth c s.heap [] 0 0 _ _
  refine am_enter (lv := [(0, .ref (G.1 + o0)), (1, .ref (G.1 + o1))]) (Nat.le_of_ble_eq_true rfl) rfl (fun ls hl => ?_)
  unfold f_X4_takeFrom at hf
  refine am_start hH (fun H locs hH => ?_)
  refine lv_aload_n hx hb dX4_takeFrom_0 rfl (lv_at hl 1 rfl) ?_
  refine am_get hx hb hts hK hown hH (am_o4 ho1.1) rfl am_inX4 0 (by decide) am_q209 (v := .ref (G.1 + (o1 + 1))) rfl dX4_takeFrom_1 ?_
  refine lv_iconst (v := 0) hx hb dX4_takeFrom_4 (by decide) ?_
  refine lv_aload_n hx hb dX4_takeFrom_5 rfl (lv_at hl 0 rfl) ?_
  refine am_get hx hb hts hK hown hH (am_o4 ho0.1) rfl am_inX4 0 (by decide) am_q209 (v := .ref (G.1 + (o0 + 1))) rfl dX4_takeFrom_6 ?_
  refine lv_iconst (v := 0) hx hb dX4_takeFrom_9 (by decide) ?_
  refine lv_bipush (v := 100) hx hb dX4_takeFrom_10 (by decide) ?_
  obtain ⟨w_5, hw_5, hf⟩ := am_v_some hf
  refine am_copyi (n := 100) hx hb (hml.trans hl.1.symm) hown (hts _ am_q1231) (hts _ am_q444) (hts _ am_q443) (hts _ am_q15) hK hH (am_ai_of (N := 100) ho1.2.1) (am_ai_of (N := 100) ho0.2.1) (by decide) (by decide) (by decide) (by decide) (by decide) (Nat.le_of_ble_eq_true rfl) (by decide +kernel) dX4_takeFrom_12 (fun H locs hH => ?_)
  rw [← hw_5] at hH
  refine lv_aload_n hx hb dX4_takeFrom_15 rfl (lv_at hl 1 rfl) ?_
  refine am_get hx hb hts hK hown hH (am_o4 ho1.1) rfl am_inX4 1 (by decide) am_q210 (v := .ref (G.1 + (o1 + 2))) rfl dX4_takeFrom_16 ?_
  refine lv_iconst (v := 0) hx hb dX4_takeFrom_19 (by decide) ?_
  refine lv_aload_n hx hb dX4_takeFrom_20 rfl (lv_at hl 0 rfl) ?_
  refine am_get hx hb hts hK hown hH (am_o4 ho0.1) rfl am_inX4 1 (by decide) am_q210 (v := .ref (G.1 + (o0 + 2))) rfl dX4_takeFrom_21 ?_
  refine lv_iconst (v := 0) hx hb dX4_takeFrom_24 (by decide) ?_
  refine lv_bipush (v := 100) hx hb dX4_takeFrom_25 (by decide) ?_
  obtain ⟨w_6, hw_6, hf⟩ := am_v_some hf
  refine am_copyi (n := 100) hx hb (hml.trans hl.1.symm) hown (hts _ am_q1231) (hts _ am_q444) (hts _ am_q443) (hts _ am_q15) hK hH (am_ai_of (N := 100) ho1.2.2.1) (am_ai_of (N := 100) ho0.2.2.1) (by decide) (by decide) (by decide) (by decide) (by decide) (Nat.le_of_ble_eq_true rfl) (by decide +kernel) dX4_takeFrom_27 (fun H locs hH => ?_)
  rw [← hw_6] at hH
  refine lv_aload_n hx hb dX4_takeFrom_30 rfl (lv_at hl 1 rfl) ?_
  refine am_get hx hb hts hK hown hH (am_o4 ho1.1) rfl am_inX4 2 (by decide) am_q211 (v := .ref (G.1 + (o1 + 3))) rfl dX4_takeFrom_31 ?_
  refine lv_iconst (v := 0) hx hb dX4_takeFrom_34 (by decide) ?_
  refine lv_aload_n hx hb dX4_takeFrom_35 rfl (lv_at hl 0 rfl) ?_
  refine am_get hx hb hts hK hown hH (am_o4 ho0.1) rfl am_inX4 2 (by decide) am_q211 (v := .ref (G.1 + (o0 + 3))) rfl dX4_takeFrom_36 ?_
  refine lv_iconst (v := 0) hx hb dX4_takeFrom_39 (by decide) ?_
  refine lv_bipush (v := 100) hx hb dX4_takeFrom_40 (by decide) ?_
  obtain ⟨w_7, hw_7, hf⟩ := am_v_some hf
  refine am_copyi (n := 100) hx hb (hml.trans hl.1.symm) hown (hts _ am_q1231) (hts _ am_q444) (hts _ am_q443) (hts _ am_q15) hK hH (am_ai_of (N := 100) ho1.2.2.2) (am_ai_of (N := 100) ho0.2.2.2) (by decide) (by decide) (by decide) (by decide) (by decide) (Nat.le_of_ble_eq_true rfl) (by decide +kernel) dX4_takeFrom_42 (fun H locs hH => ?_)
  rw [← hw_7] at hH
  refine lv_aload_n hx hb dX4_takeFrom_45 rfl (lv_at hl 0 rfl) ?_
  refine lv_aload_n hx hb dX4_takeFrom_46 rfl (lv_at hl 1 rfl) ?_
  refine am_get hx hb hts hK hown hH (am_o4 ho1.1) rfl am_inX4 3 (by decide) am_q212 (v := .int (w_7.1 o1 3)) rfl dX4_takeFrom_47 ?_
  obtain ⟨w_8, hw_8, hf⟩ := am_v_some hf
  refine am_puti hx hb hts hK hown hH (am_o4 ho0.1) rfl am_inX4 tyX4 tyX4_ok nmX4 3 (by decide) am_q212 rfl rfl rfl (fun _ _ => Nat.le_of_ble_eq_true rfl) (fun _ _ _ => rfl) dX4_takeFrom_50 (fun H locs hH => ?_)
  rw [← hw_8] at hH
  exact am_retv hx hb hr hlocks hH hf dX4_takeFrom_53

def f_X9_knownCount_28 (o0 : Nat) (x2 : Int32) (s0 : Int32) (s1 : Int32) (w : am_S) : Option ((Int32 × am_S) ⊕ (Int32 × Int32 × am_S)) :=
  am_v (s1 + s0) fun (x1_6 : Int32) => am_v (x2 + (1 : Int32)) fun (x2_7 : Int32) => some (.inr (x1_6, x2_7, w))
def f_X9_knownCount_4b (o0 : Nat) (x1 : Int32) (x2 : Int32) (w : am_S) : Option ((Int32 × am_S) ⊕ (Int32 × Int32 × am_S)) :=
  if (10 : Int32) ≤ x2 then (am_x (some (x1, w))) else (am_chk x2 10 (if (w.1 (o0 + 1) x2.toNatClampNeg) = 0 then (f_X9_knownCount_28 o0 x2 (0 : Int32) x1 w) else (f_X9_knownCount_28 o0 x2 (1 : Int32) x1 w)))
def f_X9_knownCount_4 (o0 : Nat) (x1 : Int32) (x2 : Int32) (w : am_S) : Option (Int32 × am_S) :=
  am_loop (fun (st : (Int32 × Int32 × am_S)) => f_X9_knownCount_4b o0 st.1 st.2.1 st.2.2) am_fuel (x1, x2, w)
def f_X9_knownCount (o0 : Nat) (w : am_S) : Option (Int32 × am_S) :=
  f_X9_knownCount_4 o0 (0 : Int32) (0 : Int32) w
set_option maxRecDepth 100000 in
set_option maxHeartbeats 4000000 in
theorem k_X9_knownCount {G : am_G} {l : Launch} {o0 : Nat} (ho0 : am_f9 o0) {w : am_S} {rr : Int32} {ww : am_S} (hf : f_X9_knownCount o0 w = some (rr, ww)) : am_Mi G l yX9_knownCount (Cond.code yX9_knownCount cX9_knownCount 3 (some .int) :: am_T) { frames := 0, cells := 0, slots := 0, locals := 0 } [.ref (G.1 + o0)] w rr ww := by
  refine Met.ofW (cc := cX9_knownCount) (maxL := 3) (ret := (some .int)) (by decide) rfl ?_
  intro p e s m args below meth c s₁ B hml hv
  obtain ⟨rfl, hx, hb, hr, hts, hown, hlocks, hK, hE, hH⟩ := am_begin B hv
  have hown : s.vm.findClass RX9 = some m.cls := hown
  show W p l e { frames := 0, cells := 0, slots := 0, locals := 0 } s m _ below meth c s.heap [] 0 0 _ _
  have P4 : ∀ (n1 : Nat) (x1 : Int32) (x2 : Int32) (w : am_S) (H : Heap) (locs : List Loc) (ls : Array Slot), am_loop (fun (st : (Int32 × Int32 × am_S)) => f_X9_knownCount_4b o0 st.1 st.2.1 st.2.2) n1 (x1, x2, w) = some (rr, ww) → am_H G w s H locs → lv_has ls 3 [(0, .ref (G.1 + o0)), (1, .int x1), (2, .int x2)] → W p l e { frames := 0, cells := 0, slots := 0, locals := 0 } s m [.ref (G.1 + o0)].toArray below meth c H locs 0 0 (MQ below (va_Qi (fun (x : Int32) (u : am_S) => x = rr ∧ u = ww) (am_U G) (am_A G)) [.ref (G.1 + o0)].toArray s 0 0 (am_A G)) (F0 m 4 ls []) := by
    intro n1
    induction n1 with
    | zero =>
      intro x1 x2 w H locs ls hf hH hl
      exact (am_loop_zero hf).elim
    | succ n1 ih1 =>
      intro x1 x2 w H locs ls hf hH hl
      obtain ⟨z1, hf, hk1⟩ := am_loop_succ hf
      have hf : f_X9_knownCount_4b o0 x1 x2 w = some z1 := hf
      have P28 : ∀ (x2 : Int32) (s0 : Int32) (s1 : Int32) (w : am_S) (z1 : ((Int32 × am_S) ⊕ (Int32 × Int32 × am_S))) (H : Heap) (locs : List Loc) (ls : Array Slot), f_X9_knownCount_28 o0 x2 s0 s1 w = some z1 → am_lk (fun (st : (Int32 × Int32 × am_S)) => f_X9_knownCount_4b o0 st.1 st.2.1 st.2.2) n1 (rr, ww) z1 → am_H G w s H locs → lv_has ls 3 [(0, .ref (G.1 + o0)), (2, .int x2)] → W p l e { frames := 0, cells := 0, slots := 0, locals := 0 } s m [.ref (G.1 + o0)].toArray below meth c H locs 0 0 (MQ below (va_Qi (fun (x : Int32) (u : am_S) => x = rr ∧ u = ww) (am_U G) (am_A G)) [.ref (G.1 + o0)].toArray s 0 0 (am_A G)) (F0 m 28 ls [.int s0, .int s1]) := by
        intro x2 s0 s1 w z1 H locs ls hf hk1 hH hl
        unfold f_X9_knownCount_28 at hf
        refine lv_iadd hx hb dX9_knownCount_28 ?_
        obtain ⟨x1_6, hx1_6, hf⟩ := am_v_some hf
        refine am_topi hx1_6 ?_
        refine lv_istore_n (lv' := [(1, .int x1_6), (0, .ref (G.1 + o0)), (2, .int x2)]) hx hb dX9_knownCount_29 rfl hl (by decide) rfl (fun ls hl => ?_)
        obtain ⟨x2_7, hx2_7, hf⟩ := am_v_some hf
        refine lv_iinc (v := x2_7) (lv' := [(2, .int x2_7), (1, .int x1_6), (0, .ref (G.1 + o0))]) hx hb dX9_knownCount_30 hl (k := 2) rfl (by rw [hx2_7]; rfl) (by decide) rfl (fun ls hl => ?_)
        refine lv_goto (tgt := 4) hx hb dX9_knownCount_33 (by decide) ?_
        obtain rfl := Option.some.inj hf
        exact ih1 x1_6 x2_7 w H locs ls hk1 hH (lv_sub hl [2, 1, 0] rfl)
      unfold f_X9_knownCount_4b at hf
      refine lv_iload_n hx hb dX9_knownCount_4 rfl (lv_at hl 2 rfl) ?_
      refine lv_aload_n hx hb dX9_knownCount_5 rfl (lv_at hl 0 rfl) ?_
      refine am_get hx hb hts hK hown hH (am_o9 ho0.1) rfl am_inX9 0 (by decide) am_q173 (v := .ref (G.1 + (o0 + 1))) rfl dX9_knownCount_6 ?_
      refine am_leni (v := (10 : Int32)) hx hb hK hH (am_ai_of (N := 10) ho0.2.1) rfl dX9_knownCount_9 ?_
      refine lv_icmp_ge (tgt := 36) hx hb dX9_knownCount_10 (by decide) (fun hc_8 => ?_) (fun hc_8 => ?_)
      · have hf := (if_pos hc_8).symm.trans hf
        obtain ⟨y_9, hf, hzy_9⟩ := am_x_some hf
        rw [hzy_9] at hk1
        have hf := hf.trans (congrArg some (show y_9 = (rr, ww) from hk1))
        refine lv_iload_n hx hb dX9_knownCount_36 rfl (lv_at hl 1 rfl) ?_
        exact am_reti hx hb hr hlocks hH hf dX9_knownCount_37
      · have hf := (if_neg hc_8).symm.trans hf
        refine lv_iload_n hx hb dX9_knownCount_13 rfl (lv_at hl 1 rfl) ?_
        refine lv_aload_n hx hb dX9_knownCount_14 rfl (lv_at hl 0 rfl) ?_
        refine am_get hx hb hts hK hown hH (am_o9 ho0.1) rfl am_inX9 0 (by decide) am_q173 (v := .ref (G.1 + (o0 + 1))) rfl dX9_knownCount_15 ?_
        refine lv_iload_n hx hb dX9_knownCount_18 rfl (lv_at hl 2 rfl) ?_
        obtain ⟨hi_10, hf⟩ := am_chk_some hf
        refine am_iald hx hb hK hH (am_ai_of (N := 10) ho0.2.1) hi_10 dX9_knownCount_19 ?_
        refine lv_if_eq (tgt := 27) hx hb dX9_knownCount_20 (by decide) (fun hc_11 => ?_) (fun hc_11 => ?_)
        · have hf := (if_pos hc_11).symm.trans hf
          refine lv_iconst (v := 0) hx hb dX9_knownCount_27 (by decide) ?_
          exact P28 x2 (0 : Int32) x1 w z1 H locs ls hf hk1 hH (lv_sub hl [0, 2] rfl)
        · have hf := (if_neg hc_11).symm.trans hf
          refine lv_iconst (v := 1) hx hb dX9_knownCount_23 (by decide) ?_
          refine lv_goto (tgt := 28) hx hb dX9_knownCount_24 (by decide) ?_
          exact P28 x2 (1 : Int32) x1 w z1 H locs ls hf hk1 hH (lv_sub hl [0, 2] rfl)
  refine am_enter (lv := [(0, .ref (G.1 + o0))]) (Nat.le_of_ble_eq_true rfl) rfl (fun ls hl => ?_)
  unfold f_X9_knownCount at hf
  refine am_start hH (fun H locs hH => ?_)
  refine lv_iconst (v := 0) hx hb dX9_knownCount_0 (by decide) ?_
  refine lv_istore_n (lv' := [(1, .int (0 : Int32)), (0, .ref (G.1 + o0))]) hx hb dX9_knownCount_1 rfl hl (by decide) rfl (fun ls hl => ?_)
  refine lv_iconst (v := 0) hx hb dX9_knownCount_2 (by decide) ?_
  refine lv_istore_n (lv' := [(2, .int (0 : Int32)), (1, .int (0 : Int32)), (0, .ref (G.1 + o0))]) hx hb dX9_knownCount_3 rfl hl (by decide) rfl (fun ls hl => ?_)
  exact P4 am_fuel (0 : Int32) (0 : Int32) w H locs ls hf hH (lv_sub hl [2, 1, 0] rfl)

def f_X11_back  (w : am_S) : Option (Int32 × am_S) :=
  if (w.1 0 18) = 0 then (some ((-1 : Int32), w)) else (am_b1 (f_X9_takeFrom 23 33 w) fun w_11 => am_b1 (f_X4_takeFrom 38 42 w_11) fun w_13 => am_v (am_pi w_13 46 2 (0 : Int32)) fun (w_15 : am_S) => am_b2 (f_X9_knownCount 23 w_15) fun r_18 w_16 => some (r_18, w_16))
set_option maxRecDepth 100000 in
set_option maxHeartbeats 4000000 in
theorem k_X11_back {G : am_G} {l : Launch}   {w : am_S} {rr : Int32} {ww : am_S} (hf : f_X11_back  w = some (rr, ww)) : am_Mi G l yX11_back (Cond.code yX11_back cX11_back 1 (some .int) :: am_T) { frames := 3, cells := 0, slots := 0, locals := 192 } [.ref (G.1 + 0)] w rr ww := by
  refine Met.ofW (cc := cX11_back) (maxL := 1) (ret := (some .int)) (by decide) rfl ?_
  intro p e s m args below meth c s₁ B hml hv
  obtain ⟨rfl, hx, hb, hr, hts, hown, hlocks, hK, hE, hH⟩ := am_begin B hv
  have hown : s.vm.findClass RX11 = some m.cls := hown
  show W p l e { frames := 3, cells := 0, slots := 0, locals := 192 } s m _ below meth c s.heap [] 0 0 _ _
  refine am_enter (lv := [(0, .ref (G.1 + 0))]) (Nat.le_of_ble_eq_true rfl) rfl (fun ls hl => ?_)
  unfold f_X11_back at hf
  refine am_start hH (fun H locs hH => ?_)
  refine lv_aload_n hx hb dX11_back_0 rfl (lv_at hl 0 rfl) ?_
  refine am_get hx hb hts hK hown hH (am_o11 (p := 0) (by decide +kernel)) rfl am_inX11 18 (by decide) am_q349 (v := .int (w.1 0 18)) rfl dX11_back_1 ?_
  refine lv_if_ne (tgt := 9) hx hb dX11_back_4 (by decide) (fun hc_10 => ?_) (fun hc_10 => ?_)
  · have hf := (if_neg hc_10).symm.trans hf
    refine lv_aload_n hx hb dX11_back_9 rfl (lv_at hl 0 rfl) ?_
    refine am_get hx hb hts hK hown hH (am_o11 (p := 0) (by decide +kernel)) rfl am_inX11 5 (by decide) am_q336 (v := .ref (G.1 + 23)) rfl dX11_back_10 ?_
    refine lv_aload_n hx hb dX11_back_13 rfl (lv_at hl 0 rfl) ?_
    refine am_get hx hb hts hK hown hH (am_o11 (p := 0) (by decide +kernel)) rfl am_inX11 7 (by decide) am_q338 (v := .ref (G.1 + 33)) rfl dX11_back_14 ?_
    obtain ⟨w_11, hq_12, hf⟩ := am_b1_some hf
    refine am_callv (w' := w_11) (am_runV (n := 1) (As := [.ref (G.1 + 33)]) (rest := []) ⟨hx, hb, hml, hown, hts⟩ hK hE hH (k_X9_takeFrom (by decide +kernel) (by decide +kernel) hq_12) (am_gV am_q1173 am_q776 am_q777 am_q5 am_q778) (am_o9 (p := 23) (by decide +kernel)) rfl ⟨rfl, rfl⟩ (by decide +kernel) ⟨Nat.le_of_ble_eq_true rfl, Nat.le_of_ble_eq_true rfl⟩ rfl hl.1 rfl (Nat.le_of_ble_eq_true rfl) ⟨Nat.zero_le _, Nat.zero_le _⟩ dX11_back_17) hH (fun H locs hH => ?_)
    refine lv_aload_n hx hb dX11_back_20 rfl (lv_at hl 0 rfl) ?_
    refine am_get hx hb hts hK hown hH (am_o11 (p := 0) (by decide +kernel)) rfl am_inX11 8 (by decide) am_q339 (v := .ref (G.1 + 38)) rfl dX11_back_21 ?_
    refine lv_aload_n hx hb dX11_back_24 rfl (lv_at hl 0 rfl) ?_
    refine am_get hx hb hts hK hown hH (am_o11 (p := 0) (by decide +kernel)) rfl am_inX11 9 (by decide) am_q340 (v := .ref (G.1 + 42)) rfl dX11_back_25 ?_
    obtain ⟨w_13, hq_14, hf⟩ := am_b1_some hf
    refine am_callv (w' := w_13) (am_runV (n := 1) (As := [.ref (G.1 + 42)]) (rest := []) ⟨hx, hb, hml, hown, hts⟩ hK hE hH (k_X4_takeFrom (by decide +kernel) (by decide +kernel) hq_14) (am_gV am_q1227 am_q1228 am_q1229 am_q6 am_q1230) (am_o4 (p := 38) (by decide +kernel)) rfl ⟨rfl, rfl⟩ (by decide +kernel) ⟨Nat.le_of_ble_eq_true rfl, Nat.le_of_ble_eq_true rfl⟩ rfl hl.1 rfl (Nat.le_of_ble_eq_true rfl) ⟨Nat.zero_le _, Nat.zero_le _⟩ dX11_back_28) hH (fun H locs hH => ?_)
    refine lv_aload_n hx hb dX11_back_31 rfl (lv_at hl 0 rfl) ?_
    refine am_get hx hb hts hK hown hH (am_o11 (p := 0) (by decide +kernel)) rfl am_inX11 10 (by decide) am_q341 (v := .ref (G.1 + 46)) rfl dX11_back_32 ?_
    refine lv_iconst (v := 0) hx hb dX11_back_35 (by decide) ?_
    obtain ⟨w_15, hw_15, hf⟩ := am_v_some hf
    refine am_puti hx hb hts hK hown hH (am_o3 (p := 46) (by decide +kernel)) rfl am_inX3 tyX3 tyX3_ok nmX3 2 (by decide) am_q235 rfl rfl rfl (fun _ _ => Nat.le_of_ble_eq_true rfl) (fun _ _ _ => rfl) dX11_back_36 (fun H locs hH => ?_)
    rw [← hw_15] at hH
    refine lv_aload_n hx hb dX11_back_39 rfl (lv_at hl 0 rfl) ?_
    refine am_get hx hb hts hK hown hH (am_o11 (p := 0) (by decide +kernel)) rfl am_inX11 5 (by decide) am_q336 (v := .ref (G.1 + 23)) rfl dX11_back_40 ?_
    obtain ⟨r_18, w_16, hq_17, hf⟩ := am_b2_some hf
    refine am_calli (r := r_18) (w' := w_16) (am_runV (n := 0) (As := []) (rest := []) ⟨hx, hb, hml, hown, hts⟩ hK hE hH (k_X9_knownCount (by decide +kernel) hq_17) (am_gV am_q858 am_q807 am_q808 am_q5 am_q809) (am_o9 (p := 23) (by decide +kernel)) rfl ⟨rfl, rfl⟩ (by decide +kernel) ⟨Nat.le_of_ble_eq_true rfl, Nat.le_of_ble_eq_true rfl⟩ rfl hl.1 rfl (Nat.le_of_ble_eq_true rfl) ⟨Nat.zero_le _, Nat.zero_le _⟩ dX11_back_43) hH (fun H locs hH => ?_)
    exact am_reti hx hb hr hlocks hH hf dX11_back_46
  · have hf := (if_pos hc_10).symm.trans hf
    refine lv_iconst (v := -1) hx hb dX11_back_7 (by decide) ?_
    exact am_reti hx hb hr hlocks hH hf dX11_back_8

def f_X11_noUser_20 (a1 : Int32) (s0 : Int32) (w : am_S) : Option (Int32 × am_S) :=
  am_nar .boolean s0 (some (s0, w))
def f_X11_noUser_15 (a1 : Int32) (w : am_S) : Option (Int32 × am_S) :=
  f_X11_noUser_20 a1 (1 : Int32) w
def f_X11_noUser (a1 : Int32) (w : am_S) : Option (Int32 × am_S) :=
  if a1 < 0 then (f_X11_noUser_15 a1 w) else (if a1 < (w.1 11 11) then (f_X11_noUser_20 a1 (0 : Int32) w) else (f_X11_noUser_15 a1 w))
set_option maxRecDepth 100000 in
set_option maxHeartbeats 4000000 in
theorem k_X11_noUser {G : am_G} {l : Launch} {a1 : Int32}  {w : am_S} {rr : Int32} {ww : am_S} (hf : f_X11_noUser a1 w = some (rr, ww)) : am_Mi G l yX11_noUser (Cond.code yX11_noUser cX11_noUser 2 (some .boolean) :: am_T) { frames := 0, cells := 0, slots := 0, locals := 0 } [.ref (G.1 + 0), .int a1] w rr ww := by
  refine Met.ofW (cc := cX11_noUser) (maxL := 2) (ret := (some .boolean)) (by decide) rfl ?_
  intro p e s m args below meth c s₁ B hml hv
  obtain ⟨rfl, hx, hb, hr, hts, hown, hlocks, hK, hE, hH⟩ := am_begin B hv
  have hown : s.vm.findClass RX11 = some m.cls := hown
  show W p l e { frames := 0, cells := 0, slots := 0, locals := 0 } s m _ below meth c s.heap [] 0 0 _ _
  have P20 : ∀ (s0 : Int32) (w : am_S) (H : Heap) (locs : List Loc) (ls : Array Slot), f_X11_noUser_20 a1 s0 w = some (rr, ww) → am_H G w s H locs → lv_has ls 2 [] → W p l e { frames := 0, cells := 0, slots := 0, locals := 0 } s m [.ref (G.1 + 0), .int a1].toArray below meth c H locs 0 0 (MQ below (va_Qi (fun (x : Int32) (u : am_S) => x = rr ∧ u = ww) (am_U G) (am_A G)) [.ref (G.1 + 0), .int a1].toArray s 0 0 (am_A G)) (F0 m 20 ls [.int s0]) := by
    intro s0 w H locs ls hf hH hl
    unfold f_X11_noUser_20 at hf
    obtain ⟨hr_3, hf⟩ := am_nar_some hf
    exact am_retz hx hb hr hr_3.1 hlocks hH hf dX11_noUser_20
  have P15 : ∀ (w : am_S) (H : Heap) (locs : List Loc) (ls : Array Slot), f_X11_noUser_15 a1 w = some (rr, ww) → am_H G w s H locs → lv_has ls 2 [] → W p l e { frames := 0, cells := 0, slots := 0, locals := 0 } s m [.ref (G.1 + 0), .int a1].toArray below meth c H locs 0 0 (MQ below (va_Qi (fun (x : Int32) (u : am_S) => x = rr ∧ u = ww) (am_U G) (am_A G)) [.ref (G.1 + 0), .int a1].toArray s 0 0 (am_A G)) (F0 m 15 ls []) := by
    intro w H locs ls hf hH hl
    unfold f_X11_noUser_15 at hf
    refine lv_iconst (v := 1) hx hb dX11_noUser_15 (by decide) ?_
    refine lv_goto (tgt := 20) hx hb dX11_noUser_16 (by decide) ?_
    exact P20 (1 : Int32) w H locs ls hf hH (lv_sub hl [] rfl)
  refine am_enter (lv := [(0, .ref (G.1 + 0)), (1, .int a1)]) (Nat.le_of_ble_eq_true rfl) rfl (fun ls hl => ?_)
  unfold f_X11_noUser at hf
  refine am_start hH (fun H locs hH => ?_)
  refine lv_iload_n hx hb dX11_noUser_0 rfl (lv_at hl 1 rfl) ?_
  refine lv_if_lt (tgt := 15) hx hb dX11_noUser_1 (by decide) (fun hc_4 => ?_) (fun hc_4 => ?_)
  · have hf := (if_pos hc_4).symm.trans hf
    exact P15 w H locs ls hf hH (lv_sub hl [] rfl)
  · have hf := (if_neg hc_4).symm.trans hf
    refine lv_iload_n hx hb dX11_noUser_4 rfl (lv_at hl 1 rfl) ?_
    refine lv_aload_n hx hb dX11_noUser_5 rfl (lv_at hl 0 rfl) ?_
    refine am_get hx hb hts hK hown hH (am_o11 (p := 0) (by decide +kernel)) rfl am_inX11 2 (by decide) am_q333 (v := .ref (G.1 + 11)) rfl dX11_noUser_6 ?_
    refine am_get hx hb hts hK hown hH (am_o1 (p := 11) (by decide +kernel)) rfl am_inX1 11 (by decide) am_q106 (v := .int (w.1 11 11)) rfl dX11_noUser_9 ?_
    refine lv_icmp_lt (tgt := 19) hx hb dX11_noUser_12 (by decide) (fun hc_5 => ?_) (fun hc_5 => ?_)
    · have hf := (if_pos hc_5).symm.trans hf
      refine lv_iconst (v := 0) hx hb dX11_noUser_19 (by decide) ?_
      exact P20 (0 : Int32) w H locs ls hf hH (lv_sub hl [] rfl)
    · have hf := (if_neg hc_5).symm.trans hf
      exact P15 w H locs ls hf hH (lv_sub hl [] rfl)

def f_X7_settle_53 (a1 : Int32) (a2 : Int32) (a3 : Int32) (a4 : Int64) (x6 : Int32) (x7 : Int32) (x8 : Int32) (x9 : Int32) (w : am_S) : Option (((Int32 × am_S) ⊕ (Int32 × Int32 × am_S)) ⊕ (Int32 × Int32 × am_S)) :=
  am_v (x9 + (1 : Int32)) fun (x9_11 : Int32) => some (.inr (x6, x9_11, w))
def f_X7_settle_20b (a1 : Int32) (a2 : Int32) (a3 : Int32) (a4 : Int64) (x7 : Int32) (x8 : Int32) (x6 : Int32) (x9 : Int32) (w : am_S) : Option (((Int32 × am_S) ⊕ (Int32 × Int32 × am_S)) ⊕ (Int32 × Int32 × am_S)) :=
  if a3 ≤ x9 then (am_x (if x6 = x8 then (am_x (some (x6, w))) else (am_v (x7 + (1 : Int32)) fun (x7_15 : Int32) => some (.inr (x6, x7_15, w))))) else (if (lg_cmp ((am_lshr a4 x9) &&& (1 : Int64)) (0 : Int64)) = 0 then (am_b2 (f_X7_clearIn x9 x6 w) fun r_20 w_18 => am_v (x6 &&& (r_20 ^^^ (-1 : Int32))) fun (x6_21 : Int32) => f_X7_settle_53 a1 a2 a3 a4 x6_21 x7 x8 x9 w_18) else (f_X7_settle_53 a1 a2 a3 a4 x6 x7 x8 x9 w))
def f_X7_settle_20 (a1 : Int32) (a2 : Int32) (a3 : Int32) (a4 : Int64) (x6 : Int32) (x7 : Int32) (x8 : Int32) (x9 : Int32) (w : am_S) : Option ((Int32 × am_S) ⊕ (Int32 × Int32 × am_S)) :=
  am_loop (fun (st : (Int32 × Int32 × am_S)) => f_X7_settle_20b a1 a2 a3 a4 x7 x8 st.1 st.2.1 st.2.2) am_fuel (x6, x9, w)
def f_X7_settle_6b (a1 : Int32) (a2 : Int32) (a3 : Int32) (a4 : Int64) (x6 : Int32) (x7 : Int32) (w : am_S) : Option ((Int32 × am_S) ⊕ (Int32 × Int32 × am_S)) :=
  if (10 : Int32) < x7 then (am_x (some (x6, w))) else (f_X7_settle_20 a1 a2 a3 a4 x6 x7 x6 a2 w)
def f_X7_settle_6 (a1 : Int32) (a2 : Int32) (a3 : Int32) (a4 : Int64) (x6 : Int32) (x7 : Int32) (w : am_S) : Option (Int32 × am_S) :=
  am_loop (fun (st : (Int32 × Int32 × am_S)) => f_X7_settle_6b a1 a2 a3 a4 st.1 st.2.1 st.2.2) am_fuel (x6, x7, w)
def f_X7_settle (a1 : Int32) (a2 : Int32) (a3 : Int32) (a4 : Int64) (w : am_S) : Option (Int32 × am_S) :=
  f_X7_settle_6 a1 a2 a3 a4 a1 (0 : Int32) w
set_option maxRecDepth 100000 in
set_option maxHeartbeats 4000000 in
theorem k_X7_settle {G : am_G} {l : Launch} {a1 : Int32} {a2 : Int32} {a3 : Int32} {a4 : Int64}  {w : am_S} {rr : Int32} {ww : am_S} (hf : f_X7_settle a1 a2 a3 a4 w = some (rr, ww)) : am_Mi G l yX7_settle (Cond.code yX7_settle cX7_settle 10 (some .int) :: am_T) { frames := 2, cells := 0, slots := 0, locals := 128 } [.ref (G.1 + 250), .int a1, .int a2, .int a3, .long a4] w rr ww := by
  refine Met.ofW (cc := cX7_settle) (maxL := 10) (ret := (some .int)) (by decide) rfl ?_
  intro p e s m args below meth c s₁ B hml hv
  obtain ⟨rfl, hx, hb, hr, hts, hown, hlocks, hK, hE, hH⟩ := am_begin B hv
  have hown : s.vm.findClass RX7 = some m.cls := hown
  show W p l e { frames := 2, cells := 0, slots := 0, locals := 128 } s m _ below meth c s.heap [] 0 0 _ _
  have P6 : ∀ (n1 : Nat) (x6 : Int32) (x7 : Int32) (w : am_S) (H : Heap) (locs : List Loc) (ls : Array Slot), am_loop (fun (st : (Int32 × Int32 × am_S)) => f_X7_settle_6b a1 a2 a3 a4 st.1 st.2.1 st.2.2) n1 (x6, x7, w) = some (rr, ww) → am_H G w s H locs → lv_has ls 10 [(0, .ref (G.1 + 250)), (2, .int a2), (3, .int a3), (4, .long a4), (6, .int x6), (7, .int x7)] → W p l e { frames := 2, cells := 0, slots := 0, locals := 128 } s m [.ref (G.1 + 250), .int a1, .int a2, .int a3, .long a4].toArray below meth c H locs 0 0 (MQ below (va_Qi (fun (x : Int32) (u : am_S) => x = rr ∧ u = ww) (am_U G) (am_A G)) [.ref (G.1 + 250), .int a1, .int a2, .int a3, .long a4].toArray s 0 0 (am_A G)) (F0 m 6 ls []) := by
    intro n1
    induction n1 with
    | zero =>
      intro x6 x7 w H locs ls hf hH hl
      exact (am_loop_zero hf).elim
    | succ n1 ih1 =>
      intro x6 x7 w H locs ls hf hH hl
      obtain ⟨z1, hf, hk1⟩ := am_loop_succ hf
      have hf : f_X7_settle_6b a1 a2 a3 a4 x6 x7 w = some z1 := hf
      have P20 : ∀ (x7 : Int32) (x8 : Int32) (n2 : Nat) (x6 : Int32) (x9 : Int32) (w : am_S) (z1 : ((Int32 × am_S) ⊕ (Int32 × Int32 × am_S))) (H : Heap) (locs : List Loc) (ls : Array Slot), am_loop (fun (st : (Int32 × Int32 × am_S)) => f_X7_settle_20b a1 a2 a3 a4 x7 x8 st.1 st.2.1 st.2.2) n2 (x6, x9, w) = some z1 → am_lk (fun (st : (Int32 × Int32 × am_S)) => f_X7_settle_6b a1 a2 a3 a4 st.1 st.2.1 st.2.2) n1 (rr, ww) z1 → am_H G w s H locs → lv_has ls 10 [(0, .ref (G.1 + 250)), (2, .int a2), (3, .int a3), (4, .long a4), (6, .int x6), (7, .int x7), (8, .int x8), (9, .int x9)] → W p l e { frames := 2, cells := 0, slots := 0, locals := 128 } s m [.ref (G.1 + 250), .int a1, .int a2, .int a3, .long a4].toArray below meth c H locs 0 0 (MQ below (va_Qi (fun (x : Int32) (u : am_S) => x = rr ∧ u = ww) (am_U G) (am_A G)) [.ref (G.1 + 250), .int a1, .int a2, .int a3, .long a4].toArray s 0 0 (am_A G)) (F0 m 20 ls []) := by
        intro x7 x8 n2
        induction n2 with
        | zero =>
          intro x6 x9 w z1 H locs ls hf hk1 hH hl
          exact (am_loop_zero hf).elim
        | succ n2 ih2 =>
          intro x6 x9 w z1 H locs ls hf hk1 hH hl
          obtain ⟨z2, hf, hk2⟩ := am_loop_succ hf
          have hf : f_X7_settle_20b a1 a2 a3 a4 x7 x8 x6 x9 w = some z2 := hf
          have P53 : ∀ (x6 : Int32) (x9 : Int32) (w : am_S) (z2 : (((Int32 × am_S) ⊕ (Int32 × Int32 × am_S)) ⊕ (Int32 × Int32 × am_S))) (H : Heap) (locs : List Loc) (ls : Array Slot), f_X7_settle_53 a1 a2 a3 a4 x6 x7 x8 x9 w = some z2 → am_lk (fun (st : (Int32 × Int32 × am_S)) => f_X7_settle_20b a1 a2 a3 a4 x7 x8 st.1 st.2.1 st.2.2) n2 z1 z2 → am_H G w s H locs → lv_has ls 10 [(0, .ref (G.1 + 250)), (2, .int a2), (3, .int a3), (4, .long a4), (6, .int x6), (7, .int x7), (8, .int x8), (9, .int x9)] → W p l e { frames := 2, cells := 0, slots := 0, locals := 128 } s m [.ref (G.1 + 250), .int a1, .int a2, .int a3, .long a4].toArray below meth c H locs 0 0 (MQ below (va_Qi (fun (x : Int32) (u : am_S) => x = rr ∧ u = ww) (am_U G) (am_A G)) [.ref (G.1 + 250), .int a1, .int a2, .int a3, .long a4].toArray s 0 0 (am_A G)) (F0 m 53 ls []) := by
            intro x6 x9 w z2 H locs ls hf hk2 hH hl
            unfold f_X7_settle_53 at hf
            obtain ⟨x9_11, hx9_11, hf⟩ := am_v_some hf
            refine lv_iinc (v := x9_11) (lv' := [(9, .int x9_11), (0, .ref (G.1 + 250)), (2, .int a2), (3, .int a3), (4, .long a4), (6, .int x6), (7, .int x7), (8, .int x8)]) hx hb dX7_settle_53 hl (k := 7) rfl (by rw [hx9_11]; rfl) (by decide) rfl (fun ls hl => ?_)
            refine lv_goto (tgt := 20) hx hb dX7_settle_56 (by decide) ?_
            obtain rfl := Option.some.inj hf
            exact ih2 x6 x9_11 w z1 H locs ls hk2 hk1 hH (lv_sub hl [1, 2, 3, 4, 5, 6, 7, 0] rfl)
          unfold f_X7_settle_20b at hf
          refine lv_iload hx hb dX7_settle_20 (lv_at hl 7 rfl) ?_
          refine lv_iload_n hx hb dX7_settle_22 rfl (lv_at hl 2 rfl) ?_
          refine lv_icmp_ge (tgt := 59) hx hb dX7_settle_23 (by decide) (fun hc_12 => ?_) (fun hc_12 => ?_)
          · have hf := (if_pos hc_12).symm.trans hf
            obtain ⟨y_13, hf, hzy_13⟩ := am_x_some hf
            rw [hzy_13] at hk2
            have hf := hf.trans (congrArg some (show y_13 = z1 from hk2))
            refine lv_iload hx hb dX7_settle_59 (lv_at hl 4 rfl) ?_
            refine lv_iload hx hb dX7_settle_61 (lv_at hl 6 rfl) ?_
            refine lv_icmp_ne (tgt := 69) hx hb dX7_settle_63 (by decide) (fun hc_14 => ?_) (fun hc_14 => ?_)
            · have hf := (if_neg hc_14).symm.trans hf
              obtain ⟨x7_15, hx7_15, hf⟩ := am_v_some hf
              refine lv_iinc (v := x7_15) (lv' := [(7, .int x7_15), (0, .ref (G.1 + 250)), (2, .int a2), (3, .int a3), (4, .long a4), (6, .int x6), (8, .int x8), (9, .int x9)]) hx hb dX7_settle_69 hl (k := 5) rfl (by rw [hx7_15]; rfl) (by decide) rfl (fun ls hl => ?_)
              refine lv_goto (tgt := 6) hx hb dX7_settle_72 (by decide) ?_
              obtain rfl := Option.some.inj hf
              exact ih1 x6 x7_15 w H locs ls hk1 hH (lv_sub hl [1, 2, 3, 4, 5, 0] rfl)
            · have hf := (if_pos hc_14).symm.trans hf
              obtain ⟨y_16, hf, hzy_16⟩ := am_x_some hf
              rw [hzy_16] at hk1
              have hf := hf.trans (congrArg some (show y_16 = (rr, ww) from hk1))
              refine lv_iload hx hb dX7_settle_66 (lv_at hl 4 rfl) ?_
              exact am_reti hx hb hr hlocks hH hf dX7_settle_68
          · have hf := (if_neg hc_12).symm.trans hf
            refine lv_lload hx hb dX7_settle_26 (lv_at hl 3 rfl) ?_
            refine lv_iload hx hb dX7_settle_28 (lv_at hl 7 rfl) ?_
            refine lv_lshr (v := am_lshr a4 x9) hx hb dX7_settle_30 rfl ?_
            refine lv_lconst (v := 1) hx hb dX7_settle_31 (by decide) ?_
            refine lv_land hx hb dX7_settle_32 ?_
            refine lv_lconst (v := 0) hx hb dX7_settle_33 (by decide) ?_
            refine W.lcmp hx hb dX7_settle_34 ?_
            refine lv_if_ne (tgt := 53) hx hb dX7_settle_35 (by decide) (fun hc_17 => ?_) (fun hc_17 => ?_)
            · have hf := (if_neg hc_17).symm.trans hf
              exact P53 x6 x9 w z2 H locs ls hf hk2 hH (lv_sub hl [0, 1, 2, 3, 4, 5, 6, 7] rfl)
            · have hf := (if_pos hc_17).symm.trans hf
              refine lv_iload hx hb dX7_settle_38 (lv_at hl 4 rfl) ?_
              refine lv_aload_n hx hb dX7_settle_40 rfl (lv_at hl 0 rfl) ?_
              refine lv_iload hx hb dX7_settle_41 (lv_at hl 7 rfl) ?_
              refine lv_iload hx hb dX7_settle_43 (lv_at hl 4 rfl) ?_
              obtain ⟨r_20, w_18, hq_19, hf⟩ := am_b2_some hf
              refine am_calli (r := r_20) (w' := w_18) (am_runV (n := 2) (As := [.int x9, .int x6]) (rest := [.int x6]) ⟨hx, hb, hml, hown, hts⟩ hK hE hH (k_X7_clearIn hq_19) (am_gV am_q743 am_q703 am_q704 am_q9 am_q705) (am_o7 (p := 250) (by decide +kernel)) rfl ⟨rfl, rfl⟩ (by decide +kernel) ⟨Nat.le_of_ble_eq_true rfl, Nat.le_of_ble_eq_true rfl⟩ rfl hl.1 rfl (Nat.le_of_ble_eq_true rfl) ⟨Nat.zero_le _, Nat.zero_le _⟩ dX7_settle_45) hH (fun H locs hH => ?_)
              refine lv_iconst (v := -1) hx hb dX7_settle_48 (by decide) ?_
              refine lv_ixor hx hb dX7_settle_49 ?_
              refine lv_iand hx hb dX7_settle_50 ?_
              obtain ⟨x6_21, hx6_21, hf⟩ := am_v_some hf
              refine am_topi hx6_21 ?_
              refine lv_istore (lv' := [(6, .int x6_21), (0, .ref (G.1 + 250)), (2, .int a2), (3, .int a3), (4, .long a4), (7, .int x7), (8, .int x8), (9, .int x9)]) hx hb dX7_settle_51 hl (by decide) rfl (fun ls hl => ?_)
              exact P53 x6_21 x9 w_18 z2 H locs ls hf hk2 hH (lv_sub hl [1, 2, 3, 4, 0, 5, 6, 7] rfl)
      unfold f_X7_settle_6b at hf
      refine lv_iload hx hb dX7_settle_6 (lv_at hl 5 rfl) ?_
      refine lv_bipush (v := 10) hx hb dX7_settle_8 (by decide) ?_
      refine lv_icmp_gt (tgt := 75) hx hb dX7_settle_10 (by decide) (fun hc_22 => ?_) (fun hc_22 => ?_)
      · have hf := (if_pos hc_22).symm.trans hf
        obtain ⟨y_23, hf, hzy_23⟩ := am_x_some hf
        rw [hzy_23] at hk1
        have hf := hf.trans (congrArg some (show y_23 = (rr, ww) from hk1))
        refine lv_iload hx hb dX7_settle_75 (lv_at hl 4 rfl) ?_
        exact am_reti hx hb hr hlocks hH hf dX7_settle_77
      · have hf := (if_neg hc_22).symm.trans hf
        refine lv_iload hx hb dX7_settle_13 (lv_at hl 4 rfl) ?_
        refine lv_istore (lv' := [(8, .int x6), (0, .ref (G.1 + 250)), (2, .int a2), (3, .int a3), (4, .long a4), (6, .int x6), (7, .int x7)]) hx hb dX7_settle_15 hl (by decide) rfl (fun ls hl => ?_)
        refine lv_iload_n hx hb dX7_settle_17 rfl (lv_at hl 2 rfl) ?_
        refine lv_istore (lv' := [(9, .int a2), (8, .int x6), (0, .ref (G.1 + 250)), (2, .int a2), (3, .int a3), (4, .long a4), (6, .int x6), (7, .int x7)]) hx hb dX7_settle_18 hl (by decide) rfl (fun ls hl => ?_)
        exact P20 x7 x6 am_fuel x6 a2 w z1 H locs ls hf hk1 hH (lv_sub hl [2, 3, 4, 5, 6, 7, 1, 0] rfl)
  refine am_enter (lv := [(0, .ref (G.1 + 250)), (1, .int a1), (2, .int a2), (3, .int a3), (4, .long a4)]) (Nat.le_of_ble_eq_true rfl) rfl (fun ls hl => ?_)
  unfold f_X7_settle at hf
  refine am_start hH (fun H locs hH => ?_)
  refine lv_iload_n hx hb dX7_settle_0 rfl (lv_at hl 1 rfl) ?_
  refine lv_istore (lv' := [(6, .int a1), (0, .ref (G.1 + 250)), (1, .int a1), (2, .int a2), (3, .int a3), (4, .long a4)]) hx hb dX7_settle_1 hl (by decide) rfl (fun ls hl => ?_)
  refine lv_iconst (v := 0) hx hb dX7_settle_3 (by decide) ?_
  refine lv_istore (lv' := [(7, .int (0 : Int32)), (6, .int a1), (0, .ref (G.1 + 250)), (1, .int a1), (2, .int a2), (3, .int a3), (4, .long a4)]) hx hb dX7_settle_4 hl (by decide) rfl (fun ls hl => ?_)
  exact P6 am_fuel a1 (0 : Int32) w H locs ls hf hH (lv_sub hl [2, 4, 5, 6, 1, 0] rfl)

def f_X7_stuckOf (a1 : Int32) (w : am_S) : Option (Int32 × am_S) :=
  am_b2 (f_X1_allSlots 11 w) fun r_9 w_7 => am_b2 (f_X7_settle a1 (0 : Int32) r_9 (0 : Int64) w_7) fun r_12 w_10 => some (r_12, w_10)
set_option maxRecDepth 100000 in
set_option maxHeartbeats 4000000 in
theorem k_X7_stuckOf {G : am_G} {l : Launch} {a1 : Int32}  {w : am_S} {rr : Int32} {ww : am_S} (hf : f_X7_stuckOf a1 w = some (rr, ww)) : am_Mi G l yX7_stuckOf (Cond.code yX7_stuckOf cX7_stuckOf 2 (some .int) :: am_T) { frames := 3, cells := 0, slots := 0, locals := 192 } [.ref (G.1 + 250), .int a1] w rr ww := by
  refine Met.ofW (cc := cX7_stuckOf) (maxL := 2) (ret := (some .int)) (by decide) rfl ?_
  intro p e s m args below meth c s₁ B hml hv
  obtain ⟨rfl, hx, hb, hr, hts, hown, hlocks, hK, hE, hH⟩ := am_begin B hv
  have hown : s.vm.findClass RX7 = some m.cls := hown
  show W p l e { frames := 3, cells := 0, slots := 0, locals := 192 } s m _ below meth c s.heap [] 0 0 _ _
  refine am_enter (lv := [(0, .ref (G.1 + 250)), (1, .int a1)]) (Nat.le_of_ble_eq_true rfl) rfl (fun ls hl => ?_)
  unfold f_X7_stuckOf at hf
  refine am_start hH (fun H locs hH => ?_)
  refine lv_aload_n hx hb dX7_stuckOf_0 rfl (lv_at hl 0 rfl) ?_
  refine lv_iload_n hx hb dX7_stuckOf_1 rfl (lv_at hl 1 rfl) ?_
  refine lv_iconst (v := 0) hx hb dX7_stuckOf_2 (by decide) ?_
  refine lv_aload_n hx hb dX7_stuckOf_3 rfl (lv_at hl 0 rfl) ?_
  refine am_get hx hb hts hK hown hH (am_o7 (p := 250) (by decide +kernel)) rfl am_inX7 0 (by decide) am_q259 (v := .ref (G.1 + 11)) rfl dX7_stuckOf_4 ?_
  obtain ⟨r_9, w_7, hq_8, hf⟩ := am_b2_some hf
  refine am_calli (r := r_9) (w' := w_7) (am_runV (n := 0) (As := []) (rest := [.int (0 : Int32), .int a1, .ref (G.1 + 250)]) ⟨hx, hb, hml, hown, hts⟩ hK hE hH (k_X1_allSlots (by decide +kernel) hq_8) (am_gV am_q742 am_q630 am_q631 am_q3 am_q632) (am_o1 (p := 11) (by decide +kernel)) rfl ⟨rfl, rfl⟩ (by decide +kernel) ⟨Nat.le_of_ble_eq_true rfl, Nat.le_of_ble_eq_true rfl⟩ rfl hl.1 rfl (Nat.le_of_ble_eq_true rfl) ⟨Nat.zero_le _, Nat.zero_le _⟩ dX7_stuckOf_7) hH (fun H locs hH => ?_)
  refine lv_lconst (v := 0) hx hb dX7_stuckOf_10 (by decide) ?_
  obtain ⟨r_12, w_10, hq_11, hf⟩ := am_b2_some hf
  refine am_calli (r := r_12) (w' := w_10) (am_runV (n := 4) (As := [.int a1, .int (0 : Int32), .int r_9, .long (0 : Int64)]) (rest := []) ⟨hx, hb, hml, hown, hts⟩ hK hE hH (k_X7_settle hq_11) (am_gV am_q953 am_q954 am_q955 am_q9 am_q956) (am_o7 (p := 250) (by decide +kernel)) rfl ⟨rfl, rfl⟩ (by decide +kernel) ⟨Nat.le_of_ble_eq_true rfl, Nat.le_of_ble_eq_true rfl⟩ rfl hl.1 rfl (Nat.le_of_ble_eq_true rfl) ⟨Nat.zero_le _, Nat.zero_le _⟩ dX7_stuckOf_11) hH (fun H locs hH => ?_)
  exact am_reti hx hb hr hlocks hH hf dX7_stuckOf_14

def f_X6_helpersOf_81 (a1 : Int32) (x2 : Int32) (x3 : Int32) (w : am_S) : Option ((Int32 × am_S) ⊕ (Int32 × Int32 × am_S)) :=
  am_v (x3 + (1 : Int32)) fun (x3_12 : Int32) => some (.inr (x2, x3_12, w))
def f_X6_helpersOf_43 (a1 : Int32) (x2 : Int32) (x3 : Int32) (x4 : Int32) (s0 : Int32) (w : am_S) : Option ((Int32 × am_S) ⊕ (Int32 × Int32 × am_S)) :=
  if s0 = 0 then (f_X6_helpersOf_81 a1 x2 x3 w) else (am_b2 (f_X7_stuckOf ((w.1 250 6) &&& (x4 ^^^ (-1 : Int32))) w) fun r_16 w_14 => if ((r_16 >>> (a1 &&& 31)) &&& (1 : Int32)) = 0 then (am_v (x2 ||| x4) fun (x2_18 : Int32) => f_X6_helpersOf_81 a1 x2_18 x3 w_14) else (f_X6_helpersOf_81 a1 x2 x3 w_14))
def f_X6_helpersOf_42 (a1 : Int32) (x2 : Int32) (x3 : Int32) (x4 : Int32) (w : am_S) : Option ((Int32 × am_S) ⊕ (Int32 × Int32 × am_S)) :=
  f_X6_helpersOf_43 a1 x2 x3 x4 (0 : Int32) w
def f_X6_helpersOf_4b (a1 : Int32) (x2 : Int32) (x3 : Int32) (w : am_S) : Option ((Int32 × am_S) ⊕ (Int32 × Int32 × am_S)) :=
  if (w.1 11 11) ≤ x3 then (am_x (some (x2, w))) else (am_v ((1 : Int32) <<< (x3 &&& 31)) fun (x4_21 : Int32) => if x3 = a1 then (f_X6_helpersOf_42 a1 x2 x3 x4_21 w) else (if ((w.1 250 6) &&& x4_21) = 0 then (f_X6_helpersOf_42 a1 x2 x3 x4_21 w) else (f_X6_helpersOf_43 a1 x2 x3 x4_21 (1 : Int32) w)))
def f_X6_helpersOf_4 (a1 : Int32) (x2 : Int32) (x3 : Int32) (w : am_S) : Option (Int32 × am_S) :=
  am_loop (fun (st : (Int32 × Int32 × am_S)) => f_X6_helpersOf_4b a1 st.1 st.2.1 st.2.2) am_fuel (x2, x3, w)
def f_X6_helpersOf (a1 : Int32) (w : am_S) : Option (Int32 × am_S) :=
  f_X6_helpersOf_4 a1 (0 : Int32) (0 : Int32) w
set_option maxRecDepth 100000 in
set_option maxHeartbeats 4000000 in
theorem k_X6_helpersOf {G : am_G} {l : Launch} {a1 : Int32}  {w : am_S} {rr : Int32} {ww : am_S} (hf : f_X6_helpersOf a1 w = some (rr, ww)) : am_Mi G l yX6_helpersOf (Cond.code yX6_helpersOf cX6_helpersOf 6 (some .int) :: am_T) { frames := 4, cells := 0, slots := 0, locals := 256 } [.ref (G.1 + 257), .int a1] w rr ww := by
  refine Met.ofW (cc := cX6_helpersOf) (maxL := 6) (ret := (some .int)) (by decide) rfl ?_
  intro p e s m args below meth c s₁ B hml hv
  obtain ⟨rfl, hx, hb, hr, hts, hown, hlocks, hK, hE, hH⟩ := am_begin B hv
  have hown : s.vm.findClass RX6 = some m.cls := hown
  show W p l e { frames := 4, cells := 0, slots := 0, locals := 256 } s m _ below meth c s.heap [] 0 0 _ _
  have P4 : ∀ (n1 : Nat) (x2 : Int32) (x3 : Int32) (w : am_S) (H : Heap) (locs : List Loc) (ls : Array Slot), am_loop (fun (st : (Int32 × Int32 × am_S)) => f_X6_helpersOf_4b a1 st.1 st.2.1 st.2.2) n1 (x2, x3, w) = some (rr, ww) → am_H G w s H locs → lv_has ls 6 [(0, .ref (G.1 + 257)), (1, .int a1), (2, .int x2), (3, .int x3)] → W p l e { frames := 4, cells := 0, slots := 0, locals := 256 } s m [.ref (G.1 + 257), .int a1].toArray below meth c H locs 0 0 (MQ below (va_Qi (fun (x : Int32) (u : am_S) => x = rr ∧ u = ww) (am_U G) (am_A G)) [.ref (G.1 + 257), .int a1].toArray s 0 0 (am_A G)) (F0 m 4 ls []) := by
    intro n1
    induction n1 with
    | zero =>
      intro x2 x3 w H locs ls hf hH hl
      exact (am_loop_zero hf).elim
    | succ n1 ih1 =>
      intro x2 x3 w H locs ls hf hH hl
      obtain ⟨z1, hf, hk1⟩ := am_loop_succ hf
      have hf : f_X6_helpersOf_4b a1 x2 x3 w = some z1 := hf
      have P81 : ∀ (x2 : Int32) (x3 : Int32) (w : am_S) (z1 : ((Int32 × am_S) ⊕ (Int32 × Int32 × am_S))) (H : Heap) (locs : List Loc) (ls : Array Slot), f_X6_helpersOf_81 a1 x2 x3 w = some z1 → am_lk (fun (st : (Int32 × Int32 × am_S)) => f_X6_helpersOf_4b a1 st.1 st.2.1 st.2.2) n1 (rr, ww) z1 → am_H G w s H locs → lv_has ls 6 [(0, .ref (G.1 + 257)), (1, .int a1), (2, .int x2), (3, .int x3)] → W p l e { frames := 4, cells := 0, slots := 0, locals := 256 } s m [.ref (G.1 + 257), .int a1].toArray below meth c H locs 0 0 (MQ below (va_Qi (fun (x : Int32) (u : am_S) => x = rr ∧ u = ww) (am_U G) (am_A G)) [.ref (G.1 + 257), .int a1].toArray s 0 0 (am_A G)) (F0 m 81 ls []) := by
        intro x2 x3 w z1 H locs ls hf hk1 hH hl
        unfold f_X6_helpersOf_81 at hf
        obtain ⟨x3_12, hx3_12, hf⟩ := am_v_some hf
        refine lv_iinc (v := x3_12) (lv' := [(3, .int x3_12), (0, .ref (G.1 + 257)), (1, .int a1), (2, .int x2)]) hx hb dX6_helpersOf_81 hl (k := 3) rfl (by rw [hx3_12]; rfl) (by decide) rfl (fun ls hl => ?_)
        refine lv_goto (tgt := 4) hx hb dX6_helpersOf_84 (by decide) ?_
        obtain rfl := Option.some.inj hf
        exact ih1 x2 x3_12 w H locs ls hk1 hH (lv_sub hl [1, 2, 3, 0] rfl)
      have P43 : ∀ (x2 : Int32) (x3 : Int32) (x4 : Int32) (s0 : Int32) (w : am_S) (z1 : ((Int32 × am_S) ⊕ (Int32 × Int32 × am_S))) (H : Heap) (locs : List Loc) (ls : Array Slot), f_X6_helpersOf_43 a1 x2 x3 x4 s0 w = some z1 → am_lk (fun (st : (Int32 × Int32 × am_S)) => f_X6_helpersOf_4b a1 st.1 st.2.1 st.2.2) n1 (rr, ww) z1 → am_H G w s H locs → lv_has ls 6 [(0, .ref (G.1 + 257)), (1, .int a1), (2, .int x2), (3, .int x3), (4, .int x4)] → W p l e { frames := 4, cells := 0, slots := 0, locals := 256 } s m [.ref (G.1 + 257), .int a1].toArray below meth c H locs 0 0 (MQ below (va_Qi (fun (x : Int32) (u : am_S) => x = rr ∧ u = ww) (am_U G) (am_A G)) [.ref (G.1 + 257), .int a1].toArray s 0 0 (am_A G)) (F0 m 43 ls [.int s0]) := by
        intro x2 x3 x4 s0 w z1 H locs ls hf hk1 hH hl
        unfold f_X6_helpersOf_43 at hf
        refine lv_istore (lv' := [(5, .int s0), (0, .ref (G.1 + 257)), (1, .int a1), (2, .int x2), (3, .int x3), (4, .int x4)]) hx hb dX6_helpersOf_43 hl (by decide) rfl (fun ls hl => ?_)
        refine lv_iload hx hb dX6_helpersOf_45 (lv_at hl 0 rfl) ?_
        refine lv_if_eq (tgt := 81) hx hb dX6_helpersOf_47 (by decide) (fun hc_13 => ?_) (fun hc_13 => ?_)
        · have hf := (if_pos hc_13).symm.trans hf
          exact P81 x2 x3 w z1 H locs ls hf hk1 hH (lv_sub hl [1, 2, 3, 4] rfl)
        · have hf := (if_neg hc_13).symm.trans hf
          refine lv_aload_n hx hb dX6_helpersOf_50 rfl (lv_at hl 1 rfl) ?_
          refine am_get hx hb hts hK hown hH (am_o6 (p := 257) (by decide +kernel)) rfl am_inX6 1 (by decide) am_q315 (v := .ref (G.1 + 250)) rfl dX6_helpersOf_51 ?_
          refine lv_aload_n hx hb dX6_helpersOf_54 rfl (lv_at hl 1 rfl) ?_
          refine am_get hx hb hts hK hown hH (am_o6 (p := 257) (by decide +kernel)) rfl am_inX6 1 (by decide) am_q315 (v := .ref (G.1 + 250)) rfl dX6_helpersOf_55 ?_
          refine am_get hx hb hts hK hown hH (am_o7 (p := 250) (by decide +kernel)) rfl am_inX7 6 (by decide) am_q270 (v := .int (w.1 250 6)) rfl dX6_helpersOf_58 ?_
          refine lv_iload hx hb dX6_helpersOf_61 (lv_at hl 5 rfl) ?_
          refine lv_iconst (v := -1) hx hb dX6_helpersOf_63 (by decide) ?_
          refine lv_ixor hx hb dX6_helpersOf_64 ?_
          refine lv_iand hx hb dX6_helpersOf_65 ?_
          obtain ⟨r_16, w_14, hq_15, hf⟩ := am_b2_some hf
          refine am_calli (r := r_16) (w' := w_14) (am_runV (n := 1) (As := [.int ((w.1 250 6) &&& (x4 ^^^ (-1 : Int32)))]) (rest := []) ⟨hx, hb, hml, hown, hts⟩ hK hE hH (k_X7_stuckOf hq_15) (am_gV am_q973 am_q950 am_q951 am_q9 am_q952) (am_o7 (p := 250) (by decide +kernel)) rfl ⟨rfl, rfl⟩ (by decide +kernel) ⟨Nat.le_of_ble_eq_true rfl, Nat.le_of_ble_eq_true rfl⟩ rfl hl.1 rfl (Nat.le_of_ble_eq_true rfl) ⟨Nat.zero_le _, Nat.zero_le _⟩ dX6_helpersOf_66) hH (fun H locs hH => ?_)
          refine lv_iload_n hx hb dX6_helpersOf_69 rfl (lv_at hl 2 rfl) ?_
          refine lv_ishr hx hb dX6_helpersOf_70 ?_
          refine lv_iconst (v := 1) hx hb dX6_helpersOf_71 (by decide) ?_
          refine lv_iand hx hb dX6_helpersOf_72 ?_
          refine lv_if_ne (tgt := 81) hx hb dX6_helpersOf_73 (by decide) (fun hc_17 => ?_) (fun hc_17 => ?_)
          · have hf := (if_neg hc_17).symm.trans hf
            exact P81 x2 x3 w_14 z1 H locs ls hf hk1 hH (lv_sub hl [1, 2, 3, 4] rfl)
          · have hf := (if_pos hc_17).symm.trans hf
            refine lv_iload_n hx hb dX6_helpersOf_76 rfl (lv_at hl 3 rfl) ?_
            refine lv_iload hx hb dX6_helpersOf_77 (lv_at hl 5 rfl) ?_
            refine lv_ior hx hb dX6_helpersOf_79 ?_
            obtain ⟨x2_18, hx2_18, hf⟩ := am_v_some hf
            refine am_topi hx2_18 ?_
            refine lv_istore_n (lv' := [(2, .int x2_18), (5, .int s0), (0, .ref (G.1 + 257)), (1, .int a1), (3, .int x3), (4, .int x4)]) hx hb dX6_helpersOf_80 rfl hl (by decide) rfl (fun ls hl => ?_)
            exact P81 x2_18 x3 w_14 z1 H locs ls hf hk1 hH (lv_sub hl [2, 3, 0, 4] rfl)
      have P42 : ∀ (x2 : Int32) (x3 : Int32) (x4 : Int32) (w : am_S) (z1 : ((Int32 × am_S) ⊕ (Int32 × Int32 × am_S))) (H : Heap) (locs : List Loc) (ls : Array Slot), f_X6_helpersOf_42 a1 x2 x3 x4 w = some z1 → am_lk (fun (st : (Int32 × Int32 × am_S)) => f_X6_helpersOf_4b a1 st.1 st.2.1 st.2.2) n1 (rr, ww) z1 → am_H G w s H locs → lv_has ls 6 [(0, .ref (G.1 + 257)), (1, .int a1), (2, .int x2), (3, .int x3), (4, .int x4)] → W p l e { frames := 4, cells := 0, slots := 0, locals := 256 } s m [.ref (G.1 + 257), .int a1].toArray below meth c H locs 0 0 (MQ below (va_Qi (fun (x : Int32) (u : am_S) => x = rr ∧ u = ww) (am_U G) (am_A G)) [.ref (G.1 + 257), .int a1].toArray s 0 0 (am_A G)) (F0 m 42 ls []) := by
        intro x2 x3 x4 w z1 H locs ls hf hk1 hH hl
        unfold f_X6_helpersOf_42 at hf
        refine lv_iconst (v := 0) hx hb dX6_helpersOf_42 (by decide) ?_
        exact P43 x2 x3 x4 (0 : Int32) w z1 H locs ls hf hk1 hH (lv_sub hl [0, 1, 2, 3, 4] rfl)
      unfold f_X6_helpersOf_4b at hf
      refine lv_iload_n hx hb dX6_helpersOf_4 rfl (lv_at hl 3 rfl) ?_
      refine lv_aload_n hx hb dX6_helpersOf_5 rfl (lv_at hl 0 rfl) ?_
      refine am_get hx hb hts hK hown hH (am_o6 (p := 257) (by decide +kernel)) rfl am_inX6 0 (by decide) am_q314 (v := .ref (G.1 + 11)) rfl dX6_helpersOf_6 ?_
      refine am_get hx hb hts hK hown hH (am_o1 (p := 11) (by decide +kernel)) rfl am_inX1 11 (by decide) am_q107 (v := .int (w.1 11 11)) rfl dX6_helpersOf_9 ?_
      refine lv_icmp_ge (tgt := 87) hx hb dX6_helpersOf_12 (by decide) (fun hc_19 => ?_) (fun hc_19 => ?_)
      · have hf := (if_pos hc_19).symm.trans hf
        obtain ⟨y_20, hf, hzy_20⟩ := am_x_some hf
        rw [hzy_20] at hk1
        have hf := hf.trans (congrArg some (show y_20 = (rr, ww) from hk1))
        refine lv_iload_n hx hb dX6_helpersOf_87 rfl (lv_at hl 2 rfl) ?_
        exact am_reti hx hb hr hlocks hH hf dX6_helpersOf_88
      · have hf := (if_neg hc_19).symm.trans hf
        refine lv_iconst (v := 1) hx hb dX6_helpersOf_15 (by decide) ?_
        refine lv_iload_n hx hb dX6_helpersOf_16 rfl (lv_at hl 3 rfl) ?_
        refine lv_ishl hx hb dX6_helpersOf_17 ?_
        obtain ⟨x4_21, hx4_21, hf⟩ := am_v_some hf
        refine am_topi hx4_21 ?_
        refine lv_istore (lv' := [(4, .int x4_21), (0, .ref (G.1 + 257)), (1, .int a1), (2, .int x2), (3, .int x3)]) hx hb dX6_helpersOf_18 hl (by decide) rfl (fun ls hl => ?_)
        refine lv_iload_n hx hb dX6_helpersOf_20 rfl (lv_at hl 4 rfl) ?_
        refine lv_iload_n hx hb dX6_helpersOf_21 rfl (lv_at hl 2 rfl) ?_
        refine lv_icmp_eq (tgt := 42) hx hb dX6_helpersOf_22 (by decide) (fun hc_22 => ?_) (fun hc_22 => ?_)
        · have hf := (if_pos hc_22).symm.trans hf
          exact P42 x2 x3 x4_21 w z1 H locs ls hf hk1 hH (lv_sub hl [1, 2, 3, 4, 0] rfl)
        · have hf := (if_neg hc_22).symm.trans hf
          refine lv_aload_n hx hb dX6_helpersOf_25 rfl (lv_at hl 1 rfl) ?_
          refine am_get hx hb hts hK hown hH (am_o6 (p := 257) (by decide +kernel)) rfl am_inX6 1 (by decide) am_q315 (v := .ref (G.1 + 250)) rfl dX6_helpersOf_26 ?_
          refine am_get hx hb hts hK hown hH (am_o7 (p := 250) (by decide +kernel)) rfl am_inX7 6 (by decide) am_q270 (v := .int (w.1 250 6)) rfl dX6_helpersOf_29 ?_
          refine lv_iload hx hb dX6_helpersOf_32 (lv_at hl 0 rfl) ?_
          refine lv_iand hx hb dX6_helpersOf_34 ?_
          refine lv_if_eq (tgt := 42) hx hb dX6_helpersOf_35 (by decide) (fun hc_23 => ?_) (fun hc_23 => ?_)
          · have hf := (if_pos hc_23).symm.trans hf
            exact P42 x2 x3 x4_21 w z1 H locs ls hf hk1 hH (lv_sub hl [1, 2, 3, 4, 0] rfl)
          · have hf := (if_neg hc_23).symm.trans hf
            refine lv_iconst (v := 1) hx hb dX6_helpersOf_38 (by decide) ?_
            refine lv_goto (tgt := 43) hx hb dX6_helpersOf_39 (by decide) ?_
            exact P43 x2 x3 x4_21 (1 : Int32) w z1 H locs ls hf hk1 hH (lv_sub hl [1, 2, 3, 4, 0] rfl)
  refine am_enter (lv := [(0, .ref (G.1 + 257)), (1, .int a1)]) (Nat.le_of_ble_eq_true rfl) rfl (fun ls hl => ?_)
  unfold f_X6_helpersOf at hf
  refine am_start hH (fun H locs hH => ?_)
  refine lv_iconst (v := 0) hx hb dX6_helpersOf_0 (by decide) ?_
  refine lv_istore_n (lv' := [(2, .int (0 : Int32)), (0, .ref (G.1 + 257)), (1, .int a1)]) hx hb dX6_helpersOf_1 rfl hl (by decide) rfl (fun ls hl => ?_)
  refine lv_iconst (v := 0) hx hb dX6_helpersOf_2 (by decide) ?_
  refine lv_istore_n (lv' := [(3, .int (0 : Int32)), (2, .int (0 : Int32)), (0, .ref (G.1 + 257)), (1, .int a1)]) hx hb dX6_helpersOf_3 rfl hl (by decide) rfl (fun ls hl => ?_)
  exact P4 am_fuel (0 : Int32) (0 : Int32) w H locs ls hf hH (lv_sub hl [2, 3, 1, 0] rfl)

def f_X11_blame_20 (a1 : Int32) (w : am_S) : Option (Int32 × am_S) :=
  some ((-1 : Int32), w)
def f_X11_blame (a1 : Int32) (w : am_S) : Option (Int32 × am_S) :=
  am_b2 (f_X11_noUser a1 w) fun r_14 w_12 => if r_14 = 0 then (am_chk a1 10 (if (w_12.1 24 a1.toNatClampNeg) = 0 then (am_b1 (f_X7_lookAt 23 w_12) fun w_18 => am_b2 (f_X6_helpersOf a1 w_18) fun r_22 w_20 => some (r_22, w_20)) else (f_X11_blame_20 a1 w_12))) else (f_X11_blame_20 a1 w_12)
set_option maxRecDepth 100000 in
set_option maxHeartbeats 4000000 in
theorem k_X11_blame {G : am_G} {l : Launch} {a1 : Int32}  {w : am_S} {rr : Int32} {ww : am_S} (hf : f_X11_blame a1 w = some (rr, ww)) : am_Mi G l yX11_blame (Cond.code yX11_blame cX11_blame 2 (some .int) :: am_T) { frames := 5, cells := 0, slots := 0, locals := 320 } [.ref (G.1 + 0), .int a1] w rr ww := by
  refine Met.ofW (cc := cX11_blame) (maxL := 2) (ret := (some .int)) (by decide) rfl ?_
  intro p e s m args below meth c s₁ B hml hv
  obtain ⟨rfl, hx, hb, hr, hts, hown, hlocks, hK, hE, hH⟩ := am_begin B hv
  have hown : s.vm.findClass RX11 = some m.cls := hown
  show W p l e { frames := 5, cells := 0, slots := 0, locals := 320 } s m _ below meth c s.heap [] 0 0 _ _
  have P20 : ∀ (w : am_S) (H : Heap) (locs : List Loc) (ls : Array Slot), f_X11_blame_20 a1 w = some (rr, ww) → am_H G w s H locs → lv_has ls 2 [] → W p l e { frames := 5, cells := 0, slots := 0, locals := 320 } s m [.ref (G.1 + 0), .int a1].toArray below meth c H locs 0 0 (MQ below (va_Qi (fun (x : Int32) (u : am_S) => x = rr ∧ u = ww) (am_U G) (am_A G)) [.ref (G.1 + 0), .int a1].toArray s 0 0 (am_A G)) (F0 m 20 ls []) := by
    intro w H locs ls hf hH hl
    unfold f_X11_blame_20 at hf
    refine lv_iconst (v := -1) hx hb dX11_blame_20 (by decide) ?_
    exact am_reti hx hb hr hlocks hH hf dX11_blame_21
  refine am_enter (lv := [(0, .ref (G.1 + 0)), (1, .int a1)]) (Nat.le_of_ble_eq_true rfl) rfl (fun ls hl => ?_)
  unfold f_X11_blame at hf
  refine am_start hH (fun H locs hH => ?_)
  refine lv_aload_n hx hb dX11_blame_0 rfl (lv_at hl 0 rfl) ?_
  refine lv_iload_n hx hb dX11_blame_1 rfl (lv_at hl 1 rfl) ?_
  obtain ⟨r_14, w_12, hq_13, hf⟩ := am_b2_some hf
  refine am_calli (r := r_14) (w' := w_12) (am_runV (n := 1) (As := [.int a1]) (rest := []) ⟨hx, hb, hml, hown, hts⟩ hK hE hH (k_X11_noUser hq_13) (am_gV am_q641 am_q643 am_qs12 am_q1 am_q644) (am_o11 (p := 0) (by decide +kernel)) rfl ⟨rfl, rfl⟩ (by decide +kernel) ⟨Nat.le_of_ble_eq_true rfl, Nat.le_of_ble_eq_true rfl⟩ rfl hl.1 rfl (Nat.le_of_ble_eq_true rfl) ⟨Nat.zero_le _, Nat.zero_le _⟩ dX11_blame_2) hH (fun H locs hH => ?_)
  refine lv_if_ne (tgt := 20) hx hb dX11_blame_5 (by decide) (fun hc_15 => ?_) (fun hc_15 => ?_)
  · have hf := (if_neg hc_15).symm.trans hf
    exact P20 w_12 H locs ls hf hH (lv_sub hl [] rfl)
  · have hf := (if_pos hc_15).symm.trans hf
    refine lv_aload_n hx hb dX11_blame_8 rfl (lv_at hl 0 rfl) ?_
    refine am_get hx hb hts hK hown hH (am_o11 (p := 0) (by decide +kernel)) rfl am_inX11 5 (by decide) am_q336 (v := .ref (G.1 + 23)) rfl dX11_blame_9 ?_
    refine am_get hx hb hts hK hown hH (am_o9 (p := 23) (by decide +kernel)) rfl am_inX9 0 (by decide) am_q176 (v := .ref (G.1 + 24)) rfl dX11_blame_12 ?_
    refine lv_iload_n hx hb dX11_blame_15 rfl (lv_at hl 1 rfl) ?_
    obtain ⟨hi_16, hf⟩ := am_chk_some hf
    refine am_iald hx hb hK hH (am_ai_of (N := 10) (by decide +kernel)) hi_16 dX11_blame_16 ?_
    refine lv_if_eq (tgt := 22) hx hb dX11_blame_17 (by decide) (fun hc_17 => ?_) (fun hc_17 => ?_)
    · have hf := (if_pos hc_17).symm.trans hf
      refine lv_aload_n hx hb dX11_blame_22 rfl (lv_at hl 0 rfl) ?_
      refine am_get hx hb hts hK hown hH (am_o11 (p := 0) (by decide +kernel)) rfl am_inX11 13 (by decide) am_q344 (v := .ref (G.1 + 250)) rfl dX11_blame_23 ?_
      refine lv_aload_n hx hb dX11_blame_26 rfl (lv_at hl 0 rfl) ?_
      refine am_get hx hb hts hK hown hH (am_o11 (p := 0) (by decide +kernel)) rfl am_inX11 5 (by decide) am_q336 (v := .ref (G.1 + 23)) rfl dX11_blame_27 ?_
      obtain ⟨w_18, hq_19, hf⟩ := am_b1_some hf
      refine am_callv (w' := w_18) (am_runV (n := 1) (As := [.ref (G.1 + 23)]) (rest := []) ⟨hx, hb, hml, hown, hts⟩ hK hE hH (k_X7_lookAt (by decide +kernel) hq_19) (am_gV am_q670 am_q671 am_q672 am_q9 am_q673) (am_o7 (p := 250) (by decide +kernel)) rfl ⟨rfl, rfl⟩ (by decide +kernel) ⟨Nat.le_of_ble_eq_true rfl, Nat.le_of_ble_eq_true rfl⟩ rfl hl.1 rfl (Nat.le_of_ble_eq_true rfl) ⟨Nat.zero_le _, Nat.zero_le _⟩ dX11_blame_30) hH (fun H locs hH => ?_)
      refine lv_aload_n hx hb dX11_blame_33 rfl (lv_at hl 0 rfl) ?_
      refine am_get hx hb hts hK hown hH (am_o11 (p := 0) (by decide +kernel)) rfl am_inX11 15 (by decide) am_q346 (v := .ref (G.1 + 257)) rfl dX11_blame_34 ?_
      refine lv_iload_n hx hb dX11_blame_37 rfl (lv_at hl 1 rfl) ?_
      obtain ⟨r_22, w_20, hq_21, hf⟩ := am_b2_some hf
      refine am_calli (r := r_22) (w' := w_20) (am_runV (n := 1) (As := [.int a1]) (rest := []) ⟨hx, hb, hml, hown, hts⟩ hK hE hH (k_X6_helpersOf hq_21) (am_gV am_q1051 am_q1052 am_q1053 am_q11 am_q1054) (am_o6 (p := 257) (by decide +kernel)) rfl ⟨rfl, rfl⟩ (by decide +kernel) ⟨Nat.le_of_ble_eq_true rfl, Nat.le_of_ble_eq_true rfl⟩ rfl hl.1 rfl (Nat.le_of_ble_eq_true rfl) ⟨Nat.zero_le _, Nat.zero_le _⟩ dX11_blame_38) hH (fun H locs hH => ?_)
      exact am_reti hx hb hr hlocks hH hf dX11_blame_41
    · have hf := (if_neg hc_17).symm.trans hf
      exact P20 w_12 H locs ls hf hH (lv_sub hl [] rfl)

def f_X2_noUser_20 (a1 : Int32) (s0 : Int32) (w : am_S) : Option (Int32 × am_S) :=
  am_nar .boolean s0 (some (s0, w))
def f_X2_noUser_15 (a1 : Int32) (w : am_S) : Option (Int32 × am_S) :=
  f_X2_noUser_20 a1 (1 : Int32) w
def f_X2_noUser (a1 : Int32) (w : am_S) : Option (Int32 × am_S) :=
  if a1 < 0 then (f_X2_noUser_15 a1 w) else (if a1 < (w.1 11 11) then (f_X2_noUser_20 a1 (0 : Int32) w) else (f_X2_noUser_15 a1 w))
set_option maxRecDepth 100000 in
set_option maxHeartbeats 4000000 in
theorem k_X2_noUser {G : am_G} {l : Launch} {a1 : Int32}  {w : am_S} {rr : Int32} {ww : am_S} (hf : f_X2_noUser a1 w = some (rr, ww)) : am_Mi G l yX2_noUser (Cond.code yX2_noUser cX2_noUser 2 (some .boolean) :: am_T) { frames := 0, cells := 0, slots := 0, locals := 0 } [.ref (G.1 + 255), .int a1] w rr ww := by
  refine Met.ofW (cc := cX2_noUser) (maxL := 2) (ret := (some .boolean)) (by decide) rfl ?_
  intro p e s m args below meth c s₁ B hml hv
  obtain ⟨rfl, hx, hb, hr, hts, hown, hlocks, hK, hE, hH⟩ := am_begin B hv
  have hown : s.vm.findClass RX2 = some m.cls := hown
  show W p l e { frames := 0, cells := 0, slots := 0, locals := 0 } s m _ below meth c s.heap [] 0 0 _ _
  have P20 : ∀ (s0 : Int32) (w : am_S) (H : Heap) (locs : List Loc) (ls : Array Slot), f_X2_noUser_20 a1 s0 w = some (rr, ww) → am_H G w s H locs → lv_has ls 2 [] → W p l e { frames := 0, cells := 0, slots := 0, locals := 0 } s m [.ref (G.1 + 255), .int a1].toArray below meth c H locs 0 0 (MQ below (va_Qi (fun (x : Int32) (u : am_S) => x = rr ∧ u = ww) (am_U G) (am_A G)) [.ref (G.1 + 255), .int a1].toArray s 0 0 (am_A G)) (F0 m 20 ls [.int s0]) := by
    intro s0 w H locs ls hf hH hl
    unfold f_X2_noUser_20 at hf
    obtain ⟨hr_3, hf⟩ := am_nar_some hf
    exact am_retz hx hb hr hr_3.1 hlocks hH hf dX2_noUser_20
  have P15 : ∀ (w : am_S) (H : Heap) (locs : List Loc) (ls : Array Slot), f_X2_noUser_15 a1 w = some (rr, ww) → am_H G w s H locs → lv_has ls 2 [] → W p l e { frames := 0, cells := 0, slots := 0, locals := 0 } s m [.ref (G.1 + 255), .int a1].toArray below meth c H locs 0 0 (MQ below (va_Qi (fun (x : Int32) (u : am_S) => x = rr ∧ u = ww) (am_U G) (am_A G)) [.ref (G.1 + 255), .int a1].toArray s 0 0 (am_A G)) (F0 m 15 ls []) := by
    intro w H locs ls hf hH hl
    unfold f_X2_noUser_15 at hf
    refine lv_iconst (v := 1) hx hb dX2_noUser_15 (by decide) ?_
    refine lv_goto (tgt := 20) hx hb dX2_noUser_16 (by decide) ?_
    exact P20 (1 : Int32) w H locs ls hf hH (lv_sub hl [] rfl)
  refine am_enter (lv := [(0, .ref (G.1 + 255)), (1, .int a1)]) (Nat.le_of_ble_eq_true rfl) rfl (fun ls hl => ?_)
  unfold f_X2_noUser at hf
  refine am_start hH (fun H locs hH => ?_)
  refine lv_iload_n hx hb dX2_noUser_0 rfl (lv_at hl 1 rfl) ?_
  refine lv_if_lt (tgt := 15) hx hb dX2_noUser_1 (by decide) (fun hc_4 => ?_) (fun hc_4 => ?_)
  · have hf := (if_pos hc_4).symm.trans hf
    exact P15 w H locs ls hf hH (lv_sub hl [] rfl)
  · have hf := (if_neg hc_4).symm.trans hf
    refine lv_iload_n hx hb dX2_noUser_4 rfl (lv_at hl 1 rfl) ?_
    refine lv_aload_n hx hb dX2_noUser_5 rfl (lv_at hl 0 rfl) ?_
    refine am_get hx hb hts hK hown hH (am_o2 (p := 255) (by decide +kernel)) rfl am_inX2 0 (by decide) am_q298 (v := .ref (G.1 + 11)) rfl dX2_noUser_6 ?_
    refine am_get hx hb hts hK hown hH (am_o1 (p := 11) (by decide +kernel)) rfl am_inX1 11 (by decide) am_q105 (v := .int (w.1 11 11)) rfl dX2_noUser_9 ?_
    refine lv_icmp_lt (tgt := 19) hx hb dX2_noUser_12 (by decide) (fun hc_5 => ?_) (fun hc_5 => ?_)
    · have hf := (if_pos hc_5).symm.trans hf
      refine lv_iconst (v := 0) hx hb dX2_noUser_19 (by decide) ?_
      exact P20 (0 : Int32) w H locs ls hf hH (lv_sub hl [] rfl)
    · have hf := (if_neg hc_5).symm.trans hf
      exact P15 w H locs ls hf hH (lv_sub hl [] rfl)

def f_X2_refusalOfTurn_15 (a1 : Int32) (a2 : Int32) (w : am_S) : Option (Int32 × am_S) :=
  some ((0 : Int32), w)
def f_X2_refusalOfTurn_46 (a1 : Int32) (a2 : Int32) (s0 : Int32) (w : am_S) : Option (Int32 × am_S) :=
  some (s0, w)
def f_X2_refusalOfTurn_41 (a1 : Int32) (a2 : Int32) (w : am_S) : Option (Int32 × am_S) :=
  f_X2_refusalOfTurn_46 a1 a2 (1 : Int32) w
def f_X2_refusalOfTurn (a1 : Int32) (a2 : Int32) (w : am_S) : Option (Int32 × am_S) :=
  if a2 < 0 then (f_X2_refusalOfTurn_15 a1 a2 w) else (am_b2 (f_X1_allSlots 11 w) fun r_17 w_15 => if a2 < r_17 then (am_b2 (f_X1_reachFrom 11 a1 w_15) fun r_21 w_19 => if a2 < r_21 then (f_X2_refusalOfTurn_41 a1 a2 w_19) else (am_b2 (f_X1_reachTo 11 a1 w_19) fun r_25 w_23 => if a2 < r_25 then (f_X2_refusalOfTurn_46 a1 a2 (-1 : Int32) w_23) else (f_X2_refusalOfTurn_41 a1 a2 w_23))) else (f_X2_refusalOfTurn_15 a1 a2 w_15))
set_option maxRecDepth 100000 in
set_option maxHeartbeats 4000000 in
theorem k_X2_refusalOfTurn {G : am_G} {l : Launch} {a1 : Int32} {a2 : Int32}  {w : am_S} {rr : Int32} {ww : am_S} (hf : f_X2_refusalOfTurn a1 a2 w = some (rr, ww)) : am_Mi G l yX2_refusalOfTurn (Cond.code yX2_refusalOfTurn cX2_refusalOfTurn 3 (some .int) :: am_T) { frames := 1, cells := 0, slots := 0, locals := 64 } [.ref (G.1 + 255), .int a1, .int a2] w rr ww := by
  refine Met.ofW (cc := cX2_refusalOfTurn) (maxL := 3) (ret := (some .int)) (by decide) rfl ?_
  intro p e s m args below meth c s₁ B hml hv
  obtain ⟨rfl, hx, hb, hr, hts, hown, hlocks, hK, hE, hH⟩ := am_begin B hv
  have hown : s.vm.findClass RX2 = some m.cls := hown
  show W p l e { frames := 1, cells := 0, slots := 0, locals := 64 } s m _ below meth c s.heap [] 0 0 _ _
  have P15 : ∀ (w : am_S) (H : Heap) (locs : List Loc) (ls : Array Slot), f_X2_refusalOfTurn_15 a1 a2 w = some (rr, ww) → am_H G w s H locs → lv_has ls 3 [] → W p l e { frames := 1, cells := 0, slots := 0, locals := 64 } s m [.ref (G.1 + 255), .int a1, .int a2].toArray below meth c H locs 0 0 (MQ below (va_Qi (fun (x : Int32) (u : am_S) => x = rr ∧ u = ww) (am_U G) (am_A G)) [.ref (G.1 + 255), .int a1, .int a2].toArray s 0 0 (am_A G)) (F0 m 15 ls []) := by
    intro w H locs ls hf hH hl
    unfold f_X2_refusalOfTurn_15 at hf
    refine lv_iconst (v := 0) hx hb dX2_refusalOfTurn_15 (by decide) ?_
    exact am_reti hx hb hr hlocks hH hf dX2_refusalOfTurn_16
  have P46 : ∀ (s0 : Int32) (w : am_S) (H : Heap) (locs : List Loc) (ls : Array Slot), f_X2_refusalOfTurn_46 a1 a2 s0 w = some (rr, ww) → am_H G w s H locs → lv_has ls 3 [] → W p l e { frames := 1, cells := 0, slots := 0, locals := 64 } s m [.ref (G.1 + 255), .int a1, .int a2].toArray below meth c H locs 0 0 (MQ below (va_Qi (fun (x : Int32) (u : am_S) => x = rr ∧ u = ww) (am_U G) (am_A G)) [.ref (G.1 + 255), .int a1, .int a2].toArray s 0 0 (am_A G)) (F0 m 46 ls [.int s0]) := by
    intro s0 w H locs ls hf hH hl
    unfold f_X2_refusalOfTurn_46 at hf
    exact am_reti hx hb hr hlocks hH hf dX2_refusalOfTurn_46
  have P41 : ∀ (w : am_S) (H : Heap) (locs : List Loc) (ls : Array Slot), f_X2_refusalOfTurn_41 a1 a2 w = some (rr, ww) → am_H G w s H locs → lv_has ls 3 [] → W p l e { frames := 1, cells := 0, slots := 0, locals := 64 } s m [.ref (G.1 + 255), .int a1, .int a2].toArray below meth c H locs 0 0 (MQ below (va_Qi (fun (x : Int32) (u : am_S) => x = rr ∧ u = ww) (am_U G) (am_A G)) [.ref (G.1 + 255), .int a1, .int a2].toArray s 0 0 (am_A G)) (F0 m 41 ls []) := by
    intro w H locs ls hf hH hl
    unfold f_X2_refusalOfTurn_41 at hf
    refine lv_iconst (v := 1) hx hb dX2_refusalOfTurn_41 (by decide) ?_
    refine lv_goto (tgt := 46) hx hb dX2_refusalOfTurn_42 (by decide) ?_
    exact P46 (1 : Int32) w H locs ls hf hH (lv_sub hl [] rfl)
  refine am_enter (lv := [(0, .ref (G.1 + 255)), (1, .int a1), (2, .int a2)]) (Nat.le_of_ble_eq_true rfl) rfl (fun ls hl => ?_)
  unfold f_X2_refusalOfTurn at hf
  refine am_start hH (fun H locs hH => ?_)
  refine lv_iload_n hx hb dX2_refusalOfTurn_0 rfl (lv_at hl 2 rfl) ?_
  refine lv_if_lt (tgt := 15) hx hb dX2_refusalOfTurn_1 (by decide) (fun hc_14 => ?_) (fun hc_14 => ?_)
  · have hf := (if_pos hc_14).symm.trans hf
    exact P15 w H locs ls hf hH (lv_sub hl [] rfl)
  · have hf := (if_neg hc_14).symm.trans hf
    refine lv_iload_n hx hb dX2_refusalOfTurn_4 rfl (lv_at hl 2 rfl) ?_
    refine lv_aload_n hx hb dX2_refusalOfTurn_5 rfl (lv_at hl 0 rfl) ?_
    refine am_get hx hb hts hK hown hH (am_o2 (p := 255) (by decide +kernel)) rfl am_inX2 0 (by decide) am_q298 (v := .ref (G.1 + 11)) rfl dX2_refusalOfTurn_6 ?_
    obtain ⟨r_17, w_15, hq_16, hf⟩ := am_b2_some hf
    refine am_calli (r := r_17) (w' := w_15) (am_runV (n := 0) (As := []) (rest := [.int a2]) ⟨hx, hb, hml, hown, hts⟩ hK hE hH (k_X1_allSlots (by decide +kernel) hq_16) (am_gV am_q764 am_q630 am_q631 am_q3 am_q632) (am_o1 (p := 11) (by decide +kernel)) rfl ⟨rfl, rfl⟩ (by decide +kernel) ⟨Nat.le_of_ble_eq_true rfl, Nat.le_of_ble_eq_true rfl⟩ rfl hl.1 rfl (Nat.le_of_ble_eq_true rfl) ⟨Nat.zero_le _, Nat.zero_le _⟩ dX2_refusalOfTurn_9) hH (fun H locs hH => ?_)
    refine lv_icmp_lt (tgt := 17) hx hb dX2_refusalOfTurn_12 (by decide) (fun hc_18 => ?_) (fun hc_18 => ?_)
    · have hf := (if_pos hc_18).symm.trans hf
      refine lv_iload_n hx hb dX2_refusalOfTurn_17 rfl (lv_at hl 2 rfl) ?_
      refine lv_aload_n hx hb dX2_refusalOfTurn_18 rfl (lv_at hl 0 rfl) ?_
      refine am_get hx hb hts hK hown hH (am_o2 (p := 255) (by decide +kernel)) rfl am_inX2 0 (by decide) am_q298 (v := .ref (G.1 + 11)) rfl dX2_refusalOfTurn_19 ?_
      refine lv_iload_n hx hb dX2_refusalOfTurn_22 rfl (lv_at hl 1 rfl) ?_
      obtain ⟨r_21, w_19, hq_20, hf⟩ := am_b2_some hf
      refine am_calli (r := r_21) (w' := w_19) (am_runV (n := 1) (As := [.int a1]) (rest := [.int a2]) ⟨hx, hb, hml, hown, hts⟩ hK hE hH (k_X1_reachFrom (by decide +kernel) hq_20) (am_gV am_q765 am_q601 am_q602 am_q3 am_q603) (am_o1 (p := 11) (by decide +kernel)) rfl ⟨rfl, rfl⟩ (by decide +kernel) ⟨Nat.le_of_ble_eq_true rfl, Nat.le_of_ble_eq_true rfl⟩ rfl hl.1 rfl (Nat.le_of_ble_eq_true rfl) ⟨Nat.zero_le _, Nat.zero_le _⟩ dX2_refusalOfTurn_23) hH (fun H locs hH => ?_)
      refine lv_icmp_lt (tgt := 41) hx hb dX2_refusalOfTurn_26 (by decide) (fun hc_22 => ?_) (fun hc_22 => ?_)
      · have hf := (if_pos hc_22).symm.trans hf
        exact P41 w_19 H locs ls hf hH (lv_sub hl [] rfl)
      · have hf := (if_neg hc_22).symm.trans hf
        refine lv_iload_n hx hb dX2_refusalOfTurn_29 rfl (lv_at hl 2 rfl) ?_
        refine lv_aload_n hx hb dX2_refusalOfTurn_30 rfl (lv_at hl 0 rfl) ?_
        refine am_get hx hb hts hK hown hH (am_o2 (p := 255) (by decide +kernel)) rfl am_inX2 0 (by decide) am_q298 (v := .ref (G.1 + 11)) rfl dX2_refusalOfTurn_31 ?_
        refine lv_iload_n hx hb dX2_refusalOfTurn_34 rfl (lv_at hl 1 rfl) ?_
        obtain ⟨r_25, w_23, hq_24, hf⟩ := am_b2_some hf
        refine am_calli (r := r_25) (w' := w_23) (am_runV (n := 1) (As := [.int a1]) (rest := [.int a2]) ⟨hx, hb, hml, hown, hts⟩ hK hE hH (k_X1_reachTo (by decide +kernel) hq_24) (am_gV am_q766 am_q676 am_q677 am_q3 am_q678) (am_o1 (p := 11) (by decide +kernel)) rfl ⟨rfl, rfl⟩ (by decide +kernel) ⟨Nat.le_of_ble_eq_true rfl, Nat.le_of_ble_eq_true rfl⟩ rfl hl.1 rfl (Nat.le_of_ble_eq_true rfl) ⟨Nat.zero_le _, Nat.zero_le _⟩ dX2_refusalOfTurn_35) hH (fun H locs hH => ?_)
        refine lv_icmp_lt (tgt := 45) hx hb dX2_refusalOfTurn_38 (by decide) (fun hc_26 => ?_) (fun hc_26 => ?_)
        · have hf := (if_pos hc_26).symm.trans hf
          refine lv_iconst (v := -1) hx hb dX2_refusalOfTurn_45 (by decide) ?_
          exact P46 (-1 : Int32) w_23 H locs ls hf hH (lv_sub hl [] rfl)
        · have hf := (if_neg hc_26).symm.trans hf
          exact P41 w_23 H locs ls hf hH (lv_sub hl [] rfl)
    · have hf := (if_neg hc_18).symm.trans hf
      exact P15 w_15 H locs ls hf hH (lv_sub hl [] rfl)

def f_X2_refusalOfSwap_54 (o1 : Nat) (a2 : Int32) (a3 : Int32) (s0 : Int32) (w : am_S) : Option (Int32 × am_S) :=
  some (s0, w)
def f_X2_refusalOfSwap (o1 : Nat) (a2 : Int32) (a3 : Int32) (w : am_S) : Option (Int32 × am_S) :=
  am_b2 (f_X2_noUser a3 w) fun r_13 w_11 => if r_13 = 0 then (am_chk a2 10 (am_chk a3 10 (if (w_11.1 15 a2.toNatClampNeg) = (w_11.1 15 a3.toNatClampNeg) then (am_chk a2 10 (am_chk a3 10 (if (lg_cmp (w_11.2.1 (o1 + 2) a2.toNatClampNeg) (w_11.2.1 (o1 + 2) a3.toNatClampNeg)) = 0 then (f_X2_refusalOfSwap_54 o1 a2 a3 (2 : Int32) w_11) else (f_X2_refusalOfSwap_54 o1 a2 a3 (-1 : Int32) w_11)))) else (some ((1 : Int32), w_11))))) else (some ((0 : Int32), w_11))
set_option maxRecDepth 100000 in
set_option maxHeartbeats 4000000 in
theorem k_X2_refusalOfSwap {G : am_G} {l : Launch} {o1 : Nat} {a2 : Int32} {a3 : Int32} (ho1 : am_f9 o1) {w : am_S} {rr : Int32} {ww : am_S} (hf : f_X2_refusalOfSwap o1 a2 a3 w = some (rr, ww)) : am_Mi G l yX2_refusalOfSwap (Cond.code yX2_refusalOfSwap cX2_refusalOfSwap 4 (some .int) :: am_T) { frames := 1, cells := 0, slots := 0, locals := 64 } [.ref (G.1 + 255), .ref (G.1 + o1), .int a2, .int a3] w rr ww := by
  refine Met.ofW (cc := cX2_refusalOfSwap) (maxL := 4) (ret := (some .int)) (by decide) rfl ?_
  intro p e s m args below meth c s₁ B hml hv
  obtain ⟨rfl, hx, hb, hr, hts, hown, hlocks, hK, hE, hH⟩ := am_begin B hv
  have hown : s.vm.findClass RX2 = some m.cls := hown
  show W p l e { frames := 1, cells := 0, slots := 0, locals := 64 } s m _ below meth c s.heap [] 0 0 _ _
  have P54 : ∀ (s0 : Int32) (w : am_S) (H : Heap) (locs : List Loc) (ls : Array Slot), f_X2_refusalOfSwap_54 o1 a2 a3 s0 w = some (rr, ww) → am_H G w s H locs → lv_has ls 4 [] → W p l e { frames := 1, cells := 0, slots := 0, locals := 64 } s m [.ref (G.1 + 255), .ref (G.1 + o1), .int a2, .int a3].toArray below meth c H locs 0 0 (MQ below (va_Qi (fun (x : Int32) (u : am_S) => x = rr ∧ u = ww) (am_U G) (am_A G)) [.ref (G.1 + 255), .ref (G.1 + o1), .int a2, .int a3].toArray s 0 0 (am_A G)) (F0 m 54 ls [.int s0]) := by
    intro s0 w H locs ls hf hH hl
    unfold f_X2_refusalOfSwap_54 at hf
    exact am_reti hx hb hr hlocks hH hf dX2_refusalOfSwap_54
  refine am_enter (lv := [(0, .ref (G.1 + 255)), (1, .ref (G.1 + o1)), (2, .int a2), (3, .int a3)]) (Nat.le_of_ble_eq_true rfl) rfl (fun ls hl => ?_)
  unfold f_X2_refusalOfSwap at hf
  refine am_start hH (fun H locs hH => ?_)
  refine lv_aload_n hx hb dX2_refusalOfSwap_0 rfl (lv_at hl 0 rfl) ?_
  refine lv_iload_n hx hb dX2_refusalOfSwap_1 rfl (lv_at hl 3 rfl) ?_
  obtain ⟨r_13, w_11, hq_12, hf⟩ := am_b2_some hf
  refine am_calli (r := r_13) (w' := w_11) (am_runV (n := 1) (As := [.int a3]) (rest := []) ⟨hx, hb, hml, hown, hts⟩ hK hE hH (k_X2_noUser hq_12) (am_gV am_q752 am_q754 am_qs20 am_q10 am_q755) (am_o2 (p := 255) (by decide +kernel)) rfl ⟨rfl, rfl⟩ (by decide +kernel) ⟨Nat.le_of_ble_eq_true rfl, Nat.le_of_ble_eq_true rfl⟩ rfl hl.1 rfl (Nat.le_of_ble_eq_true rfl) ⟨Nat.zero_le _, Nat.zero_le _⟩ dX2_refusalOfSwap_2) hH (fun H locs hH => ?_)
  refine lv_if_eq (tgt := 10) hx hb dX2_refusalOfSwap_5 (by decide) (fun hc_14 => ?_) (fun hc_14 => ?_)
  · have hf := (if_pos hc_14).symm.trans hf
    refine lv_aload_n hx hb dX2_refusalOfSwap_10 rfl (lv_at hl 0 rfl) ?_
    refine am_get hx hb hts hK hown hH (am_o2 (p := 255) (by decide +kernel)) rfl am_inX2 0 (by decide) am_q298 (v := .ref (G.1 + 11)) rfl dX2_refusalOfSwap_11 ?_
    refine am_get hx hb hts hK hown hH (am_o1 (p := 11) (by decide +kernel)) rfl am_inX1 3 (by decide) am_q79 (v := .ref (G.1 + 15)) rfl dX2_refusalOfSwap_14 ?_
    refine lv_iload_n hx hb dX2_refusalOfSwap_17 rfl (lv_at hl 2 rfl) ?_
    obtain ⟨hi_15, hf⟩ := am_chk_some hf
    refine am_iald hx hb hK hH (am_ai_of (N := 10) (by decide +kernel)) hi_15 dX2_refusalOfSwap_18 ?_
    refine lv_aload_n hx hb dX2_refusalOfSwap_19 rfl (lv_at hl 0 rfl) ?_
    refine am_get hx hb hts hK hown hH (am_o2 (p := 255) (by decide +kernel)) rfl am_inX2 0 (by decide) am_q298 (v := .ref (G.1 + 11)) rfl dX2_refusalOfSwap_20 ?_
    refine am_get hx hb hts hK hown hH (am_o1 (p := 11) (by decide +kernel)) rfl am_inX1 3 (by decide) am_q79 (v := .ref (G.1 + 15)) rfl dX2_refusalOfSwap_23 ?_
    refine lv_iload_n hx hb dX2_refusalOfSwap_26 rfl (lv_at hl 3 rfl) ?_
    obtain ⟨hi_16, hf⟩ := am_chk_some hf
    refine am_iald hx hb hK hH (am_ai_of (N := 10) (by decide +kernel)) hi_16 dX2_refusalOfSwap_27 ?_
    refine lv_icmp_eq (tgt := 33) hx hb dX2_refusalOfSwap_28 (by decide) (fun hc_17 => ?_) (fun hc_17 => ?_)
    · have hf := (if_pos hc_17).symm.trans hf
      refine lv_aload_n hx hb dX2_refusalOfSwap_33 rfl (lv_at hl 1 rfl) ?_
      refine am_get hx hb hts hK hown hH (am_o9 ho1.1) rfl am_inX9 1 (by decide) am_q178 (v := .ref (G.1 + (o1 + 2))) rfl dX2_refusalOfSwap_34 ?_
      refine lv_iload_n hx hb dX2_refusalOfSwap_37 rfl (lv_at hl 2 rfl) ?_
      obtain ⟨hi_18, hf⟩ := am_chk_some hf
      refine am_lald hx hb hK hH (am_al_of (N := 10) ho1.2.2.1) hi_18 dX2_refusalOfSwap_38 ?_
      refine lv_aload_n hx hb dX2_refusalOfSwap_39 rfl (lv_at hl 1 rfl) ?_
      refine am_get hx hb hts hK hown hH (am_o9 ho1.1) rfl am_inX9 1 (by decide) am_q178 (v := .ref (G.1 + (o1 + 2))) rfl dX2_refusalOfSwap_40 ?_
      refine lv_iload_n hx hb dX2_refusalOfSwap_43 rfl (lv_at hl 3 rfl) ?_
      obtain ⟨hi_19, hf⟩ := am_chk_some hf
      refine am_lald hx hb hK hH (am_al_of (N := 10) ho1.2.2.1) hi_19 dX2_refusalOfSwap_44 ?_
      refine W.lcmp hx hb dX2_refusalOfSwap_45 ?_
      refine lv_if_ne (tgt := 53) hx hb dX2_refusalOfSwap_46 (by decide) (fun hc_20 => ?_) (fun hc_20 => ?_)
      · have hf := (if_neg hc_20).symm.trans hf
        refine lv_iconst (v := -1) hx hb dX2_refusalOfSwap_53 (by decide) ?_
        exact P54 (-1 : Int32) w_11 H locs ls hf hH (lv_sub hl [] rfl)
      · have hf := (if_pos hc_20).symm.trans hf
        refine lv_iconst (v := 2) hx hb dX2_refusalOfSwap_49 (by decide) ?_
        refine lv_goto (tgt := 54) hx hb dX2_refusalOfSwap_50 (by decide) ?_
        exact P54 (2 : Int32) w_11 H locs ls hf hH (lv_sub hl [] rfl)
    · have hf := (if_neg hc_17).symm.trans hf
      refine lv_iconst (v := 1) hx hb dX2_refusalOfSwap_31 (by decide) ?_
      exact am_reti hx hb hr hlocks hH hf dX2_refusalOfSwap_32
  · have hf := (if_neg hc_14).symm.trans hf
    refine lv_iconst (v := 0) hx hb dX2_refusalOfSwap_8 (by decide) ?_
    exact am_reti hx hb hr hlocks hH hf dX2_refusalOfSwap_9

def f_X2_refusalOfUserAct_98 (o1 : Nat) (a2 : Int32) (a3 : Int32) (a4 : Int32) (w : am_S) : Option (Int32 × am_S) :=
  am_b2 (f_X2_refusalOfSwap o1 a3 a4 w) fun r_23 w_21 => some (r_23, w_21)
def f_X2_refusalOfUserAct_58 (o1 : Nat) (a2 : Int32) (a3 : Int32) (a4 : Int32) (s0 : Int32) (w : am_S) : Option (Int32 × am_S) :=
  some (s0, w)
def f_X2_refusalOfUserAct_73 (o1 : Nat) (a2 : Int32) (a3 : Int32) (a4 : Int32) (s0 : Int32) (w : am_S) : Option (Int32 × am_S) :=
  some (s0, w)
def f_X2_refusalOfUserAct_97 (o1 : Nat) (a2 : Int32) (a3 : Int32) (a4 : Int32) (s0 : Int32) (w : am_S) : Option (Int32 × am_S) :=
  some (s0, w)
def f_X2_refusalOfUserAct (o1 : Nat) (a2 : Int32) (a3 : Int32) (a4 : Int32) (w : am_S) : Option (Int32 × am_S) :=
  am_b2 (f_X2_noUser a3 w) fun r_26 w_24 => if r_26 = 0 then ((if a2 = (2 : Int32) then (am_chk a3 10 (if (w_24.1 (o1 + 1) a3.toNatClampNeg) = 0 then (f_X2_refusalOfUserAct_58 o1 a2 a3 a4 (-1 : Int32) w_24) else (f_X2_refusalOfUserAct_58 o1 a2 a3 a4 (2 : Int32) w_24))) else (if a2 = (3 : Int32) then (am_chk a3 10 (if (w_24.1 (o1 + 1) a3.toNatClampNeg) = 0 then (f_X2_refusalOfUserAct_73 o1 a2 a3 a4 (2 : Int32) w_24) else (f_X2_refusalOfUserAct_73 o1 a2 a3 a4 (-1 : Int32) w_24))) else (if a2 = (4 : Int32) then (am_b2 (f_X2_refusalOfTurn a3 a4 w_24) fun r_39 w_37 => some (r_39, w_37)) else (if a2 = (5 : Int32) then (f_X2_refusalOfUserAct_98 o1 a2 a3 a4 w_24) else (if a2 = (6 : Int32) then (if (w_24.1 11 13) = 0 then (f_X2_refusalOfUserAct_97 o1 a2 a3 a4 (2 : Int32) w_24) else (f_X2_refusalOfUserAct_97 o1 a2 a3 a4 (-1 : Int32) w_24)) else (f_X2_refusalOfUserAct_98 o1 a2 a3 a4 w_24))))))) else (some ((0 : Int32), w_24))
set_option maxRecDepth 100000 in
set_option maxHeartbeats 4000000 in
theorem k_X2_refusalOfUserAct {G : am_G} {l : Launch} {o1 : Nat} {a2 : Int32} {a3 : Int32} {a4 : Int32} (ho1 : am_f9 o1) {w : am_S} {rr : Int32} {ww : am_S} (hf : f_X2_refusalOfUserAct o1 a2 a3 a4 w = some (rr, ww)) : am_Mi G l yX2_refusalOfUserAct (Cond.code yX2_refusalOfUserAct cX2_refusalOfUserAct 5 (some .int) :: am_T) { frames := 2, cells := 0, slots := 0, locals := 128 } [.ref (G.1 + 255), .ref (G.1 + o1), .int a2, .int a3, .int a4] w rr ww := by
  refine Met.ofW (cc := cX2_refusalOfUserAct) (maxL := 5) (ret := (some .int)) (by decide) rfl ?_
  intro p e s m args below meth c s₁ B hml hv
  obtain ⟨rfl, hx, hb, hr, hts, hown, hlocks, hK, hE, hH⟩ := am_begin B hv
  have hown : s.vm.findClass RX2 = some m.cls := hown
  show W p l e { frames := 2, cells := 0, slots := 0, locals := 128 } s m _ below meth c s.heap [] 0 0 _ _
  have P98 : ∀ (w : am_S) (H : Heap) (locs : List Loc) (ls : Array Slot), f_X2_refusalOfUserAct_98 o1 a2 a3 a4 w = some (rr, ww) → am_H G w s H locs → lv_has ls 5 [(0, .ref (G.1 + 255)), (1, .ref (G.1 + o1)), (3, .int a3), (4, .int a4)] → W p l e { frames := 2, cells := 0, slots := 0, locals := 128 } s m [.ref (G.1 + 255), .ref (G.1 + o1), .int a2, .int a3, .int a4].toArray below meth c H locs 0 0 (MQ below (va_Qi (fun (x : Int32) (u : am_S) => x = rr ∧ u = ww) (am_U G) (am_A G)) [.ref (G.1 + 255), .ref (G.1 + o1), .int a2, .int a3, .int a4].toArray s 0 0 (am_A G)) (F0 m 98 ls []) := by
    intro w H locs ls hf hH hl
    unfold f_X2_refusalOfUserAct_98 at hf
    refine lv_aload_n hx hb dX2_refusalOfUserAct_98 rfl (lv_at hl 0 rfl) ?_
    refine lv_aload_n hx hb dX2_refusalOfUserAct_99 rfl (lv_at hl 1 rfl) ?_
    refine lv_iload_n hx hb dX2_refusalOfUserAct_100 rfl (lv_at hl 2 rfl) ?_
    refine lv_iload hx hb dX2_refusalOfUserAct_101 (lv_at hl 3 rfl) ?_
    obtain ⟨r_23, w_21, hq_22, hf⟩ := am_b2_some hf
    refine am_calli (r := r_23) (w' := w_21) (am_runV (n := 3) (As := [.ref (G.1 + o1), .int a3, .int a4]) (rest := []) ⟨hx, hb, hml, hown, hts⟩ hK hE hH (k_X2_refusalOfSwap ho1 hq_22) (am_gV am_q767 am_q769 am_qs23 am_q10 am_q770) (am_o2 (p := 255) (by decide +kernel)) rfl ⟨rfl, rfl⟩ (by decide +kernel) ⟨Nat.le_of_ble_eq_true rfl, Nat.le_of_ble_eq_true rfl⟩ rfl hl.1 rfl (Nat.le_of_ble_eq_true rfl) ⟨Nat.zero_le _, Nat.zero_le _⟩ dX2_refusalOfUserAct_103) hH (fun H locs hH => ?_)
    exact am_reti hx hb hr hlocks hH hf dX2_refusalOfUserAct_106
  have P58 : ∀ (s0 : Int32) (w : am_S) (H : Heap) (locs : List Loc) (ls : Array Slot), f_X2_refusalOfUserAct_58 o1 a2 a3 a4 s0 w = some (rr, ww) → am_H G w s H locs → lv_has ls 5 [] → W p l e { frames := 2, cells := 0, slots := 0, locals := 128 } s m [.ref (G.1 + 255), .ref (G.1 + o1), .int a2, .int a3, .int a4].toArray below meth c H locs 0 0 (MQ below (va_Qi (fun (x : Int32) (u : am_S) => x = rr ∧ u = ww) (am_U G) (am_A G)) [.ref (G.1 + 255), .ref (G.1 + o1), .int a2, .int a3, .int a4].toArray s 0 0 (am_A G)) (F0 m 58 ls [.int s0]) := by
    intro s0 w H locs ls hf hH hl
    unfold f_X2_refusalOfUserAct_58 at hf
    exact am_reti hx hb hr hlocks hH hf dX2_refusalOfUserAct_58
  have P73 : ∀ (s0 : Int32) (w : am_S) (H : Heap) (locs : List Loc) (ls : Array Slot), f_X2_refusalOfUserAct_73 o1 a2 a3 a4 s0 w = some (rr, ww) → am_H G w s H locs → lv_has ls 5 [] → W p l e { frames := 2, cells := 0, slots := 0, locals := 128 } s m [.ref (G.1 + 255), .ref (G.1 + o1), .int a2, .int a3, .int a4].toArray below meth c H locs 0 0 (MQ below (va_Qi (fun (x : Int32) (u : am_S) => x = rr ∧ u = ww) (am_U G) (am_A G)) [.ref (G.1 + 255), .ref (G.1 + o1), .int a2, .int a3, .int a4].toArray s 0 0 (am_A G)) (F0 m 73 ls [.int s0]) := by
    intro s0 w H locs ls hf hH hl
    unfold f_X2_refusalOfUserAct_73 at hf
    exact am_reti hx hb hr hlocks hH hf dX2_refusalOfUserAct_73
  have P97 : ∀ (s0 : Int32) (w : am_S) (H : Heap) (locs : List Loc) (ls : Array Slot), f_X2_refusalOfUserAct_97 o1 a2 a3 a4 s0 w = some (rr, ww) → am_H G w s H locs → lv_has ls 5 [] → W p l e { frames := 2, cells := 0, slots := 0, locals := 128 } s m [.ref (G.1 + 255), .ref (G.1 + o1), .int a2, .int a3, .int a4].toArray below meth c H locs 0 0 (MQ below (va_Qi (fun (x : Int32) (u : am_S) => x = rr ∧ u = ww) (am_U G) (am_A G)) [.ref (G.1 + 255), .ref (G.1 + o1), .int a2, .int a3, .int a4].toArray s 0 0 (am_A G)) (F0 m 97 ls [.int s0]) := by
    intro s0 w H locs ls hf hH hl
    unfold f_X2_refusalOfUserAct_97 at hf
    exact am_reti hx hb hr hlocks hH hf dX2_refusalOfUserAct_97
  refine am_enter (lv := [(0, .ref (G.1 + 255)), (1, .ref (G.1 + o1)), (2, .int a2), (3, .int a3), (4, .int a4)]) (Nat.le_of_ble_eq_true rfl) rfl (fun ls hl => ?_)
  unfold f_X2_refusalOfUserAct at hf
  refine am_start hH (fun H locs hH => ?_)
  refine lv_aload_n hx hb dX2_refusalOfUserAct_0 rfl (lv_at hl 0 rfl) ?_
  refine lv_iload_n hx hb dX2_refusalOfUserAct_1 rfl (lv_at hl 3 rfl) ?_
  obtain ⟨r_26, w_24, hq_25, hf⟩ := am_b2_some hf
  refine am_calli (r := r_26) (w' := w_24) (am_runV (n := 1) (As := [.int a3]) (rest := []) ⟨hx, hb, hml, hown, hts⟩ hK hE hH (k_X2_noUser hq_25) (am_gV am_q752 am_q754 am_qs20 am_q10 am_q755) (am_o2 (p := 255) (by decide +kernel)) rfl ⟨rfl, rfl⟩ (by decide +kernel) ⟨Nat.le_of_ble_eq_true rfl, Nat.le_of_ble_eq_true rfl⟩ rfl hl.1 rfl (Nat.le_of_ble_eq_true rfl) ⟨Nat.zero_le _, Nat.zero_le _⟩ dX2_refusalOfUserAct_2) hH (fun H locs hH => ?_)
  refine lv_if_eq (tgt := 10) hx hb dX2_refusalOfUserAct_5 (by decide) (fun hc_27 => ?_) (fun hc_27 => ?_)
  · have hf := (if_pos hc_27).symm.trans hf
    refine lv_iload_n hx hb dX2_refusalOfUserAct_10 rfl (lv_at hl 2 rfl) ?_
    by_cases he_28 : a2 = (2 : Int32)
    · have hf := (if_pos he_28).symm.trans hf
      refine lv_tableIn (off := 33) (tgt := 44) hx hb dX2_refusalOfUserAct_11 (by rw [he_28]; decide) (by rw [he_28]; decide) (by rw [he_28]; rfl) (by decide) ?_
      refine lv_aload_n hx hb dX2_refusalOfUserAct_44 rfl (lv_at hl 1 rfl) ?_
      refine am_get hx hb hts hK hown hH (am_o9 ho1.1) rfl am_inX9 0 (by decide) am_q175 (v := .ref (G.1 + (o1 + 1))) rfl dX2_refusalOfUserAct_45 ?_
      refine lv_iload_n hx hb dX2_refusalOfUserAct_48 rfl (lv_at hl 3 rfl) ?_
      obtain ⟨hi_33, hf⟩ := am_chk_some hf
      refine am_iald hx hb hK hH (am_ai_of (N := 10) ho1.2.1) hi_33 dX2_refusalOfUserAct_49 ?_
      refine lv_if_ne (tgt := 57) hx hb dX2_refusalOfUserAct_50 (by decide) (fun hc_34 => ?_) (fun hc_34 => ?_)
      · have hf := (if_neg hc_34).symm.trans hf
        refine lv_iconst (v := 2) hx hb dX2_refusalOfUserAct_57 (by decide) ?_
        exact P58 (2 : Int32) w_24 H locs ls hf hH (lv_sub hl [] rfl)
      · have hf := (if_pos hc_34).symm.trans hf
        refine lv_iconst (v := -1) hx hb dX2_refusalOfUserAct_53 (by decide) ?_
        refine lv_goto (tgt := 58) hx hb dX2_refusalOfUserAct_54 (by decide) ?_
        exact P58 (-1 : Int32) w_24 H locs ls hf hH (lv_sub hl [] rfl)
    have hf := (if_neg he_28).symm.trans hf
    by_cases he_29 : a2 = (3 : Int32)
    · have hf := (if_pos he_29).symm.trans hf
      refine lv_tableIn (off := 48) (tgt := 59) hx hb dX2_refusalOfUserAct_11 (by rw [he_29]; decide) (by rw [he_29]; decide) (by rw [he_29]; rfl) (by decide) ?_
      refine lv_aload_n hx hb dX2_refusalOfUserAct_59 rfl (lv_at hl 1 rfl) ?_
      refine am_get hx hb hts hK hown hH (am_o9 ho1.1) rfl am_inX9 0 (by decide) am_q175 (v := .ref (G.1 + (o1 + 1))) rfl dX2_refusalOfUserAct_60 ?_
      refine lv_iload_n hx hb dX2_refusalOfUserAct_63 rfl (lv_at hl 3 rfl) ?_
      obtain ⟨hi_35, hf⟩ := am_chk_some hf
      refine am_iald hx hb hK hH (am_ai_of (N := 10) ho1.2.1) hi_35 dX2_refusalOfUserAct_64 ?_
      refine lv_if_ne (tgt := 72) hx hb dX2_refusalOfUserAct_65 (by decide) (fun hc_36 => ?_) (fun hc_36 => ?_)
      · have hf := (if_neg hc_36).symm.trans hf
        refine lv_iconst (v := -1) hx hb dX2_refusalOfUserAct_72 (by decide) ?_
        exact P73 (-1 : Int32) w_24 H locs ls hf hH (lv_sub hl [] rfl)
      · have hf := (if_pos hc_36).symm.trans hf
        refine lv_iconst (v := 2) hx hb dX2_refusalOfUserAct_68 (by decide) ?_
        refine lv_goto (tgt := 73) hx hb dX2_refusalOfUserAct_69 (by decide) ?_
        exact P73 (2 : Int32) w_24 H locs ls hf hH (lv_sub hl [] rfl)
    have hf := (if_neg he_29).symm.trans hf
    by_cases he_30 : a2 = (4 : Int32)
    · have hf := (if_pos he_30).symm.trans hf
      refine lv_tableIn (off := 63) (tgt := 74) hx hb dX2_refusalOfUserAct_11 (by rw [he_30]; decide) (by rw [he_30]; decide) (by rw [he_30]; rfl) (by decide) ?_
      refine lv_aload_n hx hb dX2_refusalOfUserAct_74 rfl (lv_at hl 0 rfl) ?_
      refine lv_iload_n hx hb dX2_refusalOfUserAct_75 rfl (lv_at hl 3 rfl) ?_
      refine lv_iload hx hb dX2_refusalOfUserAct_76 (lv_at hl 4 rfl) ?_
      obtain ⟨r_39, w_37, hq_38, hf⟩ := am_b2_some hf
      refine am_calli (r := r_39) (w' := w_37) (am_runV (n := 2) (As := [.int a3, .int a4]) (rest := []) ⟨hx, hb, hml, hown, hts⟩ hK hE hH (k_X2_refusalOfTurn hq_38) (am_gV am_q760 am_q762 am_qs22 am_q10 am_q763) (am_o2 (p := 255) (by decide +kernel)) rfl ⟨rfl, rfl⟩ (by decide +kernel) ⟨Nat.le_of_ble_eq_true rfl, Nat.le_of_ble_eq_true rfl⟩ rfl hl.1 rfl (Nat.le_of_ble_eq_true rfl) ⟨Nat.zero_le _, Nat.zero_le _⟩ dX2_refusalOfUserAct_78) hH (fun H locs hH => ?_)
      exact am_reti hx hb hr hlocks hH hf dX2_refusalOfUserAct_81
    have hf := (if_neg he_30).symm.trans hf
    by_cases he_31 : a2 = (5 : Int32)
    · have hf := (if_pos he_31).symm.trans hf
      refine lv_tableIn (off := 87) (tgt := 98) hx hb dX2_refusalOfUserAct_11 (by rw [he_31]; decide) (by rw [he_31]; decide) (by rw [he_31]; rfl) (by decide) ?_
      exact P98 w_24 H locs ls hf hH (lv_sub hl [0, 1, 3, 4] rfl)
    have hf := (if_neg he_31).symm.trans hf
    by_cases he_32 : a2 = (6 : Int32)
    · have hf := (if_pos he_32).symm.trans hf
      refine lv_tableIn (off := 71) (tgt := 82) hx hb dX2_refusalOfUserAct_11 (by rw [he_32]; decide) (by rw [he_32]; decide) (by rw [he_32]; rfl) (by decide) ?_
      refine lv_aload_n hx hb dX2_refusalOfUserAct_82 rfl (lv_at hl 0 rfl) ?_
      refine am_get hx hb hts hK hown hH (am_o2 (p := 255) (by decide +kernel)) rfl am_inX2 0 (by decide) am_q298 (v := .ref (G.1 + 11)) rfl dX2_refusalOfUserAct_83 ?_
      refine am_get hx hb hts hK hown hH (am_o1 (p := 11) (by decide +kernel)) rfl am_inX1 13 (by decide) am_q111 (v := .int (w_24.1 11 13)) rfl dX2_refusalOfUserAct_86 ?_
      refine lv_if_ne (tgt := 96) hx hb dX2_refusalOfUserAct_89 (by decide) (fun hc_40 => ?_) (fun hc_40 => ?_)
      · have hf := (if_neg hc_40).symm.trans hf
        refine lv_iconst (v := -1) hx hb dX2_refusalOfUserAct_96 (by decide) ?_
        exact P97 (-1 : Int32) w_24 H locs ls hf hH (lv_sub hl [] rfl)
      · have hf := (if_pos hc_40).symm.trans hf
        refine lv_iconst (v := 2) hx hb dX2_refusalOfUserAct_92 (by decide) ?_
        refine lv_goto (tgt := 97) hx hb dX2_refusalOfUserAct_93 (by decide) ?_
        exact P97 (2 : Int32) w_24 H locs ls hf hH (lv_sub hl [] rfl)
    have hf := (if_neg he_32).symm.trans hf
    have nhe_28 := am_tne (k := 2) (2 : Int32) (by decide) he_28
    have nhe_29 := am_tne (k := 3) (3 : Int32) (by decide) he_29
    have nhe_30 := am_tne (k := 4) (4 : Int32) (by decide) he_30
    have nhe_31 := am_tne (k := 5) (5 : Int32) (by decide) he_31
    have nhe_32 := am_tne (k := 6) (6 : Int32) (by decide) he_32
    refine lv_tableOut (tgt := 98) hx hb dX2_refusalOfUserAct_11 (by omega) (by decide) ?_
    exact P98 w_24 H locs ls hf hH (lv_sub hl [0, 1, 3, 4] rfl)
  · have hf := (if_neg hc_27).symm.trans hf
    refine lv_iconst (v := 0) hx hb dX2_refusalOfUserAct_8 (by decide) ?_
    exact am_reti hx hb hr hlocks hH hf dX2_refusalOfUserAct_9
