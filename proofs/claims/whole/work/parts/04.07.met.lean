/-! functions and contracts of methods, by program (wip/whole/gen.py) -/
def f_X6_roundsTillStuck_10b  (x1 : Int32) (x2 : Int32) (w : am_S) : Option ((Int32 × am_S) ⊕ (Int32 × Int32 × am_S)) :=
  if (10 : Int32) < x2 then (am_x (some ((10 : Int32), w))) else (am_b2 (f_X7_clearAnywhere x1 w) fun r_13 w_11 => if r_13 = 0 then (am_x (some (x2, w_11))) else (am_v (x1 &&& (r_13 ^^^ (-1 : Int32))) fun (x1_15 : Int32) => am_v (x2 + (1 : Int32)) fun (x2_16 : Int32) => some (.inr (x1_15, x2_16, w_11))))
def f_X6_roundsTillStuck_10  (x1 : Int32) (x2 : Int32) (w : am_S) : Option (Int32 × am_S) :=
  am_loop (fun (st : (Int32 × Int32 × am_S)) => f_X6_roundsTillStuck_10b st.1 st.2.1 st.2.2) am_fuel (x1, x2, w)
def f_X6_roundsTillStuck  (w : am_S) : Option (Int32 × am_S) :=
  am_v (w.1 250 6) fun (x1_18 : Int32) => f_X6_roundsTillStuck_10 x1_18 (0 : Int32) w
set_option maxRecDepth 100000 in
set_option maxHeartbeats 4000000 in
theorem k_X6_roundsTillStuck {G : am_G} {l : Launch}   {w : am_S} {rr : Int32} {ww : am_S} (hf : f_X6_roundsTillStuck  w = some (rr, ww)) : am_Mi G l yX6_roundsTillStuck (Cond.code yX6_roundsTillStuck cX6_roundsTillStuck 4 (some .int) :: am_T) { frames := 3, cells := 0, slots := 0, locals := 192 } [.ref (G.1 + 257)] w rr ww := by
  refine Met.ofW (cc := cX6_roundsTillStuck) (maxL := 4) (ret := (some .int)) (by decide) rfl ?_
  intro p e s m args below meth c s₁ B hml hv
  obtain ⟨rfl, hx, hb, hr, hts, hown, hlocks, hK, hE, hH⟩ := am_begin B hv
  have hown : s.vm.findClass RX6 = some m.cls := hown
  show W p l e { frames := 3, cells := 0, slots := 0, locals := 192 } s m _ below meth c s.heap [] 0 0 _ _
  have P10 : ∀ (n1 : Nat) (x1 : Int32) (x2 : Int32) (w : am_S) (H : Heap) (locs : List Loc) (ls : Array Slot), am_loop (fun (st : (Int32 × Int32 × am_S)) => f_X6_roundsTillStuck_10b st.1 st.2.1 st.2.2) n1 (x1, x2, w) = some (rr, ww) → am_H G w s H locs → lv_has ls 4 [(0, .ref (G.1 + 257)), (1, .int x1), (2, .int x2)] → W p l e { frames := 3, cells := 0, slots := 0, locals := 192 } s m [.ref (G.1 + 257)].toArray below meth c H locs 0 0 (MQ below (va_Qi (fun (x : Int32) (u : am_S) => x = rr ∧ u = ww) (am_U G) (am_A G)) [.ref (G.1 + 257)].toArray s 0 0 (am_A G)) (F0 m 10 ls []) := by
    intro n1
    induction n1 with
    | zero =>
      intro x1 x2 w H locs ls hf hH hl
      exact (am_loop_zero hf).elim
    | succ n1 ih1 =>
      intro x1 x2 w H locs ls hf hH hl
      obtain ⟨z1, hf, hk1⟩ := am_loop_succ hf
      have hf : f_X6_roundsTillStuck_10b x1 x2 w = some z1 := hf
      unfold f_X6_roundsTillStuck_10b at hf
      refine lv_iload_n hx hb dX6_roundsTillStuck_10 rfl (lv_at hl 2 rfl) ?_
      refine lv_bipush (v := 10) hx hb dX6_roundsTillStuck_11 (by decide) ?_
      refine lv_icmp_gt (tgt := 43) hx hb dX6_roundsTillStuck_13 (by decide) (fun hc_9 => ?_) (fun hc_9 => ?_)
      · have hf := (if_pos hc_9).symm.trans hf
        obtain ⟨y_10, hf, hzy_10⟩ := am_x_some hf
        rw [hzy_10] at hk1
        have hf := hf.trans (congrArg some (show y_10 = (rr, ww) from hk1))
        refine lv_bipush (v := 10) hx hb dX6_roundsTillStuck_43 (by decide) ?_
        exact am_reti hx hb hr hlocks hH hf dX6_roundsTillStuck_45
      · have hf := (if_neg hc_9).symm.trans hf
        refine lv_aload_n hx hb dX6_roundsTillStuck_16 rfl (lv_at hl 0 rfl) ?_
        refine am_get hx hb hts hK hown hH (am_o6 (p := 257) (by decide +kernel)) rfl am_inX6 1 (by decide) am_q315 (v := .ref (G.1 + 250)) rfl dX6_roundsTillStuck_17 ?_
        refine lv_iload_n hx hb dX6_roundsTillStuck_20 rfl (lv_at hl 1 rfl) ?_
        obtain ⟨r_13, w_11, hq_12, hf⟩ := am_b2_some hf
        refine am_calli (r := r_13) (w' := w_11) (am_runV (n := 1) (As := [.int x1]) (rest := []) ⟨hx, hb, hml, hown, hts⟩ hK hE hH (k_X7_clearAnywhere hq_12) (am_gV am_q947 am_q739 am_q740 am_q9 am_q741) (am_o7 (p := 250) (by decide +kernel)) rfl ⟨rfl, rfl⟩ (by decide +kernel) ⟨Nat.le_of_ble_eq_true rfl, Nat.le_of_ble_eq_true rfl⟩ rfl hl.1 rfl (Nat.le_of_ble_eq_true rfl) ⟨Nat.zero_le _, Nat.zero_le _⟩ dX6_roundsTillStuck_21) hH (fun H locs hH => ?_)
        refine lv_istore_n (lv' := [(3, .int r_13), (0, .ref (G.1 + 257)), (1, .int x1), (2, .int x2)]) hx hb dX6_roundsTillStuck_24 rfl hl (by decide) rfl (fun ls hl => ?_)
        refine lv_iload_n hx hb dX6_roundsTillStuck_25 rfl (lv_at hl 0 rfl) ?_
        refine lv_if_ne (tgt := 31) hx hb dX6_roundsTillStuck_26 (by decide) (fun hc_14 => ?_) (fun hc_14 => ?_)
        · have hf := (if_neg hc_14).symm.trans hf
          refine lv_iload_n hx hb dX6_roundsTillStuck_31 rfl (lv_at hl 2 rfl) ?_
          refine lv_iload_n hx hb dX6_roundsTillStuck_32 rfl (lv_at hl 0 rfl) ?_
          refine lv_iconst (v := -1) hx hb dX6_roundsTillStuck_33 (by decide) ?_
          refine lv_ixor hx hb dX6_roundsTillStuck_34 ?_
          refine lv_iand hx hb dX6_roundsTillStuck_35 ?_
          obtain ⟨x1_15, hx1_15, hf⟩ := am_v_some hf
          refine am_topi hx1_15 ?_
          refine lv_istore_n (lv' := [(1, .int x1_15), (3, .int r_13), (0, .ref (G.1 + 257)), (2, .int x2)]) hx hb dX6_roundsTillStuck_36 rfl hl (by decide) rfl (fun ls hl => ?_)
          obtain ⟨x2_16, hx2_16, hf⟩ := am_v_some hf
          refine lv_iinc (v := x2_16) (lv' := [(2, .int x2_16), (1, .int x1_15), (3, .int r_13), (0, .ref (G.1 + 257))]) hx hb dX6_roundsTillStuck_37 hl (k := 3) rfl (by rw [hx2_16]; rfl) (by decide) rfl (fun ls hl => ?_)
          refine lv_goto (tgt := 10) hx hb dX6_roundsTillStuck_40 (by decide) ?_
          obtain rfl := Option.some.inj hf
          exact ih1 x1_15 x2_16 w_11 H locs ls hk1 hH (lv_sub hl [3, 1, 0] rfl)
        · have hf := (if_pos hc_14).symm.trans hf
          obtain ⟨y_17, hf, hzy_17⟩ := am_x_some hf
          rw [hzy_17] at hk1
          have hf := hf.trans (congrArg some (show y_17 = (rr, ww) from hk1))
          refine lv_iload_n hx hb dX6_roundsTillStuck_29 rfl (lv_at hl 3 rfl) ?_
          exact am_reti hx hb hr hlocks hH hf dX6_roundsTillStuck_30
  refine am_enter (lv := [(0, .ref (G.1 + 257))]) (Nat.le_of_ble_eq_true rfl) rfl (fun ls hl => ?_)
  unfold f_X6_roundsTillStuck at hf
  refine am_start hH (fun H locs hH => ?_)
  refine lv_aload_n hx hb dX6_roundsTillStuck_0 rfl (lv_at hl 0 rfl) ?_
  refine am_get hx hb hts hK hown hH (am_o6 (p := 257) (by decide +kernel)) rfl am_inX6 1 (by decide) am_q315 (v := .ref (G.1 + 250)) rfl dX6_roundsTillStuck_1 ?_
  refine am_get hx hb hts hK hown hH (am_o7 (p := 250) (by decide +kernel)) rfl am_inX7 6 (by decide) am_q270 (v := .int (w.1 250 6)) rfl dX6_roundsTillStuck_4 ?_
  obtain ⟨x1_18, hx1_18, hf⟩ := am_v_some hf
  refine am_topi hx1_18 ?_
  refine lv_istore_n (lv' := [(1, .int x1_18), (0, .ref (G.1 + 257))]) hx hb dX6_roundsTillStuck_7 rfl hl (by decide) rfl (fun ls hl => ?_)
  refine lv_iconst (v := 0) hx hb dX6_roundsTillStuck_8 (by decide) ?_
  refine lv_istore_n (lv' := [(2, .int (0 : Int32)), (1, .int x1_18), (0, .ref (G.1 + 257))]) hx hb dX6_roundsTillStuck_9 rfl hl (by decide) rfl (fun ls hl => ?_)
  exact P10 am_fuel x1_18 (0 : Int32) w H locs ls hf hH (lv_sub hl [2, 1, 0] rfl)

def f_X11_solved_16 (a1 : Int32) (w : am_S) : Option (Int32 × am_S) :=
  some ((-1 : Int32), w)
def f_X11_solved_79 (a1 : Int32) (s0 : Int32) (w : am_S) : Option (Int32 × am_S) :=
  some (s0, w)
def f_X11_solved (a1 : Int32) (w : am_S) : Option (Int32 × am_S) :=
  am_b2 (f_X11_noField w) fun r_26 w_24 => if r_26 = 0 then (if a1 < 0 then (f_X11_solved_16 a1 w_24) else (if a1 ≤ (2 : Int32) then (am_b1 (f_X7_lookAt 23 w_24) fun w_30 => if a1 = (2 : Int32) then (am_b2 (f_X6_roundsTillStuck w_30) fun r_46 w_44 => some (r_46, w_44)) else (am_b2 (f_X1_everyone 11 w_30) fun r_35 w_33 => am_b2 (f_X7_stuckOf (w_33.1 250 6) w_33) fun r_38 w_36 => am_v (r_35 &&& (r_38 ^^^ (-1 : Int32))) fun (x2_39 : Int32) => if a1 = 0 then (am_b2 (f_J6_bitCount_0f7a4 x2_39 w_36) fun r_43 w_41 => f_X11_solved_79 a1 r_43 w_41) else (f_X11_solved_79 a1 x2_39 w_36))) else (f_X11_solved_16 a1 w_24))) else (f_X11_solved_16 a1 w_24)
set_option maxRecDepth 100000 in
set_option maxHeartbeats 4000000 in
theorem k_X11_solved {G : am_G} {l : Launch} {a1 : Int32}  {w : am_S} {rr : Int32} {ww : am_S} (hf : f_X11_solved a1 w = some (rr, ww)) : am_Mi G l yX11_solved (Cond.code yX11_solved cX11_solved 3 (some .int) :: am_T) { frames := 4, cells := 0, slots := 0, locals := 256 } [.ref (G.1 + 0), .int a1] w rr ww := by
  refine Met.ofW (cc := cX11_solved) (maxL := 3) (ret := (some .int)) (by decide) rfl ?_
  intro p e s m args below meth c s₁ B hml hv
  obtain ⟨rfl, hx, hb, hr, hts, hown, hlocks, hK, hE, hH⟩ := am_begin B hv
  have hown : s.vm.findClass RX11 = some m.cls := hown
  show W p l e { frames := 4, cells := 0, slots := 0, locals := 256 } s m _ below meth c s.heap [] 0 0 _ _
  have P16 : ∀ (w : am_S) (H : Heap) (locs : List Loc) (ls : Array Slot), f_X11_solved_16 a1 w = some (rr, ww) → am_H G w s H locs → lv_has ls 3 [] → W p l e { frames := 4, cells := 0, slots := 0, locals := 256 } s m [.ref (G.1 + 0), .int a1].toArray below meth c H locs 0 0 (MQ below (va_Qi (fun (x : Int32) (u : am_S) => x = rr ∧ u = ww) (am_U G) (am_A G)) [.ref (G.1 + 0), .int a1].toArray s 0 0 (am_A G)) (F0 m 16 ls []) := by
    intro w H locs ls hf hH hl
    unfold f_X11_solved_16 at hf
    refine lv_iconst (v := -1) hx hb dX11_solved_16 (by decide) ?_
    exact am_reti hx hb hr hlocks hH hf dX11_solved_17
  have P79 : ∀ (s0 : Int32) (w : am_S) (H : Heap) (locs : List Loc) (ls : Array Slot), f_X11_solved_79 a1 s0 w = some (rr, ww) → am_H G w s H locs → lv_has ls 3 [] → W p l e { frames := 4, cells := 0, slots := 0, locals := 256 } s m [.ref (G.1 + 0), .int a1].toArray below meth c H locs 0 0 (MQ below (va_Qi (fun (x : Int32) (u : am_S) => x = rr ∧ u = ww) (am_U G) (am_A G)) [.ref (G.1 + 0), .int a1].toArray s 0 0 (am_A G)) (F0 m 79 ls [.int s0]) := by
    intro s0 w H locs ls hf hH hl
    unfold f_X11_solved_79 at hf
    exact am_reti hx hb hr hlocks hH hf dX11_solved_79
  refine am_enter (lv := [(0, .ref (G.1 + 0)), (1, .int a1)]) (Nat.le_of_ble_eq_true rfl) rfl (fun ls hl => ?_)
  unfold f_X11_solved at hf
  refine am_start hH (fun H locs hH => ?_)
  refine lv_aload_n hx hb dX11_solved_0 rfl (lv_at hl 0 rfl) ?_
  obtain ⟨r_26, w_24, hq_25, hf⟩ := am_b2_some hf
  refine am_calli (r := r_26) (w' := w_24) (am_runV (n := 0) (As := []) (rest := []) ⟨hx, hb, hml, hown, hts⟩ hK hE hH (k_X11_noField hq_25) (am_gV am_q625 am_q627 am_qs11 am_q1 am_q628) (am_o11 (p := 0) (by decide +kernel)) rfl ⟨rfl, rfl⟩ (by decide +kernel) ⟨Nat.le_of_ble_eq_true rfl, Nat.le_of_ble_eq_true rfl⟩ rfl hl.1 rfl (Nat.le_of_ble_eq_true rfl) ⟨Nat.zero_le _, Nat.zero_le _⟩ dX11_solved_1) hH (fun H locs hH => ?_)
  refine lv_if_ne (tgt := 16) hx hb dX11_solved_4 (by decide) (fun hc_27 => ?_) (fun hc_27 => ?_)
  · have hf := (if_neg hc_27).symm.trans hf
    exact P16 w_24 H locs ls hf hH (lv_sub hl [] rfl)
  · have hf := (if_pos hc_27).symm.trans hf
    refine lv_iload_n hx hb dX11_solved_7 rfl (lv_at hl 1 rfl) ?_
    refine lv_if_lt (tgt := 16) hx hb dX11_solved_8 (by decide) (fun hc_28 => ?_) (fun hc_28 => ?_)
    · have hf := (if_pos hc_28).symm.trans hf
      exact P16 w_24 H locs ls hf hH (lv_sub hl [] rfl)
    · have hf := (if_neg hc_28).symm.trans hf
      refine lv_iload_n hx hb dX11_solved_11 rfl (lv_at hl 1 rfl) ?_
      refine lv_iconst (v := 2) hx hb dX11_solved_12 (by decide) ?_
      refine lv_icmp_le (tgt := 18) hx hb dX11_solved_13 (by decide) (fun hc_29 => ?_) (fun hc_29 => ?_)
      · have hf := (if_pos hc_29).symm.trans hf
        refine lv_aload_n hx hb dX11_solved_18 rfl (lv_at hl 0 rfl) ?_
        refine am_get hx hb hts hK hown hH (am_o11 (p := 0) (by decide +kernel)) rfl am_inX11 13 (by decide) am_q344 (v := .ref (G.1 + 250)) rfl dX11_solved_19 ?_
        refine lv_aload_n hx hb dX11_solved_22 rfl (lv_at hl 0 rfl) ?_
        refine am_get hx hb hts hK hown hH (am_o11 (p := 0) (by decide +kernel)) rfl am_inX11 5 (by decide) am_q336 (v := .ref (G.1 + 23)) rfl dX11_solved_23 ?_
        obtain ⟨w_30, hq_31, hf⟩ := am_b1_some hf
        refine am_callv (w' := w_30) (am_runV (n := 1) (As := [.ref (G.1 + 23)]) (rest := []) ⟨hx, hb, hml, hown, hts⟩ hK hE hH (k_X7_lookAt (by decide +kernel) hq_31) (am_gV am_q670 am_q671 am_q672 am_q9 am_q673) (am_o7 (p := 250) (by decide +kernel)) rfl ⟨rfl, rfl⟩ (by decide +kernel) ⟨Nat.le_of_ble_eq_true rfl, Nat.le_of_ble_eq_true rfl⟩ rfl hl.1 rfl (Nat.le_of_ble_eq_true rfl) ⟨Nat.zero_le _, Nat.zero_le _⟩ dX11_solved_26) hH (fun H locs hH => ?_)
        refine lv_iload_n hx hb dX11_solved_29 rfl (lv_at hl 1 rfl) ?_
        refine lv_iconst (v := 2) hx hb dX11_solved_30 (by decide) ?_
        refine lv_icmp_ne (tgt := 42) hx hb dX11_solved_31 (by decide) (fun hc_32 => ?_) (fun hc_32 => ?_)
        · have hf := (if_neg hc_32).symm.trans hf
          refine lv_aload_n hx hb dX11_solved_42 rfl (lv_at hl 0 rfl) ?_
          refine am_get hx hb hts hK hown hH (am_o11 (p := 0) (by decide +kernel)) rfl am_inX11 2 (by decide) am_q333 (v := .ref (G.1 + 11)) rfl dX11_solved_43 ?_
          obtain ⟨r_35, w_33, hq_34, hf⟩ := am_b2_some hf
          refine am_calli (r := r_35) (w' := w_33) (am_runV (n := 0) (As := []) (rest := []) ⟨hx, hb, hml, hown, hts⟩ hK hE hH (k_X1_everyone (by decide +kernel) hq_34) (am_gV am_q948 am_q610 am_q611 am_q3 am_q612) (am_o1 (p := 11) (by decide +kernel)) rfl ⟨rfl, rfl⟩ (by decide +kernel) ⟨Nat.le_of_ble_eq_true rfl, Nat.le_of_ble_eq_true rfl⟩ rfl hl.1 rfl (Nat.le_of_ble_eq_true rfl) ⟨Nat.zero_le _, Nat.zero_le _⟩ dX11_solved_46) hH (fun H locs hH => ?_)
          refine lv_aload_n hx hb dX11_solved_49 rfl (lv_at hl 0 rfl) ?_
          refine am_get hx hb hts hK hown hH (am_o11 (p := 0) (by decide +kernel)) rfl am_inX11 13 (by decide) am_q344 (v := .ref (G.1 + 250)) rfl dX11_solved_50 ?_
          refine lv_aload_n hx hb dX11_solved_53 rfl (lv_at hl 0 rfl) ?_
          refine am_get hx hb hts hK hown hH (am_o11 (p := 0) (by decide +kernel)) rfl am_inX11 13 (by decide) am_q344 (v := .ref (G.1 + 250)) rfl dX11_solved_54 ?_
          refine am_get hx hb hts hK hown hH (am_o7 (p := 250) (by decide +kernel)) rfl am_inX7 6 (by decide) am_q273 (v := .int (w_33.1 250 6)) rfl dX11_solved_57 ?_
          obtain ⟨r_38, w_36, hq_37, hf⟩ := am_b2_some hf
          refine am_calli (r := r_38) (w' := w_36) (am_runV (n := 1) (As := [.int (w_33.1 250 6)]) (rest := [.int r_35]) ⟨hx, hb, hml, hown, hts⟩ hK hE hH (k_X7_stuckOf hq_37) (am_gV am_q949 am_q950 am_q951 am_q9 am_q952) (am_o7 (p := 250) (by decide +kernel)) rfl ⟨rfl, rfl⟩ (by decide +kernel) ⟨Nat.le_of_ble_eq_true rfl, Nat.le_of_ble_eq_true rfl⟩ rfl hl.1 rfl (Nat.le_of_ble_eq_true rfl) ⟨Nat.zero_le _, Nat.zero_le _⟩ dX11_solved_60) hH (fun H locs hH => ?_)
          refine lv_iconst (v := -1) hx hb dX11_solved_63 (by decide) ?_
          refine lv_ixor hx hb dX11_solved_64 ?_
          refine lv_iand hx hb dX11_solved_65 ?_
          obtain ⟨x2_39, hx2_39, hf⟩ := am_v_some hf
          refine am_topi hx2_39 ?_
          refine lv_istore_n (lv' := [(2, .int x2_39), (0, .ref (G.1 + 0)), (1, .int a1)]) hx hb dX11_solved_66 rfl hl (by decide) rfl (fun ls hl => ?_)
          refine lv_iload_n hx hb dX11_solved_67 rfl (lv_at hl 2 rfl) ?_
          refine lv_if_ne (tgt := 78) hx hb dX11_solved_68 (by decide) (fun hc_40 => ?_) (fun hc_40 => ?_)
          · have hf := (if_neg hc_40).symm.trans hf
            refine lv_iload_n hx hb dX11_solved_78 rfl (lv_at hl 0 rfl) ?_
            exact P79 x2_39 w_36 H locs ls hf hH (lv_sub hl [] rfl)
          · have hf := (if_pos hc_40).symm.trans hf
            refine lv_iload_n hx hb dX11_solved_71 rfl (lv_at hl 0 rfl) ?_
            obtain ⟨r_43, w_41, hq_42, hf⟩ := am_b2_some hf
            refine am_calli (r := r_43) (w' := w_41) (am_runS (n := 1) (As := [.int x2_39]) (rest := []) ⟨hx, hb, hml, hown, hts⟩ hK hE hH (k_J6_bitCount_0f7a4 hq_42) (am_gS am_q715 am_q716 am_q23 am_q717) ⟨rfl, rfl⟩ (by decide +kernel) ⟨Nat.le_of_ble_eq_true rfl, Nat.le_of_ble_eq_true rfl⟩ rfl hl.1 rfl (Nat.le_of_ble_eq_true rfl) ⟨Nat.zero_le _, Nat.zero_le _⟩ dX11_solved_72) hH (fun H locs hH => ?_)
            refine lv_goto (tgt := 79) hx hb dX11_solved_75 (by decide) ?_
            exact P79 r_43 w_41 H locs ls hf hH (lv_sub hl [] rfl)
        · have hf := (if_pos hc_32).symm.trans hf
          refine lv_aload_n hx hb dX11_solved_34 rfl (lv_at hl 0 rfl) ?_
          refine am_get hx hb hts hK hown hH (am_o11 (p := 0) (by decide +kernel)) rfl am_inX11 15 (by decide) am_q346 (v := .ref (G.1 + 257)) rfl dX11_solved_35 ?_
          obtain ⟨r_46, w_44, hq_45, hf⟩ := am_b2_some hf
          refine am_calli (r := r_46) (w' := w_44) (am_runV (n := 0) (As := []) (rest := []) ⟨hx, hb, hml, hown, hts⟩ hK hE hH (k_X6_roundsTillStuck hq_45) (am_gV am_q943 am_q944 am_q945 am_q11 am_q946) (am_o6 (p := 257) (by decide +kernel)) rfl ⟨rfl, rfl⟩ (by decide +kernel) ⟨Nat.le_of_ble_eq_true rfl, Nat.le_of_ble_eq_true rfl⟩ rfl hl.1 rfl (Nat.le_of_ble_eq_true rfl) ⟨Nat.zero_le _, Nat.zero_le _⟩ dX11_solved_38) hH (fun H locs hH => ?_)
          exact am_reti hx hb hr hlocks hH hf dX11_solved_41
      · have hf := (if_neg hc_29).symm.trans hf
        exact P16 w_24 H locs ls hf hH (lv_sub hl [] rfl)

def f_X11_status_19 (a1 : Int32) (s0 : Int32) (w : am_S) : Option (Int32 × am_S) :=
  some (s0, w)
def f_X11_status_9 (a1 : Int32) (w : am_S) : Option (Int32 × am_S) :=
  f_X11_status_19 a1 (-1 : Int32) w
def f_X11_status (a1 : Int32) (w : am_S) : Option (Int32 × am_S) :=
  if a1 < 0 then (f_X11_status_9 a1 w) else (if a1 < (4 : Int32) then (am_chk a1 4 (f_X11_status_19 a1 (w.1 248 a1.toNatClampNeg) w)) else (f_X11_status_9 a1 w))
set_option maxRecDepth 100000 in
set_option maxHeartbeats 4000000 in
theorem k_X11_status {G : am_G} {l : Launch} {a1 : Int32}  {w : am_S} {rr : Int32} {ww : am_S} (hf : f_X11_status a1 w = some (rr, ww)) : am_Mi G l yX11_status (Cond.code yX11_status cX11_status 2 (some .int) :: am_T) { frames := 0, cells := 0, slots := 0, locals := 0 } [.ref (G.1 + 0), .int a1] w rr ww := by
  refine Met.ofW (cc := cX11_status) (maxL := 2) (ret := (some .int)) (by decide) rfl ?_
  intro p e s m args below meth c s₁ B hml hv
  obtain ⟨rfl, hx, hb, hr, hts, hown, hlocks, hK, hE, hH⟩ := am_begin B hv
  have hown : s.vm.findClass RX11 = some m.cls := hown
  show W p l e { frames := 0, cells := 0, slots := 0, locals := 0 } s m _ below meth c s.heap [] 0 0 _ _
  have P19 : ∀ (s0 : Int32) (w : am_S) (H : Heap) (locs : List Loc) (ls : Array Slot), f_X11_status_19 a1 s0 w = some (rr, ww) → am_H G w s H locs → lv_has ls 2 [] → W p l e { frames := 0, cells := 0, slots := 0, locals := 0 } s m [.ref (G.1 + 0), .int a1].toArray below meth c H locs 0 0 (MQ below (va_Qi (fun (x : Int32) (u : am_S) => x = rr ∧ u = ww) (am_U G) (am_A G)) [.ref (G.1 + 0), .int a1].toArray s 0 0 (am_A G)) (F0 m 19 ls [.int s0]) := by
    intro s0 w H locs ls hf hH hl
    unfold f_X11_status_19 at hf
    exact am_reti hx hb hr hlocks hH hf dX11_status_19
  have P9 : ∀ (w : am_S) (H : Heap) (locs : List Loc) (ls : Array Slot), f_X11_status_9 a1 w = some (rr, ww) → am_H G w s H locs → lv_has ls 2 [] → W p l e { frames := 0, cells := 0, slots := 0, locals := 0 } s m [.ref (G.1 + 0), .int a1].toArray below meth c H locs 0 0 (MQ below (va_Qi (fun (x : Int32) (u : am_S) => x = rr ∧ u = ww) (am_U G) (am_A G)) [.ref (G.1 + 0), .int a1].toArray s 0 0 (am_A G)) (F0 m 9 ls []) := by
    intro w H locs ls hf hH hl
    unfold f_X11_status_9 at hf
    refine lv_iconst (v := -1) hx hb dX11_status_9 (by decide) ?_
    refine lv_goto (tgt := 19) hx hb dX11_status_10 (by decide) ?_
    exact P19 (-1 : Int32) w H locs ls hf hH (lv_sub hl [] rfl)
  refine am_enter (lv := [(0, .ref (G.1 + 0)), (1, .int a1)]) (Nat.le_of_ble_eq_true rfl) rfl (fun ls hl => ?_)
  unfold f_X11_status at hf
  refine am_start hH (fun H locs hH => ?_)
  refine lv_iload_n hx hb dX11_status_0 rfl (lv_at hl 1 rfl) ?_
  refine lv_if_lt (tgt := 9) hx hb dX11_status_1 (by decide) (fun hc_4 => ?_) (fun hc_4 => ?_)
  · have hf := (if_pos hc_4).symm.trans hf
    exact P9 w H locs ls hf hH (lv_sub hl [] rfl)
  · have hf := (if_neg hc_4).symm.trans hf
    refine lv_iload_n hx hb dX11_status_4 rfl (lv_at hl 1 rfl) ?_
    refine lv_iconst (v := 4) hx hb dX11_status_5 (by decide) ?_
    refine lv_icmp_lt (tgt := 13) hx hb dX11_status_6 (by decide) (fun hc_5 => ?_) (fun hc_5 => ?_)
    · have hf := (if_pos hc_5).symm.trans hf
      refine lv_aload_n hx hb dX11_status_13 rfl (lv_at hl 0 rfl) ?_
      refine am_get hx hb hts hK hown hH (am_o11 (p := 0) (by decide +kernel)) rfl am_inX11 11 (by decide) am_q342 (v := .ref (G.1 + 248)) rfl dX11_status_14 ?_
      refine lv_iload_n hx hb dX11_status_17 rfl (lv_at hl 1 rfl) ?_
      obtain ⟨hi_6, hf⟩ := am_chk_some hf
      refine am_iald hx hb hK hH (am_ai_of (N := 4) (by decide +kernel)) hi_6 dX11_status_18 ?_
      exact P19 (w.1 248 a1.toNatClampNeg) w H locs ls hf hH (lv_sub hl [] rfl)
    · have hf := (if_neg hc_5).symm.trans hf
      exact P9 w H locs ls hf hH (lv_sub hl [] rfl)

def f_X11_step_34 (a1 : Int32) (a2 : Int32) (a3 : Int32) (w : am_S) : Option (Int32 × am_S) :=
  some ((-1000000 : Int32), w)
def f_X11_step_66 (a1 : Int32) (a2 : Int32) (a3 : Int32) (s0 : Int32) (w : am_S) : Option (Int32 × am_S) :=
  some (s0, w)
def f_X11_step (a1 : Int32) (a2 : Int32) (a3 : Int32) (w : am_S) : Option (Int32 × am_S) :=
  am_b2 (f_X11_noScript a1 w) fun r_17 w_15 => if r_17 = 0 then (if a2 < 0 then (f_X11_step_34 a1 a2 a3 w_15) else (am_chk a1 4 (if (w_15.1 (259 + 3 * a1.toNatClampNeg) 2) ≤ a2 then (f_X11_step_34 a1 a2 a3 w_15) else (if a3 < 0 then (f_X11_step_34 a1 a2 a3 w_15) else (if a3 ≤ (1 : Int32) then (if a3 = 0 then (am_chk a1 4 (am_chk a2 16 (f_X11_step_66 a1 a2 a3 (w_15.1 ((259 + 3 * a1.toNatClampNeg) + 1) a2.toNatClampNeg) w_15))) else (am_chk a1 4 (am_chk a2 16 (f_X11_step_66 a1 a2 a3 (w_15.1 ((259 + 3 * a1.toNatClampNeg) + 2) a2.toNatClampNeg) w_15)))) else (f_X11_step_34 a1 a2 a3 w_15)))))) else (f_X11_step_34 a1 a2 a3 w_15)
set_option maxRecDepth 100000 in
set_option maxHeartbeats 4000000 in
theorem k_X11_step {G : am_G} {l : Launch} {a1 : Int32} {a2 : Int32} {a3 : Int32}  {w : am_S} {rr : Int32} {ww : am_S} (hf : f_X11_step a1 a2 a3 w = some (rr, ww)) : am_Mi G l yX11_step (Cond.code yX11_step cX11_step 4 (some .int) :: am_T) { frames := 1, cells := 0, slots := 0, locals := 64 } [.ref (G.1 + 0), .int a1, .int a2, .int a3] w rr ww := by
  refine Met.ofW (cc := cX11_step) (maxL := 4) (ret := (some .int)) (by decide) rfl ?_
  intro p e s m args below meth c s₁ B hml hv
  obtain ⟨rfl, hx, hb, hr, hts, hown, hlocks, hK, hE, hH⟩ := am_begin B hv
  have hown : s.vm.findClass RX11 = some m.cls := hown
  show W p l e { frames := 1, cells := 0, slots := 0, locals := 64 } s m _ below meth c s.heap [] 0 0 _ _
  have P34 : ∀ (w : am_S) (H : Heap) (locs : List Loc) (ls : Array Slot), f_X11_step_34 a1 a2 a3 w = some (rr, ww) → am_H G w s H locs → lv_has ls 4 [] → W p l e { frames := 1, cells := 0, slots := 0, locals := 64 } s m [.ref (G.1 + 0), .int a1, .int a2, .int a3].toArray below meth c H locs 0 0 (MQ below (va_Qi (fun (x : Int32) (u : am_S) => x = rr ∧ u = ww) (am_U G) (am_A G)) [.ref (G.1 + 0), .int a1, .int a2, .int a3].toArray s 0 0 (am_A G)) (F0 m 34 ls []) := by
    intro w H locs ls hf hH hl
    unfold f_X11_step_34 at hf
    refine lv_ldc (v := -1000000) hx hb hown (hts _ am_q714) dX11_step_34 ?_
    exact am_reti hx hb hr hlocks hH hf dX11_step_36
  have P66 : ∀ (s0 : Int32) (w : am_S) (H : Heap) (locs : List Loc) (ls : Array Slot), f_X11_step_66 a1 a2 a3 s0 w = some (rr, ww) → am_H G w s H locs → lv_has ls 4 [] → W p l e { frames := 1, cells := 0, slots := 0, locals := 64 } s m [.ref (G.1 + 0), .int a1, .int a2, .int a3].toArray below meth c H locs 0 0 (MQ below (va_Qi (fun (x : Int32) (u : am_S) => x = rr ∧ u = ww) (am_U G) (am_A G)) [.ref (G.1 + 0), .int a1, .int a2, .int a3].toArray s 0 0 (am_A G)) (F0 m 66 ls [.int s0]) := by
    intro s0 w H locs ls hf hH hl
    unfold f_X11_step_66 at hf
    exact am_reti hx hb hr hlocks hH hf dX11_step_66
  refine am_enter (lv := [(0, .ref (G.1 + 0)), (1, .int a1), (2, .int a2), (3, .int a3)]) (Nat.le_of_ble_eq_true rfl) rfl (fun ls hl => ?_)
  unfold f_X11_step at hf
  refine am_start hH (fun H locs hH => ?_)
  refine lv_aload_n hx hb dX11_step_0 rfl (lv_at hl 0 rfl) ?_
  refine lv_iload_n hx hb dX11_step_1 rfl (lv_at hl 1 rfl) ?_
  obtain ⟨r_17, w_15, hq_16, hf⟩ := am_b2_some hf
  refine am_calli (r := r_17) (w' := w_15) (am_runV (n := 1) (As := [.int a1]) (rest := []) ⟨hx, hb, hml, hown, hts⟩ hK hE hH (k_X11_noScript hq_16) (am_gV am_q1165 am_q1167 am_qs42 am_q1 am_q1168) (am_o11 (p := 0) (by decide +kernel)) rfl ⟨rfl, rfl⟩ (by decide +kernel) ⟨Nat.le_of_ble_eq_true rfl, Nat.le_of_ble_eq_true rfl⟩ rfl hl.1 rfl (Nat.le_of_ble_eq_true rfl) ⟨Nat.zero_le _, Nat.zero_le _⟩ dX11_step_2) hH (fun H locs hH => ?_)
  refine lv_if_ne (tgt := 34) hx hb dX11_step_5 (by decide) (fun hc_18 => ?_) (fun hc_18 => ?_)
  · have hf := (if_neg hc_18).symm.trans hf
    exact P34 w_15 H locs ls hf hH (lv_sub hl [] rfl)
  · have hf := (if_pos hc_18).symm.trans hf
    refine lv_iload_n hx hb dX11_step_8 rfl (lv_at hl 2 rfl) ?_
    refine lv_if_lt (tgt := 34) hx hb dX11_step_9 (by decide) (fun hc_19 => ?_) (fun hc_19 => ?_)
    · have hf := (if_pos hc_19).symm.trans hf
      exact P34 w_15 H locs ls hf hH (lv_sub hl [] rfl)
    · have hf := (if_neg hc_19).symm.trans hf
      refine lv_iload_n hx hb dX11_step_12 rfl (lv_at hl 2 rfl) ?_
      refine lv_aload_n hx hb dX11_step_13 rfl (lv_at hl 0 rfl) ?_
      refine am_get hx hb hts hK hown hH (am_o11 (p := 0) (by decide +kernel)) rfl am_inX11 4 (by decide) am_q335 (v := .ref (G.1 + 22)) rfl dX11_step_14 ?_
      refine lv_iload_n hx hb dX11_step_17 rfl (lv_at hl 1 rfl) ?_
      obtain ⟨hi_20, hf⟩ := am_chk_some hf
      refine am_aald4 hx hb hK hH hi_20 dX11_step_18 ?_
      refine am_get hx hb hts hK hown hH (am_o8 (am_row4 hi_20).1) rfl am_inX8 2 (by decide) am_q158 (v := .int (w_15.1 (259 + 3 * a1.toNatClampNeg) 2)) rfl dX11_step_19 ?_
      refine lv_icmp_ge (tgt := 34) hx hb dX11_step_22 (by decide) (fun hc_21 => ?_) (fun hc_21 => ?_)
      · have hf := (if_pos hc_21).symm.trans hf
        exact P34 w_15 H locs ls hf hH (lv_sub hl [] rfl)
      · have hf := (if_neg hc_21).symm.trans hf
        refine lv_iload_n hx hb dX11_step_25 rfl (lv_at hl 3 rfl) ?_
        refine lv_if_lt (tgt := 34) hx hb dX11_step_26 (by decide) (fun hc_22 => ?_) (fun hc_22 => ?_)
        · have hf := (if_pos hc_22).symm.trans hf
          exact P34 w_15 H locs ls hf hH (lv_sub hl [] rfl)
        · have hf := (if_neg hc_22).symm.trans hf
          refine lv_iload_n hx hb dX11_step_29 rfl (lv_at hl 3 rfl) ?_
          refine lv_iconst (v := 1) hx hb dX11_step_30 (by decide) ?_
          refine lv_icmp_le (tgt := 37) hx hb dX11_step_31 (by decide) (fun hc_23 => ?_) (fun hc_23 => ?_)
          · have hf := (if_pos hc_23).symm.trans hf
            refine lv_iload_n hx hb dX11_step_37 rfl (lv_at hl 3 rfl) ?_
            refine lv_if_ne (tgt := 55) hx hb dX11_step_38 (by decide) (fun hc_24 => ?_) (fun hc_24 => ?_)
            · have hf := (if_neg hc_24).symm.trans hf
              refine lv_aload_n hx hb dX11_step_55 rfl (lv_at hl 0 rfl) ?_
              refine am_get hx hb hts hK hown hH (am_o11 (p := 0) (by decide +kernel)) rfl am_inX11 4 (by decide) am_q335 (v := .ref (G.1 + 22)) rfl dX11_step_56 ?_
              refine lv_iload_n hx hb dX11_step_59 rfl (lv_at hl 1 rfl) ?_
              obtain ⟨hi_25, hf⟩ := am_chk_some hf
              refine am_aald4 hx hb hK hH hi_25 dX11_step_60 ?_
              refine am_get hx hb hts hK hown hH (am_o8 (am_row4 hi_25).1) rfl am_inX8 1 (by decide) am_q156 (v := .ref (G.1 + ((259 + 3 * a1.toNatClampNeg) + 2))) rfl dX11_step_61 ?_
              refine lv_iload_n hx hb dX11_step_64 rfl (lv_at hl 2 rfl) ?_
              obtain ⟨hi_26, hf⟩ := am_chk_some hf
              refine am_iald hx hb hK hH (am_ai_of (N := 16) (am_row4 hi_25).2.2) hi_26 dX11_step_65 ?_
              exact P66 (w_15.1 ((259 + 3 * a1.toNatClampNeg) + 2) a2.toNatClampNeg) w_15 H locs ls hf hH (lv_sub hl [] rfl)
            · have hf := (if_pos hc_24).symm.trans hf
              refine lv_aload_n hx hb dX11_step_41 rfl (lv_at hl 0 rfl) ?_
              refine am_get hx hb hts hK hown hH (am_o11 (p := 0) (by decide +kernel)) rfl am_inX11 4 (by decide) am_q335 (v := .ref (G.1 + 22)) rfl dX11_step_42 ?_
              refine lv_iload_n hx hb dX11_step_45 rfl (lv_at hl 1 rfl) ?_
              obtain ⟨hi_27, hf⟩ := am_chk_some hf
              refine am_aald4 hx hb hK hH hi_27 dX11_step_46 ?_
              refine am_get hx hb hts hK hown hH (am_o8 (am_row4 hi_27).1) rfl am_inX8 0 (by decide) am_q154 (v := .ref (G.1 + ((259 + 3 * a1.toNatClampNeg) + 1))) rfl dX11_step_47 ?_
              refine lv_iload_n hx hb dX11_step_50 rfl (lv_at hl 2 rfl) ?_
              obtain ⟨hi_28, hf⟩ := am_chk_some hf
              refine am_iald hx hb hK hH (am_ai_of (N := 16) (am_row4 hi_27).2.1) hi_28 dX11_step_51 ?_
              refine lv_goto (tgt := 66) hx hb dX11_step_52 (by decide) ?_
              exact P66 (w_15.1 ((259 + 3 * a1.toNatClampNeg) + 1) a2.toNatClampNeg) w_15 H locs ls hf hH (lv_sub hl [] rfl)
          · have hf := (if_neg hc_23).symm.trans hf
            exact P34 w_15 H locs ls hf hH (lv_sub hl [] rfl)

def f_X11_strength_24 (a1 : Int32) (s0 : Int32) (w : am_S) : Option (Int32 × am_S) :=
  some (s0, w)
def f_X11_strength (a1 : Int32) (w : am_S) : Option (Int32 × am_S) :=
  am_b2 (f_X11_noUser a1 w) fun r_11 w_9 => if r_11 = 0 then (am_chk a1 10 (am_b2 (f_X11_singleBits (w_9.2.2 251 a1.toNatClampNeg) w_9) fun r_16 w_14 => f_X11_strength_24 a1 r_16 w_14)) else (f_X11_strength_24 a1 (-1 : Int32) w_9)
set_option maxRecDepth 100000 in
set_option maxHeartbeats 4000000 in
theorem k_X11_strength {G : am_G} {l : Launch} {a1 : Int32}  {w : am_S} {rr : Int32} {ww : am_S} (hf : f_X11_strength a1 w = some (rr, ww)) : am_Mi G l yX11_strength (Cond.code yX11_strength cX11_strength 2 (some .int) :: am_T) { frames := 1, cells := 0, slots := 0, locals := 64 } [.ref (G.1 + 0), .int a1] w rr ww := by
  refine Met.ofW (cc := cX11_strength) (maxL := 2) (ret := (some .int)) (by decide) rfl ?_
  intro p e s m args below meth c s₁ B hml hv
  obtain ⟨rfl, hx, hb, hr, hts, hown, hlocks, hK, hE, hH⟩ := am_begin B hv
  have hown : s.vm.findClass RX11 = some m.cls := hown
  show W p l e { frames := 1, cells := 0, slots := 0, locals := 64 } s m _ below meth c s.heap [] 0 0 _ _
  have P24 : ∀ (s0 : Int32) (w : am_S) (H : Heap) (locs : List Loc) (ls : Array Slot), f_X11_strength_24 a1 s0 w = some (rr, ww) → am_H G w s H locs → lv_has ls 2 [] → W p l e { frames := 1, cells := 0, slots := 0, locals := 64 } s m [.ref (G.1 + 0), .int a1].toArray below meth c H locs 0 0 (MQ below (va_Qi (fun (x : Int32) (u : am_S) => x = rr ∧ u = ww) (am_U G) (am_A G)) [.ref (G.1 + 0), .int a1].toArray s 0 0 (am_A G)) (F0 m 24 ls [.int s0]) := by
    intro s0 w H locs ls hf hH hl
    unfold f_X11_strength_24 at hf
    exact am_reti hx hb hr hlocks hH hf dX11_strength_24
  refine am_enter (lv := [(0, .ref (G.1 + 0)), (1, .int a1)]) (Nat.le_of_ble_eq_true rfl) rfl (fun ls hl => ?_)
  unfold f_X11_strength at hf
  refine am_start hH (fun H locs hH => ?_)
  refine lv_aload_n hx hb dX11_strength_0 rfl (lv_at hl 0 rfl) ?_
  refine lv_iload_n hx hb dX11_strength_1 rfl (lv_at hl 1 rfl) ?_
  obtain ⟨r_11, w_9, hq_10, hf⟩ := am_b2_some hf
  refine am_calli (r := r_11) (w' := w_9) (am_runV (n := 1) (As := [.int a1]) (rest := []) ⟨hx, hb, hml, hown, hts⟩ hK hE hH (k_X11_noUser hq_10) (am_gV am_q641 am_q643 am_qs12 am_q1 am_q644) (am_o11 (p := 0) (by decide +kernel)) rfl ⟨rfl, rfl⟩ (by decide +kernel) ⟨Nat.le_of_ble_eq_true rfl, Nat.le_of_ble_eq_true rfl⟩ rfl hl.1 rfl (Nat.le_of_ble_eq_true rfl) ⟨Nat.zero_le _, Nat.zero_le _⟩ dX11_strength_2) hH (fun H locs hH => ?_)
  refine lv_if_eq (tgt := 12) hx hb dX11_strength_5 (by decide) (fun hc_12 => ?_) (fun hc_12 => ?_)
  · have hf := (if_pos hc_12).symm.trans hf
    refine lv_aload_n hx hb dX11_strength_12 rfl (lv_at hl 0 rfl) ?_
    refine am_get hx hb hts hK hown hH (am_o11 (p := 0) (by decide +kernel)) rfl am_inX11 13 (by decide) am_q344 (v := .ref (G.1 + 250)) rfl dX11_strength_13 ?_
    refine am_get hx hb hts hK hown hH (am_o7 (p := 250) (by decide +kernel)) rfl am_inX7 1 (by decide) am_q261 (v := .ref (G.1 + 251)) rfl dX11_strength_16 ?_
    refine lv_iload_n hx hb dX11_strength_19 rfl (lv_at hl 1 rfl) ?_
    obtain ⟨hi_13, hf⟩ := am_chk_some hf
    refine am_fald hx hb hK hH (am_af_of (N := 10) (by decide +kernel)) hi_13 dX11_strength_20 ?_
    obtain ⟨r_16, w_14, hq_15, hf⟩ := am_b2_some hf
    refine am_calli (r := r_16) (w' := w_14) (am_runS (n := 1) (As := [.float (w_9.2.2 251 a1.toNatClampNeg)]) (rest := []) ⟨hx, hb, hml, hown, hts⟩ hK hE hH (k_X11_singleBits hq_15) (am_gS am_q649 am_q650 am_q1 am_q651) ⟨rfl, rfl⟩ (by decide +kernel) ⟨Nat.le_of_ble_eq_true rfl, Nat.le_of_ble_eq_true rfl⟩ rfl hl.1 rfl (Nat.le_of_ble_eq_true rfl) ⟨Nat.zero_le _, Nat.zero_le _⟩ dX11_strength_21) hH (fun H locs hH => ?_)
    exact P24 r_16 w_14 H locs ls hf hH (lv_sub hl [] rfl)
  · have hf := (if_neg hc_12).symm.trans hf
    refine lv_iconst (v := -1) hx hb dX11_strength_8 (by decide) ?_
    refine lv_goto (tgt := 24) hx hb dX11_strength_9 (by decide) ?_
    exact P24 (-1 : Int32) w_9 H locs ls hf hH (lv_sub hl [] rfl)

def f_X6_isStuckSet_34 (a1 : Int32) (s0 : Int32) (w : am_S) : Option (Int32 × am_S) :=
  am_nar .boolean s0 (some (s0, w))
def f_X6_isStuckSet_33 (a1 : Int32) (w : am_S) : Option (Int32 × am_S) :=
  f_X6_isStuckSet_34 a1 (0 : Int32) w
def f_X6_isStuckSet (a1 : Int32) (w : am_S) : Option (Int32 × am_S) :=
  if a1 = 0 then (f_X6_isStuckSet_33 a1 w) else (if (a1 &&& ((w.1 250 6) ^^^ (-1 : Int32))) = 0 then (am_b2 (f_X7_clearAnywhere a1 w) fun r_12 w_10 => if r_12 = 0 then (f_X6_isStuckSet_34 a1 (1 : Int32) w_10) else (f_X6_isStuckSet_33 a1 w_10)) else (f_X6_isStuckSet_33 a1 w))
set_option maxRecDepth 100000 in
set_option maxHeartbeats 4000000 in
theorem k_X6_isStuckSet {G : am_G} {l : Launch} {a1 : Int32}  {w : am_S} {rr : Int32} {ww : am_S} (hf : f_X6_isStuckSet a1 w = some (rr, ww)) : am_Mi G l yX6_isStuckSet (Cond.code yX6_isStuckSet cX6_isStuckSet 2 (some .boolean) :: am_T) { frames := 3, cells := 0, slots := 0, locals := 192 } [.ref (G.1 + 257), .int a1] w rr ww := by
  refine Met.ofW (cc := cX6_isStuckSet) (maxL := 2) (ret := (some .boolean)) (by decide) rfl ?_
  intro p e s m args below meth c s₁ B hml hv
  obtain ⟨rfl, hx, hb, hr, hts, hown, hlocks, hK, hE, hH⟩ := am_begin B hv
  have hown : s.vm.findClass RX6 = some m.cls := hown
  show W p l e { frames := 3, cells := 0, slots := 0, locals := 192 } s m _ below meth c s.heap [] 0 0 _ _
  have P34 : ∀ (s0 : Int32) (w : am_S) (H : Heap) (locs : List Loc) (ls : Array Slot), f_X6_isStuckSet_34 a1 s0 w = some (rr, ww) → am_H G w s H locs → lv_has ls 2 [] → W p l e { frames := 3, cells := 0, slots := 0, locals := 192 } s m [.ref (G.1 + 257), .int a1].toArray below meth c H locs 0 0 (MQ below (va_Qi (fun (x : Int32) (u : am_S) => x = rr ∧ u = ww) (am_U G) (am_A G)) [.ref (G.1 + 257), .int a1].toArray s 0 0 (am_A G)) (F0 m 34 ls [.int s0]) := by
    intro s0 w H locs ls hf hH hl
    unfold f_X6_isStuckSet_34 at hf
    obtain ⟨hr_7, hf⟩ := am_nar_some hf
    exact am_retz hx hb hr hr_7.1 hlocks hH hf dX6_isStuckSet_34
  have P33 : ∀ (w : am_S) (H : Heap) (locs : List Loc) (ls : Array Slot), f_X6_isStuckSet_33 a1 w = some (rr, ww) → am_H G w s H locs → lv_has ls 2 [] → W p l e { frames := 3, cells := 0, slots := 0, locals := 192 } s m [.ref (G.1 + 257), .int a1].toArray below meth c H locs 0 0 (MQ below (va_Qi (fun (x : Int32) (u : am_S) => x = rr ∧ u = ww) (am_U G) (am_A G)) [.ref (G.1 + 257), .int a1].toArray s 0 0 (am_A G)) (F0 m 33 ls []) := by
    intro w H locs ls hf hH hl
    unfold f_X6_isStuckSet_33 at hf
    refine lv_iconst (v := 0) hx hb dX6_isStuckSet_33 (by decide) ?_
    exact P34 (0 : Int32) w H locs ls hf hH (lv_sub hl [] rfl)
  refine am_enter (lv := [(0, .ref (G.1 + 257)), (1, .int a1)]) (Nat.le_of_ble_eq_true rfl) rfl (fun ls hl => ?_)
  unfold f_X6_isStuckSet at hf
  refine am_start hH (fun H locs hH => ?_)
  refine lv_iload_n hx hb dX6_isStuckSet_0 rfl (lv_at hl 1 rfl) ?_
  refine lv_if_eq (tgt := 33) hx hb dX6_isStuckSet_1 (by decide) (fun hc_8 => ?_) (fun hc_8 => ?_)
  · have hf := (if_pos hc_8).symm.trans hf
    exact P33 w H locs ls hf hH (lv_sub hl [] rfl)
  · have hf := (if_neg hc_8).symm.trans hf
    refine lv_iload_n hx hb dX6_isStuckSet_4 rfl (lv_at hl 1 rfl) ?_
    refine lv_aload_n hx hb dX6_isStuckSet_5 rfl (lv_at hl 0 rfl) ?_
    refine am_get hx hb hts hK hown hH (am_o6 (p := 257) (by decide +kernel)) rfl am_inX6 1 (by decide) am_q315 (v := .ref (G.1 + 250)) rfl dX6_isStuckSet_6 ?_
    refine am_get hx hb hts hK hown hH (am_o7 (p := 250) (by decide +kernel)) rfl am_inX7 6 (by decide) am_q270 (v := .int (w.1 250 6)) rfl dX6_isStuckSet_9 ?_
    refine lv_iconst (v := -1) hx hb dX6_isStuckSet_12 (by decide) ?_
    refine lv_ixor hx hb dX6_isStuckSet_13 ?_
    refine lv_iand hx hb dX6_isStuckSet_14 ?_
    refine lv_if_ne (tgt := 33) hx hb dX6_isStuckSet_15 (by decide) (fun hc_9 => ?_) (fun hc_9 => ?_)
    · have hf := (if_neg hc_9).symm.trans hf
      exact P33 w H locs ls hf hH (lv_sub hl [] rfl)
    · have hf := (if_pos hc_9).symm.trans hf
      refine lv_aload_n hx hb dX6_isStuckSet_18 rfl (lv_at hl 0 rfl) ?_
      refine am_get hx hb hts hK hown hH (am_o6 (p := 257) (by decide +kernel)) rfl am_inX6 1 (by decide) am_q315 (v := .ref (G.1 + 250)) rfl dX6_isStuckSet_19 ?_
      refine lv_iload_n hx hb dX6_isStuckSet_22 rfl (lv_at hl 1 rfl) ?_
      obtain ⟨r_12, w_10, hq_11, hf⟩ := am_b2_some hf
      refine am_calli (r := r_12) (w' := w_10) (am_runV (n := 1) (As := [.int a1]) (rest := []) ⟨hx, hb, hml, hown, hts⟩ hK hE hH (k_X7_clearAnywhere hq_11) (am_gV am_q947 am_q739 am_q740 am_q9 am_q741) (am_o7 (p := 250) (by decide +kernel)) rfl ⟨rfl, rfl⟩ (by decide +kernel) ⟨Nat.le_of_ble_eq_true rfl, Nat.le_of_ble_eq_true rfl⟩ rfl hl.1 rfl (Nat.le_of_ble_eq_true rfl) ⟨Nat.zero_le _, Nat.zero_le _⟩ dX6_isStuckSet_23) hH (fun H locs hH => ?_)
      refine lv_if_ne (tgt := 33) hx hb dX6_isStuckSet_26 (by decide) (fun hc_13 => ?_) (fun hc_13 => ?_)
      · have hf := (if_neg hc_13).symm.trans hf
        exact P33 w_10 H locs ls hf hH (lv_sub hl [] rfl)
      · have hf := (if_pos hc_13).symm.trans hf
        refine lv_iconst (v := 1) hx hb dX6_isStuckSet_29 (by decide) ?_
        refine lv_goto (tgt := 34) hx hb dX6_isStuckSet_30 (by decide) ?_
        exact P34 (1 : Int32) w_10 H locs ls hf hH (lv_sub hl [] rfl)

def f_X6_leastStuckSet_50  (x1 : Int32) (x2 : Int32) (w : am_S) : Option ((Int32 × am_S) ⊕ (Int32 × Int32 × am_S)) :=
  am_v (x2 + (1 : Int32)) fun (x2_16 : Int32) => some (.inr (x1, x2_16, w))
def f_X6_leastStuckSet_35  (x1 : Int32) (x2 : Int32) (s0 : Int32) (w : am_S) : Option ((Int32 × am_S) ⊕ (Int32 × Int32 × am_S)) :=
  if s0 = 0 then (f_X6_leastStuckSet_50 x1 x2 w) else (am_b2 (f_X6_isStuckSet x2 w) fun r_20 w_18 => if r_20 = 0 then (f_X6_leastStuckSet_50 x1 x2 w_18) else (f_X6_leastStuckSet_50 x2 x2 w_18))
def f_X6_leastStuckSet_30  (x1 : Int32) (x2 : Int32) (w : am_S) : Option ((Int32 × am_S) ⊕ (Int32 × Int32 × am_S)) :=
  f_X6_leastStuckSet_35 x1 x2 (1 : Int32) w
def f_X6_leastStuckSet_4b  (x1 : Int32) (x2 : Int32) (w : am_S) : Option ((Int32 × am_S) ⊕ (Int32 × Int32 × am_S)) :=
  if (w.1 250 6) < x2 then (am_x (some (x1, w))) else (if x1 = 0 then (f_X6_leastStuckSet_30 x1 x2 w) else (am_b2 (f_J6_bitCount_0f7a4 x2 w) fun r_27 w_25 => am_b2 (f_J6_bitCount_0f7a4 x1 w_25) fun r_30 w_28 => if r_30 ≤ r_27 then (f_X6_leastStuckSet_35 x1 x2 (0 : Int32) w_28) else (f_X6_leastStuckSet_30 x1 x2 w_28)))
def f_X6_leastStuckSet_4  (x1 : Int32) (x2 : Int32) (w : am_S) : Option (Int32 × am_S) :=
  am_loop (fun (st : (Int32 × Int32 × am_S)) => f_X6_leastStuckSet_4b st.1 st.2.1 st.2.2) am_fuel (x1, x2, w)
def f_X6_leastStuckSet  (w : am_S) : Option (Int32 × am_S) :=
  f_X6_leastStuckSet_4 (0 : Int32) (1 : Int32) w
set_option maxRecDepth 100000 in
set_option maxHeartbeats 4000000 in
theorem k_X6_leastStuckSet {G : am_G} {l : Launch}   {w : am_S} {rr : Int32} {ww : am_S} (hf : f_X6_leastStuckSet  w = some (rr, ww)) : am_Mi G l yX6_leastStuckSet (Cond.code yX6_leastStuckSet cX6_leastStuckSet 4 (some .int) :: am_T) { frames := 4, cells := 0, slots := 0, locals := 256 } [.ref (G.1 + 257)] w rr ww := by
  refine Met.ofW (cc := cX6_leastStuckSet) (maxL := 4) (ret := (some .int)) (by decide) rfl ?_
  intro p e s m args below meth c s₁ B hml hv
  obtain ⟨rfl, hx, hb, hr, hts, hown, hlocks, hK, hE, hH⟩ := am_begin B hv
  have hown : s.vm.findClass RX6 = some m.cls := hown
  show W p l e { frames := 4, cells := 0, slots := 0, locals := 256 } s m _ below meth c s.heap [] 0 0 _ _
  have P4 : ∀ (n1 : Nat) (x1 : Int32) (x2 : Int32) (w : am_S) (H : Heap) (locs : List Loc) (ls : Array Slot), am_loop (fun (st : (Int32 × Int32 × am_S)) => f_X6_leastStuckSet_4b st.1 st.2.1 st.2.2) n1 (x1, x2, w) = some (rr, ww) → am_H G w s H locs → lv_has ls 4 [(0, .ref (G.1 + 257)), (1, .int x1), (2, .int x2)] → W p l e { frames := 4, cells := 0, slots := 0, locals := 256 } s m [.ref (G.1 + 257)].toArray below meth c H locs 0 0 (MQ below (va_Qi (fun (x : Int32) (u : am_S) => x = rr ∧ u = ww) (am_U G) (am_A G)) [.ref (G.1 + 257)].toArray s 0 0 (am_A G)) (F0 m 4 ls []) := by
    intro n1
    induction n1 with
    | zero =>
      intro x1 x2 w H locs ls hf hH hl
      exact (am_loop_zero hf).elim
    | succ n1 ih1 =>
      intro x1 x2 w H locs ls hf hH hl
      obtain ⟨z1, hf, hk1⟩ := am_loop_succ hf
      have hf : f_X6_leastStuckSet_4b x1 x2 w = some z1 := hf
      have P50 : ∀ (x1 : Int32) (x2 : Int32) (w : am_S) (z1 : ((Int32 × am_S) ⊕ (Int32 × Int32 × am_S))) (H : Heap) (locs : List Loc) (ls : Array Slot), f_X6_leastStuckSet_50 x1 x2 w = some z1 → am_lk (fun (st : (Int32 × Int32 × am_S)) => f_X6_leastStuckSet_4b st.1 st.2.1 st.2.2) n1 (rr, ww) z1 → am_H G w s H locs → lv_has ls 4 [(0, .ref (G.1 + 257)), (1, .int x1), (2, .int x2)] → W p l e { frames := 4, cells := 0, slots := 0, locals := 256 } s m [.ref (G.1 + 257)].toArray below meth c H locs 0 0 (MQ below (va_Qi (fun (x : Int32) (u : am_S) => x = rr ∧ u = ww) (am_U G) (am_A G)) [.ref (G.1 + 257)].toArray s 0 0 (am_A G)) (F0 m 50 ls []) := by
        intro x1 x2 w z1 H locs ls hf hk1 hH hl
        unfold f_X6_leastStuckSet_50 at hf
        obtain ⟨x2_16, hx2_16, hf⟩ := am_v_some hf
        refine lv_iinc (v := x2_16) (lv' := [(2, .int x2_16), (0, .ref (G.1 + 257)), (1, .int x1)]) hx hb dX6_leastStuckSet_50 hl (k := 2) rfl (by rw [hx2_16]; rfl) (by decide) rfl (fun ls hl => ?_)
        refine lv_goto (tgt := 4) hx hb dX6_leastStuckSet_53 (by decide) ?_
        obtain rfl := Option.some.inj hf
        exact ih1 x1 x2_16 w H locs ls hk1 hH (lv_sub hl [1, 2, 0] rfl)
      have P35 : ∀ (x1 : Int32) (x2 : Int32) (s0 : Int32) (w : am_S) (z1 : ((Int32 × am_S) ⊕ (Int32 × Int32 × am_S))) (H : Heap) (locs : List Loc) (ls : Array Slot), f_X6_leastStuckSet_35 x1 x2 s0 w = some z1 → am_lk (fun (st : (Int32 × Int32 × am_S)) => f_X6_leastStuckSet_4b st.1 st.2.1 st.2.2) n1 (rr, ww) z1 → am_H G w s H locs → lv_has ls 4 [(0, .ref (G.1 + 257)), (1, .int x1), (2, .int x2)] → W p l e { frames := 4, cells := 0, slots := 0, locals := 256 } s m [.ref (G.1 + 257)].toArray below meth c H locs 0 0 (MQ below (va_Qi (fun (x : Int32) (u : am_S) => x = rr ∧ u = ww) (am_U G) (am_A G)) [.ref (G.1 + 257)].toArray s 0 0 (am_A G)) (F0 m 35 ls [.int s0]) := by
        intro x1 x2 s0 w z1 H locs ls hf hk1 hH hl
        unfold f_X6_leastStuckSet_35 at hf
        refine lv_istore_n (lv' := [(3, .int s0), (0, .ref (G.1 + 257)), (1, .int x1), (2, .int x2)]) hx hb dX6_leastStuckSet_35 rfl hl (by decide) rfl (fun ls hl => ?_)
        refine lv_iload_n hx hb dX6_leastStuckSet_36 rfl (lv_at hl 0 rfl) ?_
        refine lv_if_eq (tgt := 50) hx hb dX6_leastStuckSet_37 (by decide) (fun hc_17 => ?_) (fun hc_17 => ?_)
        · have hf := (if_pos hc_17).symm.trans hf
          exact P50 x1 x2 w z1 H locs ls hf hk1 hH (lv_sub hl [1, 2, 3] rfl)
        · have hf := (if_neg hc_17).symm.trans hf
          refine lv_aload_n hx hb dX6_leastStuckSet_40 rfl (lv_at hl 1 rfl) ?_
          refine lv_iload_n hx hb dX6_leastStuckSet_41 rfl (lv_at hl 3 rfl) ?_
          obtain ⟨r_20, w_18, hq_19, hf⟩ := am_b2_some hf
          refine am_calli (r := r_20) (w' := w_18) (am_runV (n := 1) (As := [.int x2]) (rest := []) ⟨hx, hb, hml, hown, hts⟩ hK hE hH (k_X6_isStuckSet hq_19) (am_gV am_q1018 am_q1020 am_qs35 am_q11 am_q1021) (am_o6 (p := 257) (by decide +kernel)) rfl ⟨rfl, rfl⟩ (by decide +kernel) ⟨Nat.le_of_ble_eq_true rfl, Nat.le_of_ble_eq_true rfl⟩ rfl hl.1 rfl (Nat.le_of_ble_eq_true rfl) ⟨Nat.zero_le _, Nat.zero_le _⟩ dX6_leastStuckSet_42) hH (fun H locs hH => ?_)
          refine lv_if_eq (tgt := 50) hx hb dX6_leastStuckSet_45 (by decide) (fun hc_21 => ?_) (fun hc_21 => ?_)
          · have hf := (if_pos hc_21).symm.trans hf
            exact P50 x1 x2 w_18 z1 H locs ls hf hk1 hH (lv_sub hl [1, 2, 3] rfl)
          · have hf := (if_neg hc_21).symm.trans hf
            refine lv_iload_n hx hb dX6_leastStuckSet_48 rfl (lv_at hl 3 rfl) ?_
            refine lv_istore_n (lv' := [(1, .int x2), (3, .int s0), (0, .ref (G.1 + 257)), (2, .int x2)]) hx hb dX6_leastStuckSet_49 rfl hl (by decide) rfl (fun ls hl => ?_)
            exact P50 x2 x2 w_18 z1 H locs ls hf hk1 hH (lv_sub hl [2, 0, 3] rfl)
      have P30 : ∀ (x1 : Int32) (x2 : Int32) (w : am_S) (z1 : ((Int32 × am_S) ⊕ (Int32 × Int32 × am_S))) (H : Heap) (locs : List Loc) (ls : Array Slot), f_X6_leastStuckSet_30 x1 x2 w = some z1 → am_lk (fun (st : (Int32 × Int32 × am_S)) => f_X6_leastStuckSet_4b st.1 st.2.1 st.2.2) n1 (rr, ww) z1 → am_H G w s H locs → lv_has ls 4 [(0, .ref (G.1 + 257)), (1, .int x1), (2, .int x2)] → W p l e { frames := 4, cells := 0, slots := 0, locals := 256 } s m [.ref (G.1 + 257)].toArray below meth c H locs 0 0 (MQ below (va_Qi (fun (x : Int32) (u : am_S) => x = rr ∧ u = ww) (am_U G) (am_A G)) [.ref (G.1 + 257)].toArray s 0 0 (am_A G)) (F0 m 30 ls []) := by
        intro x1 x2 w z1 H locs ls hf hk1 hH hl
        unfold f_X6_leastStuckSet_30 at hf
        refine lv_iconst (v := 1) hx hb dX6_leastStuckSet_30 (by decide) ?_
        refine lv_goto (tgt := 35) hx hb dX6_leastStuckSet_31 (by decide) ?_
        exact P35 x1 x2 (1 : Int32) w z1 H locs ls hf hk1 hH (lv_sub hl [0, 1, 2] rfl)
      unfold f_X6_leastStuckSet_4b at hf
      refine lv_iload_n hx hb dX6_leastStuckSet_4 rfl (lv_at hl 2 rfl) ?_
      refine lv_aload_n hx hb dX6_leastStuckSet_5 rfl (lv_at hl 0 rfl) ?_
      refine am_get hx hb hts hK hown hH (am_o6 (p := 257) (by decide +kernel)) rfl am_inX6 1 (by decide) am_q315 (v := .ref (G.1 + 250)) rfl dX6_leastStuckSet_6 ?_
      refine am_get hx hb hts hK hown hH (am_o7 (p := 250) (by decide +kernel)) rfl am_inX7 6 (by decide) am_q270 (v := .int (w.1 250 6)) rfl dX6_leastStuckSet_9 ?_
      refine lv_icmp_gt (tgt := 56) hx hb dX6_leastStuckSet_12 (by decide) (fun hc_22 => ?_) (fun hc_22 => ?_)
      · have hf := (if_pos hc_22).symm.trans hf
        obtain ⟨y_23, hf, hzy_23⟩ := am_x_some hf
        rw [hzy_23] at hk1
        have hf := hf.trans (congrArg some (show y_23 = (rr, ww) from hk1))
        refine lv_iload_n hx hb dX6_leastStuckSet_56 rfl (lv_at hl 1 rfl) ?_
        exact am_reti hx hb hr hlocks hH hf dX6_leastStuckSet_57
      · have hf := (if_neg hc_22).symm.trans hf
        refine lv_iload_n hx hb dX6_leastStuckSet_15 rfl (lv_at hl 1 rfl) ?_
        refine lv_if_eq (tgt := 30) hx hb dX6_leastStuckSet_16 (by decide) (fun hc_24 => ?_) (fun hc_24 => ?_)
        · have hf := (if_pos hc_24).symm.trans hf
          exact P30 x1 x2 w z1 H locs ls hf hk1 hH (lv_sub hl [0, 1, 2] rfl)
        · have hf := (if_neg hc_24).symm.trans hf
          refine lv_iload_n hx hb dX6_leastStuckSet_19 rfl (lv_at hl 2 rfl) ?_
          obtain ⟨r_27, w_25, hq_26, hf⟩ := am_b2_some hf
          refine am_calli (r := r_27) (w' := w_25) (am_runS (n := 1) (As := [.int x2]) (rest := []) ⟨hx, hb, hml, hown, hts⟩ hK hE hH (k_J6_bitCount_0f7a4 hq_26) (am_gS am_q974 am_q716 am_q23 am_q717) ⟨rfl, rfl⟩ (by decide +kernel) ⟨Nat.le_of_ble_eq_true rfl, Nat.le_of_ble_eq_true rfl⟩ rfl hl.1 rfl (Nat.le_of_ble_eq_true rfl) ⟨Nat.zero_le _, Nat.zero_le _⟩ dX6_leastStuckSet_20) hH (fun H locs hH => ?_)
          refine lv_iload_n hx hb dX6_leastStuckSet_23 rfl (lv_at hl 1 rfl) ?_
          obtain ⟨r_30, w_28, hq_29, hf⟩ := am_b2_some hf
          refine am_calli (r := r_30) (w' := w_28) (am_runS (n := 1) (As := [.int x1]) (rest := [.int r_27]) ⟨hx, hb, hml, hown, hts⟩ hK hE hH (k_J6_bitCount_0f7a4 hq_29) (am_gS am_q974 am_q716 am_q23 am_q717) ⟨rfl, rfl⟩ (by decide +kernel) ⟨Nat.le_of_ble_eq_true rfl, Nat.le_of_ble_eq_true rfl⟩ rfl hl.1 rfl (Nat.le_of_ble_eq_true rfl) ⟨Nat.zero_le _, Nat.zero_le _⟩ dX6_leastStuckSet_24) hH (fun H locs hH => ?_)
          refine lv_icmp_ge (tgt := 34) hx hb dX6_leastStuckSet_27 (by decide) (fun hc_31 => ?_) (fun hc_31 => ?_)
          · have hf := (if_pos hc_31).symm.trans hf
            refine lv_iconst (v := 0) hx hb dX6_leastStuckSet_34 (by decide) ?_
            exact P35 x1 x2 (0 : Int32) w_28 z1 H locs ls hf hk1 hH (lv_sub hl [0, 1, 2] rfl)
          · have hf := (if_neg hc_31).symm.trans hf
            exact P30 x1 x2 w_28 z1 H locs ls hf hk1 hH (lv_sub hl [0, 1, 2] rfl)
  refine am_enter (lv := [(0, .ref (G.1 + 257))]) (Nat.le_of_ble_eq_true rfl) rfl (fun ls hl => ?_)
  unfold f_X6_leastStuckSet at hf
  refine am_start hH (fun H locs hH => ?_)
  refine lv_iconst (v := 0) hx hb dX6_leastStuckSet_0 (by decide) ?_
  refine lv_istore_n (lv' := [(1, .int (0 : Int32)), (0, .ref (G.1 + 257))]) hx hb dX6_leastStuckSet_1 rfl hl (by decide) rfl (fun ls hl => ?_)
  refine lv_iconst (v := 1) hx hb dX6_leastStuckSet_2 (by decide) ?_
  refine lv_istore_n (lv' := [(2, .int (1 : Int32)), (1, .int (0 : Int32)), (0, .ref (G.1 + 257))]) hx hb dX6_leastStuckSet_3 rfl hl (by decide) rfl (fun ls hl => ?_)
  exact P4 am_fuel (0 : Int32) (1 : Int32) w H locs ls hf hH (lv_sub hl [2, 1, 0] rfl)

def f_X6_stuckSets_29  (x2 : Int32) (s0 : Int32) (s1 : Int32) (w : am_S) : Option ((Int32 × am_S) ⊕ (Int32 × Int32 × am_S)) :=
  am_v (s1 + s0) fun (x1_8 : Int32) => am_v (x2 + (1 : Int32)) fun (x2_9 : Int32) => some (.inr (x1_8, x2_9, w))
def f_X6_stuckSets_4b  (x1 : Int32) (x2 : Int32) (w : am_S) : Option ((Int32 × am_S) ⊕ (Int32 × Int32 × am_S)) :=
  if (w.1 250 6) < x2 then (am_x (some (x1, w))) else (am_b2 (f_X6_isStuckSet x2 w) fun r_14 w_12 => if r_14 = 0 then (f_X6_stuckSets_29 x2 (0 : Int32) x1 w_12) else (f_X6_stuckSets_29 x2 (1 : Int32) x1 w_12))
def f_X6_stuckSets_4  (x1 : Int32) (x2 : Int32) (w : am_S) : Option (Int32 × am_S) :=
  am_loop (fun (st : (Int32 × Int32 × am_S)) => f_X6_stuckSets_4b st.1 st.2.1 st.2.2) am_fuel (x1, x2, w)
def f_X6_stuckSets  (w : am_S) : Option (Int32 × am_S) :=
  f_X6_stuckSets_4 (0 : Int32) (1 : Int32) w
set_option maxRecDepth 100000 in
set_option maxHeartbeats 4000000 in
theorem k_X6_stuckSets {G : am_G} {l : Launch}   {w : am_S} {rr : Int32} {ww : am_S} (hf : f_X6_stuckSets  w = some (rr, ww)) : am_Mi G l yX6_stuckSets (Cond.code yX6_stuckSets cX6_stuckSets 3 (some .int) :: am_T) { frames := 4, cells := 0, slots := 0, locals := 256 } [.ref (G.1 + 257)] w rr ww := by
  refine Met.ofW (cc := cX6_stuckSets) (maxL := 3) (ret := (some .int)) (by decide) rfl ?_
  intro p e s m args below meth c s₁ B hml hv
  obtain ⟨rfl, hx, hb, hr, hts, hown, hlocks, hK, hE, hH⟩ := am_begin B hv
  have hown : s.vm.findClass RX6 = some m.cls := hown
  show W p l e { frames := 4, cells := 0, slots := 0, locals := 256 } s m _ below meth c s.heap [] 0 0 _ _
  have P4 : ∀ (n1 : Nat) (x1 : Int32) (x2 : Int32) (w : am_S) (H : Heap) (locs : List Loc) (ls : Array Slot), am_loop (fun (st : (Int32 × Int32 × am_S)) => f_X6_stuckSets_4b st.1 st.2.1 st.2.2) n1 (x1, x2, w) = some (rr, ww) → am_H G w s H locs → lv_has ls 3 [(0, .ref (G.1 + 257)), (1, .int x1), (2, .int x2)] → W p l e { frames := 4, cells := 0, slots := 0, locals := 256 } s m [.ref (G.1 + 257)].toArray below meth c H locs 0 0 (MQ below (va_Qi (fun (x : Int32) (u : am_S) => x = rr ∧ u = ww) (am_U G) (am_A G)) [.ref (G.1 + 257)].toArray s 0 0 (am_A G)) (F0 m 4 ls []) := by
    intro n1
    induction n1 with
    | zero =>
      intro x1 x2 w H locs ls hf hH hl
      exact (am_loop_zero hf).elim
    | succ n1 ih1 =>
      intro x1 x2 w H locs ls hf hH hl
      obtain ⟨z1, hf, hk1⟩ := am_loop_succ hf
      have hf : f_X6_stuckSets_4b x1 x2 w = some z1 := hf
      have P29 : ∀ (x2 : Int32) (s0 : Int32) (s1 : Int32) (w : am_S) (z1 : ((Int32 × am_S) ⊕ (Int32 × Int32 × am_S))) (H : Heap) (locs : List Loc) (ls : Array Slot), f_X6_stuckSets_29 x2 s0 s1 w = some z1 → am_lk (fun (st : (Int32 × Int32 × am_S)) => f_X6_stuckSets_4b st.1 st.2.1 st.2.2) n1 (rr, ww) z1 → am_H G w s H locs → lv_has ls 3 [(0, .ref (G.1 + 257)), (2, .int x2)] → W p l e { frames := 4, cells := 0, slots := 0, locals := 256 } s m [.ref (G.1 + 257)].toArray below meth c H locs 0 0 (MQ below (va_Qi (fun (x : Int32) (u : am_S) => x = rr ∧ u = ww) (am_U G) (am_A G)) [.ref (G.1 + 257)].toArray s 0 0 (am_A G)) (F0 m 29 ls [.int s0, .int s1]) := by
        intro x2 s0 s1 w z1 H locs ls hf hk1 hH hl
        unfold f_X6_stuckSets_29 at hf
        refine lv_iadd hx hb dX6_stuckSets_29 ?_
        obtain ⟨x1_8, hx1_8, hf⟩ := am_v_some hf
        refine am_topi hx1_8 ?_
        refine lv_istore_n (lv' := [(1, .int x1_8), (0, .ref (G.1 + 257)), (2, .int x2)]) hx hb dX6_stuckSets_30 rfl hl (by decide) rfl (fun ls hl => ?_)
        obtain ⟨x2_9, hx2_9, hf⟩ := am_v_some hf
        refine lv_iinc (v := x2_9) (lv' := [(2, .int x2_9), (1, .int x1_8), (0, .ref (G.1 + 257))]) hx hb dX6_stuckSets_31 hl (k := 2) rfl (by rw [hx2_9]; rfl) (by decide) rfl (fun ls hl => ?_)
        refine lv_goto (tgt := 4) hx hb dX6_stuckSets_34 (by decide) ?_
        obtain rfl := Option.some.inj hf
        exact ih1 x1_8 x2_9 w H locs ls hk1 hH (lv_sub hl [2, 1, 0] rfl)
      unfold f_X6_stuckSets_4b at hf
      refine lv_iload_n hx hb dX6_stuckSets_4 rfl (lv_at hl 2 rfl) ?_
      refine lv_aload_n hx hb dX6_stuckSets_5 rfl (lv_at hl 0 rfl) ?_
      refine am_get hx hb hts hK hown hH (am_o6 (p := 257) (by decide +kernel)) rfl am_inX6 1 (by decide) am_q315 (v := .ref (G.1 + 250)) rfl dX6_stuckSets_6 ?_
      refine am_get hx hb hts hK hown hH (am_o7 (p := 250) (by decide +kernel)) rfl am_inX7 6 (by decide) am_q270 (v := .int (w.1 250 6)) rfl dX6_stuckSets_9 ?_
      refine lv_icmp_gt (tgt := 37) hx hb dX6_stuckSets_12 (by decide) (fun hc_10 => ?_) (fun hc_10 => ?_)
      · have hf := (if_pos hc_10).symm.trans hf
        obtain ⟨y_11, hf, hzy_11⟩ := am_x_some hf
        rw [hzy_11] at hk1
        have hf := hf.trans (congrArg some (show y_11 = (rr, ww) from hk1))
        refine lv_iload_n hx hb dX6_stuckSets_37 rfl (lv_at hl 1 rfl) ?_
        exact am_reti hx hb hr hlocks hH hf dX6_stuckSets_38
      · have hf := (if_neg hc_10).symm.trans hf
        refine lv_iload_n hx hb dX6_stuckSets_15 rfl (lv_at hl 1 rfl) ?_
        refine lv_aload_n hx hb dX6_stuckSets_16 rfl (lv_at hl 0 rfl) ?_
        refine lv_iload_n hx hb dX6_stuckSets_17 rfl (lv_at hl 2 rfl) ?_
        obtain ⟨r_14, w_12, hq_13, hf⟩ := am_b2_some hf
        refine am_calli (r := r_14) (w' := w_12) (am_runV (n := 1) (As := [.int x2]) (rest := [.int x1]) ⟨hx, hb, hml, hown, hts⟩ hK hE hH (k_X6_isStuckSet hq_13) (am_gV am_q1018 am_q1020 am_qs35 am_q11 am_q1021) (am_o6 (p := 257) (by decide +kernel)) rfl ⟨rfl, rfl⟩ (by decide +kernel) ⟨Nat.le_of_ble_eq_true rfl, Nat.le_of_ble_eq_true rfl⟩ rfl hl.1 rfl (Nat.le_of_ble_eq_true rfl) ⟨Nat.zero_le _, Nat.zero_le _⟩ dX6_stuckSets_18) hH (fun H locs hH => ?_)
        refine lv_if_eq (tgt := 28) hx hb dX6_stuckSets_21 (by decide) (fun hc_15 => ?_) (fun hc_15 => ?_)
        · have hf := (if_pos hc_15).symm.trans hf
          refine lv_iconst (v := 0) hx hb dX6_stuckSets_28 (by decide) ?_
          exact P29 x2 (0 : Int32) x1 w_12 z1 H locs ls hf hk1 hH (lv_sub hl [0, 2] rfl)
        · have hf := (if_neg hc_15).symm.trans hf
          refine lv_iconst (v := 1) hx hb dX6_stuckSets_24 (by decide) ?_
          refine lv_goto (tgt := 29) hx hb dX6_stuckSets_25 (by decide) ?_
          exact P29 x2 (1 : Int32) x1 w_12 z1 H locs ls hf hk1 hH (lv_sub hl [0, 2] rfl)
  refine am_enter (lv := [(0, .ref (G.1 + 257))]) (Nat.le_of_ble_eq_true rfl) rfl (fun ls hl => ?_)
  unfold f_X6_stuckSets at hf
  refine am_start hH (fun H locs hH => ?_)
  refine lv_iconst (v := 0) hx hb dX6_stuckSets_0 (by decide) ?_
  refine lv_istore_n (lv' := [(1, .int (0 : Int32)), (0, .ref (G.1 + 257))]) hx hb dX6_stuckSets_1 rfl hl (by decide) rfl (fun ls hl => ?_)
  refine lv_iconst (v := 1) hx hb dX6_stuckSets_2 (by decide) ?_
  refine lv_istore_n (lv' := [(2, .int (1 : Int32)), (1, .int (0 : Int32)), (0, .ref (G.1 + 257))]) hx hb dX6_stuckSets_3 rfl hl (by decide) rfl (fun ls hl => ?_)
  exact P4 am_fuel (0 : Int32) (1 : Int32) w H locs ls hf hH (lv_sub hl [2, 1, 0] rfl)

def f_X11_stuck_16 (a1 : Int32) (w : am_S) : Option (Int32 × am_S) :=
  some ((-1 : Int32), w)
def f_X11_stuck (a1 : Int32) (w : am_S) : Option (Int32 × am_S) :=
  am_b2 (f_X11_noField w) fun r_29 w_27 => if r_29 = 0 then (if a1 < 0 then (f_X11_stuck_16 a1 w_27) else (if a1 ≤ (3 : Int32) then (am_b1 (f_X7_lookAt 23 w_27) fun w_33 => (if a1 = (0 : Int32) then (am_b2 (f_X6_leastStuckSet w_33) fun r_40 w_38 => am_b2 (f_J6_bitCount_0f7a4 r_40 w_38) fun r_43 w_41 => some (r_43, w_41)) else (if a1 = (1 : Int32) then (am_b2 (f_X6_leastStuckSet w_33) fun r_46 w_44 => some (r_46, w_44)) else (if a1 = (2 : Int32) then (am_b2 (f_X6_stuckSets w_33) fun r_49 w_47 => some (r_49, w_47)) else (am_b2 (f_X7_stuckOf (w_33.1 250 6) w_33) fun r_52 w_50 => some (r_52, w_50)))))) else (f_X11_stuck_16 a1 w_27))) else (f_X11_stuck_16 a1 w_27)
set_option maxRecDepth 100000 in
set_option maxHeartbeats 4000000 in
theorem k_X11_stuck {G : am_G} {l : Launch} {a1 : Int32}  {w : am_S} {rr : Int32} {ww : am_S} (hf : f_X11_stuck a1 w = some (rr, ww)) : am_Mi G l yX11_stuck (Cond.code yX11_stuck cX11_stuck 2 (some .int) :: am_T) { frames := 5, cells := 0, slots := 0, locals := 320 } [.ref (G.1 + 0), .int a1] w rr ww := by
  refine Met.ofW (cc := cX11_stuck) (maxL := 2) (ret := (some .int)) (by decide) rfl ?_
  intro p e s m args below meth c s₁ B hml hv
  obtain ⟨rfl, hx, hb, hr, hts, hown, hlocks, hK, hE, hH⟩ := am_begin B hv
  have hown : s.vm.findClass RX11 = some m.cls := hown
  show W p l e { frames := 5, cells := 0, slots := 0, locals := 320 } s m _ below meth c s.heap [] 0 0 _ _
  have P16 : ∀ (w : am_S) (H : Heap) (locs : List Loc) (ls : Array Slot), f_X11_stuck_16 a1 w = some (rr, ww) → am_H G w s H locs → lv_has ls 2 [] → W p l e { frames := 5, cells := 0, slots := 0, locals := 320 } s m [.ref (G.1 + 0), .int a1].toArray below meth c H locs 0 0 (MQ below (va_Qi (fun (x : Int32) (u : am_S) => x = rr ∧ u = ww) (am_U G) (am_A G)) [.ref (G.1 + 0), .int a1].toArray s 0 0 (am_A G)) (F0 m 16 ls []) := by
    intro w H locs ls hf hH hl
    unfold f_X11_stuck_16 at hf
    refine lv_iconst (v := -1) hx hb dX11_stuck_16 (by decide) ?_
    exact am_reti hx hb hr hlocks hH hf dX11_stuck_17
  refine am_enter (lv := [(0, .ref (G.1 + 0)), (1, .int a1)]) (Nat.le_of_ble_eq_true rfl) rfl (fun ls hl => ?_)
  unfold f_X11_stuck at hf
  refine am_start hH (fun H locs hH => ?_)
  refine lv_aload_n hx hb dX11_stuck_0 rfl (lv_at hl 0 rfl) ?_
  obtain ⟨r_29, w_27, hq_28, hf⟩ := am_b2_some hf
  refine am_calli (r := r_29) (w' := w_27) (am_runV (n := 0) (As := []) (rest := []) ⟨hx, hb, hml, hown, hts⟩ hK hE hH (k_X11_noField hq_28) (am_gV am_q625 am_q627 am_qs11 am_q1 am_q628) (am_o11 (p := 0) (by decide +kernel)) rfl ⟨rfl, rfl⟩ (by decide +kernel) ⟨Nat.le_of_ble_eq_true rfl, Nat.le_of_ble_eq_true rfl⟩ rfl hl.1 rfl (Nat.le_of_ble_eq_true rfl) ⟨Nat.zero_le _, Nat.zero_le _⟩ dX11_stuck_1) hH (fun H locs hH => ?_)
  refine lv_if_ne (tgt := 16) hx hb dX11_stuck_4 (by decide) (fun hc_30 => ?_) (fun hc_30 => ?_)
  · have hf := (if_neg hc_30).symm.trans hf
    exact P16 w_27 H locs ls hf hH (lv_sub hl [] rfl)
  · have hf := (if_pos hc_30).symm.trans hf
    refine lv_iload_n hx hb dX11_stuck_7 rfl (lv_at hl 1 rfl) ?_
    refine lv_if_lt (tgt := 16) hx hb dX11_stuck_8 (by decide) (fun hc_31 => ?_) (fun hc_31 => ?_)
    · have hf := (if_pos hc_31).symm.trans hf
      exact P16 w_27 H locs ls hf hH (lv_sub hl [] rfl)
    · have hf := (if_neg hc_31).symm.trans hf
      refine lv_iload_n hx hb dX11_stuck_11 rfl (lv_at hl 1 rfl) ?_
      refine lv_iconst (v := 3) hx hb dX11_stuck_12 (by decide) ?_
      refine lv_icmp_le (tgt := 18) hx hb dX11_stuck_13 (by decide) (fun hc_32 => ?_) (fun hc_32 => ?_)
      · have hf := (if_pos hc_32).symm.trans hf
        refine lv_aload_n hx hb dX11_stuck_18 rfl (lv_at hl 0 rfl) ?_
        refine am_get hx hb hts hK hown hH (am_o11 (p := 0) (by decide +kernel)) rfl am_inX11 13 (by decide) am_q344 (v := .ref (G.1 + 250)) rfl dX11_stuck_19 ?_
        refine lv_aload_n hx hb dX11_stuck_22 rfl (lv_at hl 0 rfl) ?_
        refine am_get hx hb hts hK hown hH (am_o11 (p := 0) (by decide +kernel)) rfl am_inX11 5 (by decide) am_q336 (v := .ref (G.1 + 23)) rfl dX11_stuck_23 ?_
        obtain ⟨w_33, hq_34, hf⟩ := am_b1_some hf
        refine am_callv (w' := w_33) (am_runV (n := 1) (As := [.ref (G.1 + 23)]) (rest := []) ⟨hx, hb, hml, hown, hts⟩ hK hE hH (k_X7_lookAt (by decide +kernel) hq_34) (am_gV am_q670 am_q671 am_q672 am_q9 am_q673) (am_o7 (p := 250) (by decide +kernel)) rfl ⟨rfl, rfl⟩ (by decide +kernel) ⟨Nat.le_of_ble_eq_true rfl, Nat.le_of_ble_eq_true rfl⟩ rfl hl.1 rfl (Nat.le_of_ble_eq_true rfl) ⟨Nat.zero_le _, Nat.zero_le _⟩ dX11_stuck_26) hH (fun H locs hH => ?_)
        refine lv_iload_n hx hb dX11_stuck_29 rfl (lv_at hl 1 rfl) ?_
        by_cases he_35 : a1 = (0 : Int32)
        · have hf := (if_pos he_35).symm.trans hf
          refine lv_tableIn (off := 26) (tgt := 56) hx hb dX11_stuck_30 (by rw [he_35]; decide) (by rw [he_35]; decide) (by rw [he_35]; rfl) (by decide) ?_
          refine lv_aload_n hx hb dX11_stuck_56 rfl (lv_at hl 0 rfl) ?_
          refine am_get hx hb hts hK hown hH (am_o11 (p := 0) (by decide +kernel)) rfl am_inX11 15 (by decide) am_q346 (v := .ref (G.1 + 257)) rfl dX11_stuck_57 ?_
          obtain ⟨r_40, w_38, hq_39, hf⟩ := am_b2_some hf
          refine am_calli (r := r_40) (w' := w_38) (am_runV (n := 0) (As := []) (rest := []) ⟨hx, hb, hml, hown, hts⟩ hK hE hH (k_X6_leastStuckSet hq_39) (am_gV am_q1014 am_q1015 am_q1016 am_q11 am_q1017) (am_o6 (p := 257) (by decide +kernel)) rfl ⟨rfl, rfl⟩ (by decide +kernel) ⟨Nat.le_of_ble_eq_true rfl, Nat.le_of_ble_eq_true rfl⟩ rfl hl.1 rfl (Nat.le_of_ble_eq_true rfl) ⟨Nat.zero_le _, Nat.zero_le _⟩ dX11_stuck_60) hH (fun H locs hH => ?_)
          obtain ⟨r_43, w_41, hq_42, hf⟩ := am_b2_some hf
          refine am_calli (r := r_43) (w' := w_41) (am_runS (n := 1) (As := [.int r_40]) (rest := []) ⟨hx, hb, hml, hown, hts⟩ hK hE hH (k_J6_bitCount_0f7a4 hq_42) (am_gS am_q715 am_q716 am_q23 am_q717) ⟨rfl, rfl⟩ (by decide +kernel) ⟨Nat.le_of_ble_eq_true rfl, Nat.le_of_ble_eq_true rfl⟩ rfl hl.1 rfl (Nat.le_of_ble_eq_true rfl) ⟨Nat.zero_le _, Nat.zero_le _⟩ dX11_stuck_63) hH (fun H locs hH => ?_)
          exact am_reti hx hb hr hlocks hH hf dX11_stuck_66
        have hf := (if_neg he_35).symm.trans hf
        by_cases he_36 : a1 = (1 : Int32)
        · have hf := (if_pos he_36).symm.trans hf
          refine lv_tableIn (off := 37) (tgt := 67) hx hb dX11_stuck_30 (by rw [he_36]; decide) (by rw [he_36]; decide) (by rw [he_36]; rfl) (by decide) ?_
          refine lv_aload_n hx hb dX11_stuck_67 rfl (lv_at hl 0 rfl) ?_
          refine am_get hx hb hts hK hown hH (am_o11 (p := 0) (by decide +kernel)) rfl am_inX11 15 (by decide) am_q346 (v := .ref (G.1 + 257)) rfl dX11_stuck_68 ?_
          obtain ⟨r_46, w_44, hq_45, hf⟩ := am_b2_some hf
          refine am_calli (r := r_46) (w' := w_44) (am_runV (n := 0) (As := []) (rest := []) ⟨hx, hb, hml, hown, hts⟩ hK hE hH (k_X6_leastStuckSet hq_45) (am_gV am_q1014 am_q1015 am_q1016 am_q11 am_q1017) (am_o6 (p := 257) (by decide +kernel)) rfl ⟨rfl, rfl⟩ (by decide +kernel) ⟨Nat.le_of_ble_eq_true rfl, Nat.le_of_ble_eq_true rfl⟩ rfl hl.1 rfl (Nat.le_of_ble_eq_true rfl) ⟨Nat.zero_le _, Nat.zero_le _⟩ dX11_stuck_71) hH (fun H locs hH => ?_)
          exact am_reti hx hb hr hlocks hH hf dX11_stuck_74
        have hf := (if_neg he_36).symm.trans hf
        by_cases he_37 : a1 = (2 : Int32)
        · have hf := (if_pos he_37).symm.trans hf
          refine lv_tableIn (off := 45) (tgt := 75) hx hb dX11_stuck_30 (by rw [he_37]; decide) (by rw [he_37]; decide) (by rw [he_37]; rfl) (by decide) ?_
          refine lv_aload_n hx hb dX11_stuck_75 rfl (lv_at hl 0 rfl) ?_
          refine am_get hx hb hts hK hown hH (am_o11 (p := 0) (by decide +kernel)) rfl am_inX11 15 (by decide) am_q346 (v := .ref (G.1 + 257)) rfl dX11_stuck_76 ?_
          obtain ⟨r_49, w_47, hq_48, hf⟩ := am_b2_some hf
          refine am_calli (r := r_49) (w' := w_47) (am_runV (n := 0) (As := []) (rest := []) ⟨hx, hb, hml, hown, hts⟩ hK hE hH (k_X6_stuckSets hq_48) (am_gV am_q1022 am_q1023 am_q1024 am_q11 am_q1025) (am_o6 (p := 257) (by decide +kernel)) rfl ⟨rfl, rfl⟩ (by decide +kernel) ⟨Nat.le_of_ble_eq_true rfl, Nat.le_of_ble_eq_true rfl⟩ rfl hl.1 rfl (Nat.le_of_ble_eq_true rfl) ⟨Nat.zero_le _, Nat.zero_le _⟩ dX11_stuck_79) hH (fun H locs hH => ?_)
          exact am_reti hx hb hr hlocks hH hf dX11_stuck_82
        have hf := (if_neg he_37).symm.trans hf
        have nhe_35 := am_tne (k := 0) (0 : Int32) (by decide) he_35
        have nhe_36 := am_tne (k := 1) (1 : Int32) (by decide) he_36
        have nhe_37 := am_tne (k := 2) (2 : Int32) (by decide) he_37
        refine lv_tableOut (tgt := 83) hx hb dX11_stuck_30 (by omega) (by decide) ?_
        refine lv_aload_n hx hb dX11_stuck_83 rfl (lv_at hl 0 rfl) ?_
        refine am_get hx hb hts hK hown hH (am_o11 (p := 0) (by decide +kernel)) rfl am_inX11 13 (by decide) am_q344 (v := .ref (G.1 + 250)) rfl dX11_stuck_84 ?_
        refine lv_aload_n hx hb dX11_stuck_87 rfl (lv_at hl 0 rfl) ?_
        refine am_get hx hb hts hK hown hH (am_o11 (p := 0) (by decide +kernel)) rfl am_inX11 13 (by decide) am_q344 (v := .ref (G.1 + 250)) rfl dX11_stuck_88 ?_
        refine am_get hx hb hts hK hown hH (am_o7 (p := 250) (by decide +kernel)) rfl am_inX7 6 (by decide) am_q273 (v := .int (w_33.1 250 6)) rfl dX11_stuck_91 ?_
        obtain ⟨r_52, w_50, hq_51, hf⟩ := am_b2_some hf
        refine am_calli (r := r_52) (w' := w_50) (am_runV (n := 1) (As := [.int (w_33.1 250 6)]) (rest := []) ⟨hx, hb, hml, hown, hts⟩ hK hE hH (k_X7_stuckOf hq_51) (am_gV am_q949 am_q950 am_q951 am_q9 am_q952) (am_o7 (p := 250) (by decide +kernel)) rfl ⟨rfl, rfl⟩ (by decide +kernel) ⟨Nat.le_of_ble_eq_true rfl, Nat.le_of_ble_eq_true rfl⟩ rfl hl.1 rfl (Nat.le_of_ble_eq_true rfl) ⟨Nat.zero_le _, Nat.zero_le _⟩ dX11_stuck_94) hH (fun H locs hH => ?_)
        exact am_reti hx hb hr hlocks hH hf dX11_stuck_97
      · have hf := (if_neg hc_32).symm.trans hf
        exact P16 w_27 H locs ls hf hH (lv_sub hl [] rfl)

def f_X11_swap (a1 : Int32) (a2 : Int32) (w : am_S) : Option (Int32 × am_S) :=
  am_b2 (f_X11_act (8 : Int32) a1 a2 (0 : Int64) w) fun r_6 w_4 => some (r_6, w_4)
set_option maxRecDepth 100000 in
set_option maxHeartbeats 4000000 in
theorem k_X11_swap {G : am_G} {l : Launch} {a1 : Int32} {a2 : Int32}  {w : am_S} {rr : Int32} {ww : am_S} (hf : f_X11_swap a1 a2 w = some (rr, ww)) : am_Mi G l yX11_swap (Cond.code yX11_swap cX11_swap 3 (some .int) :: am_T) { frames := 7, cells := 0, slots := 0, locals := 448 } [.ref (G.1 + 0), .int a1, .int a2] w rr ww := by
  refine Met.ofW (cc := cX11_swap) (maxL := 3) (ret := (some .int)) (by decide) rfl ?_
  intro p e s m args below meth c s₁ B hml hv
  obtain ⟨rfl, hx, hb, hr, hts, hown, hlocks, hK, hE, hH⟩ := am_begin B hv
  have hown : s.vm.findClass RX11 = some m.cls := hown
  show W p l e { frames := 7, cells := 0, slots := 0, locals := 448 } s m _ below meth c s.heap [] 0 0 _ _
  refine am_enter (lv := [(0, .ref (G.1 + 0)), (1, .int a1), (2, .int a2)]) (Nat.le_of_ble_eq_true rfl) rfl (fun ls hl => ?_)
  unfold f_X11_swap at hf
  refine am_start hH (fun H locs hH => ?_)
  refine lv_aload_n hx hb dX11_swap_0 rfl (lv_at hl 0 rfl) ?_
  refine lv_bipush (v := 8) hx hb dX11_swap_1 (by decide) ?_
  refine lv_iload_n hx hb dX11_swap_3 rfl (lv_at hl 1 rfl) ?_
  refine lv_iload_n hx hb dX11_swap_4 rfl (lv_at hl 2 rfl) ?_
  refine lv_lconst (v := 0) hx hb dX11_swap_5 (by decide) ?_
  obtain ⟨r_6, w_4, hq_5, hf⟩ := am_b2_some hf
  refine am_calli (r := r_6) (w' := w_4) (am_runV (n := 4) (As := [.int (8 : Int32), .int a1, .int a2, .long (0 : Int64)]) (rest := []) ⟨hx, hb, hml, hown, hts⟩ hK hE hH (k_X11_act hq_5) (am_gV am_q725 am_q727 am_qs16 am_q1 am_q728) (am_o11 (p := 0) (by decide +kernel)) rfl ⟨rfl, rfl⟩ (by decide +kernel) ⟨Nat.le_of_ble_eq_true rfl, Nat.le_of_ble_eq_true rfl⟩ rfl hl.1 rfl (Nat.le_of_ble_eq_true rfl) ⟨Nat.zero_le _, Nat.zero_le _⟩ dX11_swap_6) hH (fun H locs hH => ?_)
  exact am_reti hx hb hr hlocks hH hf dX11_swap_9

def f_X11_tell (a1 : Int32) (w : am_S) : Option (Int32 × am_S) :=
  am_b2 (f_X11_act (2 : Int32) a1 (-1 : Int32) (0 : Int64) w) fun r_6 w_4 => some (r_6, w_4)
set_option maxRecDepth 100000 in
set_option maxHeartbeats 4000000 in
theorem k_X11_tell {G : am_G} {l : Launch} {a1 : Int32}  {w : am_S} {rr : Int32} {ww : am_S} (hf : f_X11_tell a1 w = some (rr, ww)) : am_Mi G l yX11_tell (Cond.code yX11_tell cX11_tell 2 (some .int) :: am_T) { frames := 7, cells := 0, slots := 0, locals := 448 } [.ref (G.1 + 0), .int a1] w rr ww := by
  refine Met.ofW (cc := cX11_tell) (maxL := 2) (ret := (some .int)) (by decide) rfl ?_
  intro p e s m args below meth c s₁ B hml hv
  obtain ⟨rfl, hx, hb, hr, hts, hown, hlocks, hK, hE, hH⟩ := am_begin B hv
  have hown : s.vm.findClass RX11 = some m.cls := hown
  show W p l e { frames := 7, cells := 0, slots := 0, locals := 448 } s m _ below meth c s.heap [] 0 0 _ _
  refine am_enter (lv := [(0, .ref (G.1 + 0)), (1, .int a1)]) (Nat.le_of_ble_eq_true rfl) rfl (fun ls hl => ?_)
  unfold f_X11_tell at hf
  refine am_start hH (fun H locs hH => ?_)
  refine lv_aload_n hx hb dX11_tell_0 rfl (lv_at hl 0 rfl) ?_
  refine lv_iconst (v := 2) hx hb dX11_tell_1 (by decide) ?_
  refine lv_iload_n hx hb dX11_tell_2 rfl (lv_at hl 1 rfl) ?_
  refine lv_iconst (v := -1) hx hb dX11_tell_3 (by decide) ?_
  refine lv_lconst (v := 0) hx hb dX11_tell_4 (by decide) ?_
  obtain ⟨r_6, w_4, hq_5, hf⟩ := am_b2_some hf
  refine am_calli (r := r_6) (w' := w_4) (am_runV (n := 4) (As := [.int (2 : Int32), .int a1, .int (-1 : Int32), .long (0 : Int64)]) (rest := []) ⟨hx, hb, hml, hown, hts⟩ hK hE hH (k_X11_act hq_5) (am_gV am_q725 am_q727 am_qs16 am_q1 am_q728) (am_o11 (p := 0) (by decide +kernel)) rfl ⟨rfl, rfl⟩ (by decide +kernel) ⟨Nat.le_of_ble_eq_true rfl, Nat.le_of_ble_eq_true rfl⟩ rfl hl.1 rfl (Nat.le_of_ble_eq_true rfl) ⟨Nat.zero_le _, Nat.zero_le _⟩ dX11_tell_5) hH (fun H locs hH => ?_)
  exact am_reti hx hb hr hlocks hH hf dX11_tell_8

def f_J7_fill_d0a16_6b (p0 : Nat) (m0 : Nat) (a1 : Int64) (x4 : Int32) (x3 : Int32) (w : am_S) : Option (am_S ⊕ (Int32 × am_S)) :=
  if x4 ≤ x3 then (am_x (some w)) else (am_chk x3 m0 (am_v (am_pl w p0 x3.toNatClampNeg a1) fun (w_9 : am_S) => am_v (x3 + (1 : Int32)) fun (x3_10 : Int32) => some (.inr (x3_10, w_9))))
def f_J7_fill_d0a16_6 (p0 : Nat) (m0 : Nat) (a1 : Int64) (x3 : Int32) (x4 : Int32) (w : am_S) : Option am_S :=
  am_loop (fun (st : (Int32 × am_S)) => f_J7_fill_d0a16_6b p0 m0 a1 x4 st.1 st.2) am_fuel (x3, w)
def f_J7_fill_d0a16 (p0 : Nat) (m0 : Nat) (a1 : Int64) (w : am_S) : Option am_S :=
  am_v (Int32.ofNat m0) fun (x4_11 : Int32) => f_J7_fill_d0a16_6 p0 m0 a1 (0 : Int32) x4_11 w
set_option maxRecDepth 100000 in
set_option maxHeartbeats 4000000 in
theorem k_J7_fill_d0a16 {G : am_G} {l : Launch} {p0 : Nat} {m0 : Nat} {a1 : Int64} (ha0 : am_al G p0 m0) {w : am_S} {ww : am_S} (hf : f_J7_fill_d0a16 p0 m0 a1 w = some ww) : am_Mv G l yJ7_fill_d0a16 (Cond.code yJ7_fill_d0a16 cJ7_fill_d0a16 5 none :: am_T) { frames := 0, cells := 0, slots := 0, locals := 0 } [.ref (G.1 + p0), .long a1] w ww := by
  refine Met.ofW (cc := cJ7_fill_d0a16) (maxL := 5) (ret := none) (by decide) rfl ?_
  intro p e s m args below meth c s₁ B hml hv
  obtain ⟨rfl, hx, hb, hr, hts, hown, hlocks, hK, hE, hH⟩ := am_begin B hv
  have hown : s.vm.findClass RJ7 = some m.cls := hown
  show W p l e { frames := 0, cells := 0, slots := 0, locals := 0 } s m _ below meth c s.heap [] 0 0 _ _
  have P6 : ∀ (x4 : Int32) (n1 : Nat) (x3 : Int32) (w : am_S) (H : Heap) (locs : List Loc) (ls : Array Slot), am_loop (fun (st : (Int32 × am_S)) => f_J7_fill_d0a16_6b p0 m0 a1 x4 st.1 st.2) n1 (x3, w) = some ww → am_H G w s H locs → lv_has ls 5 [(0, .ref (G.1 + p0)), (1, .long a1), (3, .int x3), (4, .int x4)] → W p l e { frames := 0, cells := 0, slots := 0, locals := 0 } s m [.ref (G.1 + p0), .long a1].toArray below meth c H locs 0 0 (MQ below (va_Qv (fun (u : am_S) => u = ww) (am_U G) (am_A G)) [.ref (G.1 + p0), .long a1].toArray s 0 0 (am_A G)) (F0 m 6 ls []) := by
    intro x4 n1
    induction n1 with
    | zero =>
      intro x3 w H locs ls hf hH hl
      exact (am_loop_zero hf).elim
    | succ n1 ih1 =>
      intro x3 w H locs ls hf hH hl
      obtain ⟨z1, hf, hk1⟩ := am_loop_succ hf
      have hf : f_J7_fill_d0a16_6b p0 m0 a1 x4 x3 w = some z1 := hf
      unfold f_J7_fill_d0a16_6b at hf
      refine lv_iload_n hx hb dJ7_fill_d0a16_6 rfl (lv_at hl 2 rfl) ?_
      refine lv_iload hx hb dJ7_fill_d0a16_7 (lv_at hl 3 rfl) ?_
      refine lv_icmp_ge (tgt := 22) hx hb dJ7_fill_d0a16_9 (by decide) (fun hc_6 => ?_) (fun hc_6 => ?_)
      · have hf := (if_pos hc_6).symm.trans hf
        obtain ⟨y_7, hf, hzy_7⟩ := am_x_some hf
        rw [hzy_7] at hk1
        have hf := hf.trans (congrArg some (show y_7 = ww from hk1))
        exact am_retv hx hb hr hlocks hH hf dJ7_fill_d0a16_22
      · have hf := (if_neg hc_6).symm.trans hf
        refine lv_aload_n hx hb dJ7_fill_d0a16_12 rfl (lv_at hl 0 rfl) ?_
        refine lv_iload_n hx hb dJ7_fill_d0a16_13 rfl (lv_at hl 2 rfl) ?_
        refine lv_lload_n hx hb dJ7_fill_d0a16_14 rfl (lv_at hl 1 rfl) ?_
        obtain ⟨hi_8, hf⟩ := am_chk_some hf
        obtain ⟨w_9, hw_9, hf⟩ := am_v_some hf
        refine am_last hx hb hK hH ha0 hi_8 dJ7_fill_d0a16_15 (fun H locs hH => ?_)
        rw [← hw_9] at hH
        obtain ⟨x3_10, hx3_10, hf⟩ := am_v_some hf
        refine lv_iinc (v := x3_10) (lv' := [(3, .int x3_10), (0, .ref (G.1 + p0)), (1, .long a1), (4, .int x4)]) hx hb dJ7_fill_d0a16_16 hl (k := 2) rfl (by rw [hx3_10]; rfl) (by decide) rfl (fun ls hl => ?_)
        refine lv_goto (tgt := 6) hx hb dJ7_fill_d0a16_19 (by decide) ?_
        obtain rfl := Option.some.inj hf
        exact ih1 x3_10 w_9 H locs ls hk1 hH (lv_sub hl [1, 2, 0, 3] rfl)
  refine am_enter (lv := [(0, .ref (G.1 + p0)), (1, .long a1)]) (Nat.le_of_ble_eq_true rfl) rfl (fun ls hl => ?_)
  unfold f_J7_fill_d0a16 at hf
  refine am_start hH (fun H locs hH => ?_)
  refine lv_iconst (v := 0) hx hb dJ7_fill_d0a16_0 (by decide) ?_
  refine lv_istore_n (lv' := [(3, .int (0 : Int32)), (0, .ref (G.1 + p0)), (1, .long a1)]) hx hb dJ7_fill_d0a16_1 rfl hl (by decide) rfl (fun ls hl => ?_)
  refine lv_aload_n hx hb dJ7_fill_d0a16_2 rfl (lv_at hl 1 rfl) ?_
  refine am_lenl (v := Int32.ofNat m0) hx hb hK hH ha0 rfl dJ7_fill_d0a16_3 ?_
  obtain ⟨x4_11, hx4_11, hf⟩ := am_v_some hf
  refine am_topi hx4_11 ?_
  refine lv_istore (lv' := [(4, .int x4_11), (3, .int (0 : Int32)), (0, .ref (G.1 + p0)), (1, .long a1)]) hx hb dJ7_fill_d0a16_4 hl (by decide) rfl (fun ls hl => ?_)
  exact P6 x4_11 am_fuel (0 : Int32) w H locs ls hf hH (lv_sub hl [2, 3, 1, 0] rfl)

def f_X9_begin_34b (o0 : Nat) (o1 : Nat) (x2 : Int32) (w : am_S) : Option (am_S ⊕ (Int32 × am_S)) :=
  if (w.1 o1 11) ≤ x2 then (am_x (some w)) else (am_chk x2 10 (am_chk x2 10 (am_v (((w.1 (o1 + 5) x2.toNatClampNeg).toInt64) ||| (am_lshl ((w.1 (o1 + 6) x2.toNatClampNeg).toInt64) (w.1 o1 7))) fun (x3_22 : Int64) => am_b2 (f_X1_reachFrom o1 x2 w) fun r_25 w_23 => am_chk x2 10 (am_v (am_pl w_23 (o0 + 2) x2.toNatClampNeg (am_lshl x3_22 r_25)) fun (w_27 : am_S) => am_v (x2 + (1 : Int32)) fun (x2_28 : Int32) => some (.inr (x2_28, w_27))))))
def f_X9_begin_34 (o0 : Nat) (o1 : Nat) (x2 : Int32) (w : am_S) : Option am_S :=
  am_loop (fun (st : (Int32 × am_S)) => f_X9_begin_34b o0 o1 st.1 st.2) am_fuel (x2, w)
def f_X9_begin (o0 : Nat) (o1 : Nat) (w : am_S) : Option am_S :=
  am_b1 (f_J7_fill_53178 (o0 + 1) 10 (0 : Int32) w) fun w_29 => am_b1 (f_J7_fill_d0a16 (o0 + 2) 10 (0 : Int64) w_29) fun w_31 => am_b1 (f_J7_fill_53178 (o0 + 4) 3 (0 : Int32) w_31) fun w_33 => am_v (am_pi w_33 o0 4 (w_33.1 o1 9)) fun (w_35 : am_S) => f_X9_begin_34 o0 o1 (0 : Int32) w_35
set_option maxRecDepth 100000 in
set_option maxHeartbeats 4000000 in
theorem k_X9_begin {G : am_G} {l : Launch} {o0 : Nat} {o1 : Nat} (ho0 : am_f9 o0) (ho1 : am_f1 o1) {w : am_S} {ww : am_S} (hf : f_X9_begin o0 o1 w = some ww) : am_Mv G l yX9_begin (Cond.code yX9_begin cX9_begin 5 none :: am_T) { frames := 1, cells := 0, slots := 0, locals := 64 } [.ref (G.1 + o0), .ref (G.1 + o1)] w ww := by
  refine Met.ofW (cc := cX9_begin) (maxL := 5) (ret := none) (by decide) rfl ?_
  intro p e s m args below meth c s₁ B hml hv
  obtain ⟨rfl, hx, hb, hr, hts, hown, hlocks, hK, hE, hH⟩ := am_begin B hv
  have hown : s.vm.findClass RX9 = some m.cls := hown
  show W p l e { frames := 1, cells := 0, slots := 0, locals := 64 } s m _ below meth c s.heap [] 0 0 _ _
  have P34 : ∀ (n1 : Nat) (x2 : Int32) (w : am_S) (H : Heap) (locs : List Loc) (ls : Array Slot), am_loop (fun (st : (Int32 × am_S)) => f_X9_begin_34b o0 o1 st.1 st.2) n1 (x2, w) = some ww → am_H G w s H locs → lv_has ls 5 [(0, .ref (G.1 + o0)), (1, .ref (G.1 + o1)), (2, .int x2)] → W p l e { frames := 1, cells := 0, slots := 0, locals := 64 } s m [.ref (G.1 + o0), .ref (G.1 + o1)].toArray below meth c H locs 0 0 (MQ below (va_Qv (fun (u : am_S) => u = ww) (am_U G) (am_A G)) [.ref (G.1 + o0), .ref (G.1 + o1)].toArray s 0 0 (am_A G)) (F0 m 34 ls []) := by
    intro n1
    induction n1 with
    | zero =>
      intro x2 w H locs ls hf hH hl
      exact (am_loop_zero hf).elim
    | succ n1 ih1 =>
      intro x2 w H locs ls hf hH hl
      obtain ⟨z1, hf, hk1⟩ := am_loop_succ hf
      have hf : f_X9_begin_34b o0 o1 x2 w = some z1 := hf
      unfold f_X9_begin_34b at hf
      refine lv_iload_n hx hb dX9_begin_34 rfl (lv_at hl 2 rfl) ?_
      refine lv_aload_n hx hb dX9_begin_35 rfl (lv_at hl 1 rfl) ?_
      refine am_get hx hb hts hK hown hH (am_o1 ho1.1) rfl am_inX1 11 (by decide) am_q103 (v := .int (w.1 o1 11)) rfl dX9_begin_36 ?_
      refine lv_icmp_ge (tgt := 82) hx hb dX9_begin_39 (by decide) (fun hc_18 => ?_) (fun hc_18 => ?_)
      · have hf := (if_pos hc_18).symm.trans hf
        obtain ⟨y_19, hf, hzy_19⟩ := am_x_some hf
        rw [hzy_19] at hk1
        have hf := hf.trans (congrArg some (show y_19 = ww from hk1))
        exact am_retv hx hb hr hlocks hH hf dX9_begin_82
      · have hf := (if_neg hc_18).symm.trans hf
        refine lv_aload_n hx hb dX9_begin_42 rfl (lv_at hl 1 rfl) ?_
        refine am_get hx hb hts hK hown hH (am_o1 ho1.1) rfl am_inX1 4 (by decide) am_q82 (v := .ref (G.1 + (o1 + 5))) rfl dX9_begin_43 ?_
        refine lv_iload_n hx hb dX9_begin_46 rfl (lv_at hl 2 rfl) ?_
        obtain ⟨hi_20, hf⟩ := am_chk_some hf
        refine am_iald hx hb hK hH (am_ai_of (N := 10) ho1.2.2.2.2.2.1) hi_20 dX9_begin_47 ?_
        refine lv_i2l hx hb dX9_begin_48 rfl ?_
        refine lv_aload_n hx hb dX9_begin_49 rfl (lv_at hl 1 rfl) ?_
        refine am_get hx hb hts hK hown hH (am_o1 ho1.1) rfl am_inX1 5 (by decide) am_q84 (v := .ref (G.1 + (o1 + 6))) rfl dX9_begin_50 ?_
        refine lv_iload_n hx hb dX9_begin_53 rfl (lv_at hl 2 rfl) ?_
        obtain ⟨hi_21, hf⟩ := am_chk_some hf
        refine am_iald hx hb hK hH (am_ai_of (N := 10) ho1.2.2.2.2.2.2.1) hi_21 dX9_begin_54 ?_
        refine lv_i2l hx hb dX9_begin_55 rfl ?_
        refine lv_aload_n hx hb dX9_begin_56 rfl (lv_at hl 1 rfl) ?_
        refine am_get hx hb hts hK hown hH (am_o1 ho1.1) rfl am_inX1 7 (by decide) am_q90 (v := .int (w.1 o1 7)) rfl dX9_begin_57 ?_
        refine lv_lshl (v := am_lshl ((w.1 (o1 + 6) x2.toNatClampNeg).toInt64) (w.1 o1 7)) hx hb dX9_begin_60 rfl ?_
        refine lv_lor hx hb dX9_begin_61 ?_
        obtain ⟨x3_22, hx3_22, hf⟩ := am_v_some hf
        refine am_topl hx3_22 ?_
        refine lv_lstore_n (lv' := [(3, .long x3_22), (0, .ref (G.1 + o0)), (1, .ref (G.1 + o1)), (2, .int x2)]) hx hb dX9_begin_62 rfl hl (by decide) rfl (fun ls hl => ?_)
        refine lv_aload_n hx hb dX9_begin_63 rfl (lv_at hl 1 rfl) ?_
        refine am_get hx hb hts hK hown hH (am_o9 ho0.1) rfl am_inX9 1 (by decide) am_q177 (v := .ref (G.1 + (o0 + 2))) rfl dX9_begin_64 ?_
        refine lv_iload_n hx hb dX9_begin_67 rfl (lv_at hl 3 rfl) ?_
        refine lv_lload_n hx hb dX9_begin_68 rfl (lv_at hl 0 rfl) ?_
        refine lv_aload_n hx hb dX9_begin_69 rfl (lv_at hl 2 rfl) ?_
        refine lv_iload_n hx hb dX9_begin_70 rfl (lv_at hl 3 rfl) ?_
        obtain ⟨r_25, w_23, hq_24, hf⟩ := am_b2_some hf
        refine am_calli (r := r_25) (w' := w_23) (am_runV (n := 1) (As := [.int x2]) (rest := [.long x3_22, .int x2, .ref (G.1 + (o0 + 2))]) ⟨hx, hb, hml, hown, hts⟩ hK hE hH (k_X1_reachFrom ho1 hq_24) (am_gV am_q600 am_q601 am_q602 am_q3 am_q603) (am_o1 ho1.1) rfl ⟨rfl, rfl⟩ (by decide +kernel) ⟨Nat.le_of_ble_eq_true rfl, Nat.le_of_ble_eq_true rfl⟩ rfl hl.1 rfl (Nat.le_of_ble_eq_true rfl) ⟨Nat.zero_le _, Nat.zero_le _⟩ dX9_begin_71) hH (fun H locs hH => ?_)
        refine lv_lshl (v := am_lshl x3_22 r_25) hx hb dX9_begin_74 rfl ?_
        obtain ⟨hi_26, hf⟩ := am_chk_some hf
        obtain ⟨w_27, hw_27, hf⟩ := am_v_some hf
        refine am_last hx hb hK hH (am_al_of (N := 10) ho0.2.2.1) hi_26 dX9_begin_75 (fun H locs hH => ?_)
        rw [← hw_27] at hH
        obtain ⟨x2_28, hx2_28, hf⟩ := am_v_some hf
        refine lv_iinc (v := x2_28) (lv' := [(2, .int x2_28), (3, .long x3_22), (0, .ref (G.1 + o0)), (1, .ref (G.1 + o1))]) hx hb dX9_begin_76 hl (k := 3) rfl (by rw [hx2_28]; rfl) (by decide) rfl (fun ls hl => ?_)
        refine lv_goto (tgt := 34) hx hb dX9_begin_79 (by decide) ?_
        obtain rfl := Option.some.inj hf
        exact ih1 x2_28 w_27 H locs ls hk1 hH (lv_sub hl [2, 3, 0] rfl)
  refine am_enter (lv := [(0, .ref (G.1 + o0)), (1, .ref (G.1 + o1))]) (Nat.le_of_ble_eq_true rfl) rfl (fun ls hl => ?_)
  unfold f_X9_begin at hf
  refine am_start hH (fun H locs hH => ?_)
  refine lv_aload_n hx hb dX9_begin_0 rfl (lv_at hl 0 rfl) ?_
  refine am_get hx hb hts hK hown hH (am_o9 ho0.1) rfl am_inX9 0 (by decide) am_q173 (v := .ref (G.1 + (o0 + 1))) rfl dX9_begin_1 ?_
  refine lv_iconst (v := 0) hx hb dX9_begin_4 (by decide) ?_
  obtain ⟨w_29, hq_30, hf⟩ := am_b1_some hf
  refine am_callv (w' := w_29) (am_runS (n := 2) (As := [.ref (G.1 + (o0 + 1)), .int (0 : Int32)]) (rest := []) ⟨hx, hb, hml, hown, hts⟩ hK hE hH (k_J7_fill_53178 (am_ai_of (N := 10) ho0.2.1) hq_30) (am_gS am_q596 am_q423 am_q14 am_q424) ⟨rfl, rfl⟩ (by decide +kernel) ⟨Nat.le_of_ble_eq_true rfl, Nat.le_of_ble_eq_true rfl⟩ rfl hl.1 rfl (Nat.le_of_ble_eq_true rfl) ⟨Nat.zero_le _, Nat.zero_le _⟩ dX9_begin_5) hH (fun H locs hH => ?_)
  refine lv_aload_n hx hb dX9_begin_8 rfl (lv_at hl 0 rfl) ?_
  refine am_get hx hb hts hK hown hH (am_o9 ho0.1) rfl am_inX9 1 (by decide) am_q177 (v := .ref (G.1 + (o0 + 2))) rfl dX9_begin_9 ?_
  refine lv_lconst (v := 0) hx hb dX9_begin_12 (by decide) ?_
  obtain ⟨w_31, hq_32, hf⟩ := am_b1_some hf
  refine am_callv (w' := w_31) (am_runS (n := 2) (As := [.ref (G.1 + (o0 + 2)), .long (0 : Int64)]) (rest := []) ⟨hx, hb, hml, hown, hts⟩ hK hE hH (k_J7_fill_d0a16 (am_al_of (N := 10) ho0.2.2.1) hq_32) (am_gS am_q597 am_q598 am_q14 am_q599) ⟨rfl, rfl⟩ (by decide +kernel) ⟨Nat.le_of_ble_eq_true rfl, Nat.le_of_ble_eq_true rfl⟩ rfl hl.1 rfl (Nat.le_of_ble_eq_true rfl) ⟨Nat.zero_le _, Nat.zero_le _⟩ dX9_begin_13) hH (fun H locs hH => ?_)
  refine lv_aload_n hx hb dX9_begin_16 rfl (lv_at hl 0 rfl) ?_
  refine am_get hx hb hts hK hown hH (am_o9 ho0.1) rfl am_inX9 3 (by decide) am_q184 (v := .ref (G.1 + (o0 + 4))) rfl dX9_begin_17 ?_
  refine lv_iconst (v := 0) hx hb dX9_begin_20 (by decide) ?_
  obtain ⟨w_33, hq_34, hf⟩ := am_b1_some hf
  refine am_callv (w' := w_33) (am_runS (n := 2) (As := [.ref (G.1 + (o0 + 4)), .int (0 : Int32)]) (rest := []) ⟨hx, hb, hml, hown, hts⟩ hK hE hH (k_J7_fill_53178 (am_ai_of (N := 3) ho0.2.2.2.2) hq_34) (am_gS am_q596 am_q423 am_q14 am_q424) ⟨rfl, rfl⟩ (by decide +kernel) ⟨Nat.le_of_ble_eq_true rfl, Nat.le_of_ble_eq_true rfl⟩ rfl hl.1 rfl (Nat.le_of_ble_eq_true rfl) ⟨Nat.zero_le _, Nat.zero_le _⟩ dX9_begin_21) hH (fun H locs hH => ?_)
  refine lv_aload_n hx hb dX9_begin_24 rfl (lv_at hl 0 rfl) ?_
  refine lv_aload_n hx hb dX9_begin_25 rfl (lv_at hl 1 rfl) ?_
  refine am_get hx hb hts hK hown hH (am_o1 ho1.1) rfl am_inX1 9 (by decide) am_q97 (v := .int (w_33.1 o1 9)) rfl dX9_begin_26 ?_
  obtain ⟨w_35, hw_35, hf⟩ := am_v_some hf
  refine am_puti hx hb hts hK hown hH (am_o9 ho0.1) rfl am_inX9 tyX9 tyX9_ok nmX9 4 (by decide) am_q187 rfl rfl rfl (fun _ _ => Nat.le_of_ble_eq_true rfl) (fun _ _ _ => rfl) dX9_begin_29 (fun H locs hH => ?_)
  rw [← hw_35] at hH
  refine lv_iconst (v := 0) hx hb dX9_begin_32 (by decide) ?_
  refine lv_istore_n (lv' := [(2, .int (0 : Int32)), (0, .ref (G.1 + o0)), (1, .ref (G.1 + o1))]) hx hb dX9_begin_33 rfl hl (by decide) rfl (fun ls hl => ?_)
  exact P34 am_fuel (0 : Int32) w_35 H locs ls hf hH (lv_sub hl [1, 2, 0] rfl)

def f_J6_numberOfLeadingZeros_0f7a4_73 (a0 : Int32) (x0 : Int32) (x1 : Int32) (w : am_S) : Option (Int32 × am_S) :=
  some (x1 - (am_iushr x0 (1 : Int32)), w)
def f_J6_numberOfLeadingZeros_0f7a4_61 (a0 : Int32) (x0 : Int32) (x1 : Int32) (w : am_S) : Option (Int32 × am_S) :=
  if x0 < (4 : Int32) then (f_J6_numberOfLeadingZeros_0f7a4_73 a0 x0 x1 w) else (am_v (x1 + (-2 : Int32)) fun (x1_16 : Int32) => am_v (am_iushr x0 (2 : Int32)) fun (x0_17 : Int32) => f_J6_numberOfLeadingZeros_0f7a4_73 a0 x0_17 x1_16 w)
def f_J6_numberOfLeadingZeros_0f7a4_48 (a0 : Int32) (x0 : Int32) (x1 : Int32) (w : am_S) : Option (Int32 × am_S) :=
  if x0 < (16 : Int32) then (f_J6_numberOfLeadingZeros_0f7a4_61 a0 x0 x1 w) else (am_v (x1 + (-4 : Int32)) fun (x1_19 : Int32) => am_v (am_iushr x0 (4 : Int32)) fun (x0_20 : Int32) => f_J6_numberOfLeadingZeros_0f7a4_61 a0 x0_20 x1_19 w)
def f_J6_numberOfLeadingZeros_0f7a4_33 (a0 : Int32) (x0 : Int32) (x1 : Int32) (w : am_S) : Option (Int32 × am_S) :=
  if x0 < (256 : Int32) then (f_J6_numberOfLeadingZeros_0f7a4_48 a0 x0 x1 w) else (am_v (x1 + (-8 : Int32)) fun (x1_22 : Int32) => am_v (am_iushr x0 (8 : Int32)) fun (x0_23 : Int32) => f_J6_numberOfLeadingZeros_0f7a4_48 a0 x0_23 x1_22 w)
def f_J6_numberOfLeadingZeros_0f7a4_14 (a0 : Int32) (s0 : Int32) (w : am_S) : Option (Int32 × am_S) :=
  some (s0, w)
def f_J6_numberOfLeadingZeros_0f7a4 (a0 : Int32) (w : am_S) : Option (Int32 × am_S) :=
  if 0 < a0 then (if a0 < (65536 : Int32) then (f_J6_numberOfLeadingZeros_0f7a4_33 a0 a0 (31 : Int32) w) else (am_v ((31 : Int32) + (-16 : Int32)) fun (x1_26 : Int32) => am_v (am_iushr a0 (16 : Int32)) fun (x0_27 : Int32) => f_J6_numberOfLeadingZeros_0f7a4_33 a0 x0_27 x1_26 w)) else (if a0 = 0 then (f_J6_numberOfLeadingZeros_0f7a4_14 a0 (32 : Int32) w) else (f_J6_numberOfLeadingZeros_0f7a4_14 a0 (0 : Int32) w))
set_option maxRecDepth 100000 in
set_option maxHeartbeats 4000000 in
theorem k_J6_numberOfLeadingZeros_0f7a4 {G : am_G} {l : Launch} {a0 : Int32}  {w : am_S} {rr : Int32} {ww : am_S} (hf : f_J6_numberOfLeadingZeros_0f7a4 a0 w = some (rr, ww)) : am_Mi G l yJ6_numberOfLeadingZeros_0f7a4 (Cond.code yJ6_numberOfLeadingZeros_0f7a4 cJ6_numberOfLeadingZeros_0f7a4 2 (some .int) :: am_T) { frames := 0, cells := 0, slots := 0, locals := 0 } [.int a0] w rr ww := by
  refine Met.ofW (cc := cJ6_numberOfLeadingZeros_0f7a4) (maxL := 2) (ret := (some .int)) (by decide) rfl ?_
  intro p e s m args below meth c s₁ B hml hv
  obtain ⟨rfl, hx, hb, hr, hts, hown, hlocks, hK, hE, hH⟩ := am_begin B hv
  have hown : s.vm.findClass RJ6 = some m.cls := hown
  show W p l e { frames := 0, cells := 0, slots := 0, locals := 0 } s m _ below meth c s.heap [] 0 0 _ _
  have P73 : ∀ (x0 : Int32) (x1 : Int32) (w : am_S) (H : Heap) (locs : List Loc) (ls : Array Slot), f_J6_numberOfLeadingZeros_0f7a4_73 a0 x0 x1 w = some (rr, ww) → am_H G w s H locs → lv_has ls 2 [(0, .int x0), (1, .int x1)] → W p l e { frames := 0, cells := 0, slots := 0, locals := 0 } s m [.int a0].toArray below meth c H locs 0 0 (MQ below (va_Qi (fun (x : Int32) (u : am_S) => x = rr ∧ u = ww) (am_U G) (am_A G)) [.int a0].toArray s 0 0 (am_A G)) (F0 m 73 ls []) := by
    intro x0 x1 w H locs ls hf hH hl
    unfold f_J6_numberOfLeadingZeros_0f7a4_73 at hf
    refine lv_iload_n hx hb dJ6_numberOfLeadingZeros_0f7a4_73 rfl (lv_at hl 1 rfl) ?_
    refine lv_iload_n hx hb dJ6_numberOfLeadingZeros_0f7a4_74 rfl (lv_at hl 0 rfl) ?_
    refine lv_iconst (v := 1) hx hb dJ6_numberOfLeadingZeros_0f7a4_75 (by decide) ?_
    refine lv_iushr (v := am_iushr x0 (1 : Int32)) hx hb dJ6_numberOfLeadingZeros_0f7a4_76 rfl ?_
    refine lv_isub hx hb dJ6_numberOfLeadingZeros_0f7a4_77 ?_
    exact am_reti hx hb hr hlocks hH hf dJ6_numberOfLeadingZeros_0f7a4_78
  have P61 : ∀ (x0 : Int32) (x1 : Int32) (w : am_S) (H : Heap) (locs : List Loc) (ls : Array Slot), f_J6_numberOfLeadingZeros_0f7a4_61 a0 x0 x1 w = some (rr, ww) → am_H G w s H locs → lv_has ls 2 [(0, .int x0), (1, .int x1)] → W p l e { frames := 0, cells := 0, slots := 0, locals := 0 } s m [.int a0].toArray below meth c H locs 0 0 (MQ below (va_Qi (fun (x : Int32) (u : am_S) => x = rr ∧ u = ww) (am_U G) (am_A G)) [.int a0].toArray s 0 0 (am_A G)) (F0 m 61 ls []) := by
    intro x0 x1 w H locs ls hf hH hl
    unfold f_J6_numberOfLeadingZeros_0f7a4_61 at hf
    refine lv_iload_n hx hb dJ6_numberOfLeadingZeros_0f7a4_61 rfl (lv_at hl 0 rfl) ?_
    refine lv_iconst (v := 4) hx hb dJ6_numberOfLeadingZeros_0f7a4_62 (by decide) ?_
    refine lv_icmp_lt (tgt := 73) hx hb dJ6_numberOfLeadingZeros_0f7a4_63 (by decide) (fun hc_15 => ?_) (fun hc_15 => ?_)
    · have hf := (if_pos hc_15).symm.trans hf
      exact P73 x0 x1 w H locs ls hf hH (lv_sub hl [0, 1] rfl)
    · have hf := (if_neg hc_15).symm.trans hf
      obtain ⟨x1_16, hx1_16, hf⟩ := am_v_some hf
      refine lv_iinc (v := x1_16) (lv' := [(1, .int x1_16), (0, .int x0)]) hx hb dJ6_numberOfLeadingZeros_0f7a4_66 hl (k := 1) rfl (by rw [hx1_16]; rfl) (by decide) rfl (fun ls hl => ?_)
      refine lv_iload_n hx hb dJ6_numberOfLeadingZeros_0f7a4_69 rfl (lv_at hl 1 rfl) ?_
      refine lv_iconst (v := 2) hx hb dJ6_numberOfLeadingZeros_0f7a4_70 (by decide) ?_
      refine lv_iushr (v := am_iushr x0 (2 : Int32)) hx hb dJ6_numberOfLeadingZeros_0f7a4_71 rfl ?_
      obtain ⟨x0_17, hx0_17, hf⟩ := am_v_some hf
      refine am_topi hx0_17 ?_
      refine lv_istore_n (lv' := [(0, .int x0_17), (1, .int x1_16)]) hx hb dJ6_numberOfLeadingZeros_0f7a4_72 rfl hl (by decide) rfl (fun ls hl => ?_)
      exact P73 x0_17 x1_16 w H locs ls hf hH (lv_sub hl [0, 1] rfl)
  have P48 : ∀ (x0 : Int32) (x1 : Int32) (w : am_S) (H : Heap) (locs : List Loc) (ls : Array Slot), f_J6_numberOfLeadingZeros_0f7a4_48 a0 x0 x1 w = some (rr, ww) → am_H G w s H locs → lv_has ls 2 [(0, .int x0), (1, .int x1)] → W p l e { frames := 0, cells := 0, slots := 0, locals := 0 } s m [.int a0].toArray below meth c H locs 0 0 (MQ below (va_Qi (fun (x : Int32) (u : am_S) => x = rr ∧ u = ww) (am_U G) (am_A G)) [.int a0].toArray s 0 0 (am_A G)) (F0 m 48 ls []) := by
    intro x0 x1 w H locs ls hf hH hl
    unfold f_J6_numberOfLeadingZeros_0f7a4_48 at hf
    refine lv_iload_n hx hb dJ6_numberOfLeadingZeros_0f7a4_48 rfl (lv_at hl 0 rfl) ?_
    refine lv_bipush (v := 16) hx hb dJ6_numberOfLeadingZeros_0f7a4_49 (by decide) ?_
    refine lv_icmp_lt (tgt := 61) hx hb dJ6_numberOfLeadingZeros_0f7a4_51 (by decide) (fun hc_18 => ?_) (fun hc_18 => ?_)
    · have hf := (if_pos hc_18).symm.trans hf
      exact P61 x0 x1 w H locs ls hf hH (lv_sub hl [0, 1] rfl)
    · have hf := (if_neg hc_18).symm.trans hf
      obtain ⟨x1_19, hx1_19, hf⟩ := am_v_some hf
      refine lv_iinc (v := x1_19) (lv' := [(1, .int x1_19), (0, .int x0)]) hx hb dJ6_numberOfLeadingZeros_0f7a4_54 hl (k := 1) rfl (by rw [hx1_19]; rfl) (by decide) rfl (fun ls hl => ?_)
      refine lv_iload_n hx hb dJ6_numberOfLeadingZeros_0f7a4_57 rfl (lv_at hl 1 rfl) ?_
      refine lv_iconst (v := 4) hx hb dJ6_numberOfLeadingZeros_0f7a4_58 (by decide) ?_
      refine lv_iushr (v := am_iushr x0 (4 : Int32)) hx hb dJ6_numberOfLeadingZeros_0f7a4_59 rfl ?_
      obtain ⟨x0_20, hx0_20, hf⟩ := am_v_some hf
      refine am_topi hx0_20 ?_
      refine lv_istore_n (lv' := [(0, .int x0_20), (1, .int x1_19)]) hx hb dJ6_numberOfLeadingZeros_0f7a4_60 rfl hl (by decide) rfl (fun ls hl => ?_)
      exact P61 x0_20 x1_19 w H locs ls hf hH (lv_sub hl [0, 1] rfl)
  have P33 : ∀ (x0 : Int32) (x1 : Int32) (w : am_S) (H : Heap) (locs : List Loc) (ls : Array Slot), f_J6_numberOfLeadingZeros_0f7a4_33 a0 x0 x1 w = some (rr, ww) → am_H G w s H locs → lv_has ls 2 [(0, .int x0), (1, .int x1)] → W p l e { frames := 0, cells := 0, slots := 0, locals := 0 } s m [.int a0].toArray below meth c H locs 0 0 (MQ below (va_Qi (fun (x : Int32) (u : am_S) => x = rr ∧ u = ww) (am_U G) (am_A G)) [.int a0].toArray s 0 0 (am_A G)) (F0 m 33 ls []) := by
    intro x0 x1 w H locs ls hf hH hl
    unfold f_J6_numberOfLeadingZeros_0f7a4_33 at hf
    refine lv_iload_n hx hb dJ6_numberOfLeadingZeros_0f7a4_33 rfl (lv_at hl 0 rfl) ?_
    refine lv_sipush (v := 256) hx hb dJ6_numberOfLeadingZeros_0f7a4_34 (by decide) ?_
    refine lv_icmp_lt (tgt := 48) hx hb dJ6_numberOfLeadingZeros_0f7a4_37 (by decide) (fun hc_21 => ?_) (fun hc_21 => ?_)
    · have hf := (if_pos hc_21).symm.trans hf
      exact P48 x0 x1 w H locs ls hf hH (lv_sub hl [0, 1] rfl)
    · have hf := (if_neg hc_21).symm.trans hf
      obtain ⟨x1_22, hx1_22, hf⟩ := am_v_some hf
      refine lv_iinc (v := x1_22) (lv' := [(1, .int x1_22), (0, .int x0)]) hx hb dJ6_numberOfLeadingZeros_0f7a4_40 hl (k := 1) rfl (by rw [hx1_22]; rfl) (by decide) rfl (fun ls hl => ?_)
      refine lv_iload_n hx hb dJ6_numberOfLeadingZeros_0f7a4_43 rfl (lv_at hl 1 rfl) ?_
      refine lv_bipush (v := 8) hx hb dJ6_numberOfLeadingZeros_0f7a4_44 (by decide) ?_
      refine lv_iushr (v := am_iushr x0 (8 : Int32)) hx hb dJ6_numberOfLeadingZeros_0f7a4_46 rfl ?_
      obtain ⟨x0_23, hx0_23, hf⟩ := am_v_some hf
      refine am_topi hx0_23 ?_
      refine lv_istore_n (lv' := [(0, .int x0_23), (1, .int x1_22)]) hx hb dJ6_numberOfLeadingZeros_0f7a4_47 rfl hl (by decide) rfl (fun ls hl => ?_)
      exact P48 x0_23 x1_22 w H locs ls hf hH (lv_sub hl [0, 1] rfl)
  have P14 : ∀ (s0 : Int32) (w : am_S) (H : Heap) (locs : List Loc) (ls : Array Slot), f_J6_numberOfLeadingZeros_0f7a4_14 a0 s0 w = some (rr, ww) → am_H G w s H locs → lv_has ls 2 [] → W p l e { frames := 0, cells := 0, slots := 0, locals := 0 } s m [.int a0].toArray below meth c H locs 0 0 (MQ below (va_Qi (fun (x : Int32) (u : am_S) => x = rr ∧ u = ww) (am_U G) (am_A G)) [.int a0].toArray s 0 0 (am_A G)) (F0 m 14 ls [.int s0]) := by
    intro s0 w H locs ls hf hH hl
    unfold f_J6_numberOfLeadingZeros_0f7a4_14 at hf
    exact am_reti hx hb hr hlocks hH hf dJ6_numberOfLeadingZeros_0f7a4_14
  refine am_enter (lv := [(0, .int a0)]) (Nat.le_of_ble_eq_true rfl) rfl (fun ls hl => ?_)
  unfold f_J6_numberOfLeadingZeros_0f7a4 at hf
  refine am_start hH (fun H locs hH => ?_)
  refine lv_iload_n hx hb dJ6_numberOfLeadingZeros_0f7a4_0 rfl (lv_at hl 0 rfl) ?_
  refine lv_if_gt (tgt := 15) hx hb dJ6_numberOfLeadingZeros_0f7a4_1 (by decide) (fun hc_24 => ?_) (fun hc_24 => ?_)
  · have hf := (if_pos hc_24).symm.trans hf
    refine lv_bipush (v := 31) hx hb dJ6_numberOfLeadingZeros_0f7a4_15 (by decide) ?_
    refine lv_istore_n (lv' := [(1, .int (31 : Int32)), (0, .int a0)]) hx hb dJ6_numberOfLeadingZeros_0f7a4_17 rfl hl (by decide) rfl (fun ls hl => ?_)
    refine lv_iload_n hx hb dJ6_numberOfLeadingZeros_0f7a4_18 rfl (lv_at hl 1 rfl) ?_
    refine lv_ldcw (v := 65536) hx hb hown (hts _ am_q616) dJ6_numberOfLeadingZeros_0f7a4_19 ?_
    refine lv_icmp_lt (tgt := 33) hx hb dJ6_numberOfLeadingZeros_0f7a4_22 (by decide) (fun hc_25 => ?_) (fun hc_25 => ?_)
    · have hf := (if_pos hc_25).symm.trans hf
      exact P33 a0 (31 : Int32) w H locs ls hf hH (lv_sub hl [1, 0] rfl)
    · have hf := (if_neg hc_25).symm.trans hf
      obtain ⟨x1_26, hx1_26, hf⟩ := am_v_some hf
      refine lv_iinc (v := x1_26) (lv' := [(1, .int x1_26), (0, .int a0)]) hx hb dJ6_numberOfLeadingZeros_0f7a4_25 hl (k := 0) rfl (by rw [hx1_26]; rfl) (by decide) rfl (fun ls hl => ?_)
      refine lv_iload_n hx hb dJ6_numberOfLeadingZeros_0f7a4_28 rfl (lv_at hl 1 rfl) ?_
      refine lv_bipush (v := 16) hx hb dJ6_numberOfLeadingZeros_0f7a4_29 (by decide) ?_
      refine lv_iushr (v := am_iushr a0 (16 : Int32)) hx hb dJ6_numberOfLeadingZeros_0f7a4_31 rfl ?_
      obtain ⟨x0_27, hx0_27, hf⟩ := am_v_some hf
      refine am_topi hx0_27 ?_
      refine lv_istore_n (lv' := [(0, .int x0_27), (1, .int x1_26)]) hx hb dJ6_numberOfLeadingZeros_0f7a4_32 rfl hl (by decide) rfl (fun ls hl => ?_)
      exact P33 x0_27 x1_26 w H locs ls hf hH (lv_sub hl [0, 1] rfl)
  · have hf := (if_neg hc_24).symm.trans hf
    refine lv_iload_n hx hb dJ6_numberOfLeadingZeros_0f7a4_4 rfl (lv_at hl 0 rfl) ?_
    refine lv_if_ne (tgt := 13) hx hb dJ6_numberOfLeadingZeros_0f7a4_5 (by decide) (fun hc_28 => ?_) (fun hc_28 => ?_)
    · have hf := (if_neg hc_28).symm.trans hf
      refine lv_iconst (v := 0) hx hb dJ6_numberOfLeadingZeros_0f7a4_13 (by decide) ?_
      exact P14 (0 : Int32) w H locs ls hf hH (lv_sub hl [] rfl)
    · have hf := (if_pos hc_28).symm.trans hf
      refine lv_bipush (v := 32) hx hb dJ6_numberOfLeadingZeros_0f7a4_8 (by decide) ?_
      refine lv_goto (tgt := 14) hx hb dJ6_numberOfLeadingZeros_0f7a4_10 (by decide) ?_
      exact P14 (32 : Int32) w H locs ls hf hH (lv_sub hl [] rfl)

def f_X7_begin_79b  (x1 : Int32) (w : am_S) : Option (am_S ⊕ (Int32 × am_S)) :=
  am_b2 (f_X1_everyone 11 w) fun r_31 w_29 => if r_31 < x1 then (am_x (am_v (am_pi w_29 250 5 (-1 : Int32)) fun (w_34 : am_S) => some w_34)) else (am_b2 (f_J6_numberOfLeadingZeros_0f7a4 x1 w_29) fun r_37 w_35 => am_v ((31 : Int32) - r_37) fun (x2_38 : Int32) => am_chk (x1 &&& (((1 : Int32) <<< (x2_38 &&& 31)) ^^^ (-1 : Int32))) 1024 (am_chk x2_38 10 (am_n32 (FP.fadd (w_35.2.2 252 (x1 &&& (((1 : Int32) <<< (x2_38 &&& 31)) ^^^ (-1 : Int32))).toNatClampNeg) (w_35.2.2 251 x2_38.toNatClampNeg)) (am_chk x1 1024 (am_v (am_pf w_35 252 x1.toNatClampNeg (FP.fadd (w_35.2.2 252 (x1 &&& (((1 : Int32) <<< (x2_38 &&& 31)) ^^^ (-1 : Int32))).toNatClampNeg) (w_35.2.2 251 x2_38.toNatClampNeg))) fun (w_43 : am_S) => am_v (x1 + (1 : Int32)) fun (x1_44 : Int32) => some (.inr (x1_44, w_43)))))))
def f_X7_begin_79  (x1 : Int32) (w : am_S) : Option am_S :=
  am_loop (fun (st : (Int32 × am_S)) => f_X7_begin_79b st.1 st.2) am_fuel (x1, w)
def f_X7_begin_2b  (x1 : Int32) (w : am_S) : Option (am_S ⊕ (Int32 × am_S)) :=
  if (w.1 11 11) ≤ x1 then (am_x (am_n32 (FP.fdiv (FP.i2f (w.1 11 10)) (1092616192 : UInt32)) (am_chk (0 : Int32) 1024 (am_v (am_pf w 252 (0 : Int32).toNatClampNeg (FP.fdiv (FP.i2f (w.1 11 10)) (1092616192 : UInt32))) fun (w_49 : am_S) => f_X7_begin_79 (1 : Int32) w_49)))) else (am_chk x1 10 (am_n32 (FP.fdiv (FP.i2f (w.1 13 x1.toNatClampNeg)) (1092616192 : UInt32)) (am_chk x1 10 (am_n32 (FP.fdiv (FP.fdiv (FP.i2f (w.1 13 x1.toNatClampNeg)) (1092616192 : UInt32)) (FP.i2f (w.1 14 x1.toNatClampNeg))) (am_chk x1 10 (am_n32 (FP.fdiv (FP.fdiv (FP.fdiv (FP.i2f (w.1 13 x1.toNatClampNeg)) (1092616192 : UInt32)) (FP.i2f (w.1 14 x1.toNatClampNeg))) (FP.i2f (w.1 14 x1.toNatClampNeg))) (am_chk x1 10 (am_v (am_pf w 251 x1.toNatClampNeg (FP.fdiv (FP.fdiv (FP.fdiv (FP.i2f (w.1 13 x1.toNatClampNeg)) (1092616192 : UInt32)) (FP.i2f (w.1 14 x1.toNatClampNeg))) (FP.i2f (w.1 14 x1.toNatClampNeg)))) fun (w_57 : am_S) => am_v (x1 + (1 : Int32)) fun (x1_58 : Int32) => some (.inr (x1_58, w_57))))))))))
def f_X7_begin_2  (x1 : Int32) (w : am_S) : Option am_S :=
  am_loop (fun (st : (Int32 × am_S)) => f_X7_begin_2b st.1 st.2) am_fuel (x1, w)
def f_X7_begin  (w : am_S) : Option am_S :=
  f_X7_begin_2 (0 : Int32) w
set_option maxRecDepth 100000 in
set_option maxHeartbeats 4000000 in
theorem k_X7_begin {G : am_G} {l : Launch}   {w : am_S} {ww : am_S} (hf : f_X7_begin  w = some ww) : am_Mv G l yX7_begin (Cond.code yX7_begin cX7_begin 3 none :: am_T) { frames := 1, cells := 0, slots := 0, locals := 64 } [.ref (G.1 + 250)] w ww := by
  refine Met.ofW (cc := cX7_begin) (maxL := 3) (ret := none) (by decide) rfl ?_
  intro p e s m args below meth c s₁ B hml hv
  obtain ⟨rfl, hx, hb, hr, hts, hown, hlocks, hK, hE, hH⟩ := am_begin B hv
  have hown : s.vm.findClass RX7 = some m.cls := hown
  show W p l e { frames := 1, cells := 0, slots := 0, locals := 64 } s m _ below meth c s.heap [] 0 0 _ _
  have P79 : ∀ (n1 : Nat) (x1 : Int32) (w : am_S) (H : Heap) (locs : List Loc) (ls : Array Slot), am_loop (fun (st : (Int32 × am_S)) => f_X7_begin_79b st.1 st.2) n1 (x1, w) = some ww → am_H G w s H locs → lv_has ls 3 [(0, .ref (G.1 + 250)), (1, .int x1)] → W p l e { frames := 1, cells := 0, slots := 0, locals := 64 } s m [.ref (G.1 + 250)].toArray below meth c H locs 0 0 (MQ below (va_Qv (fun (u : am_S) => u = ww) (am_U G) (am_A G)) [.ref (G.1 + 250)].toArray s 0 0 (am_A G)) (F0 m 79 ls []) := by
    intro n1
    induction n1 with
    | zero =>
      intro x1 w H locs ls hf hH hl
      exact (am_loop_zero hf).elim
    | succ n1 ih1 =>
      intro x1 w H locs ls hf hH hl
      obtain ⟨z1, hf, hk1⟩ := am_loop_succ hf
      have hf : f_X7_begin_79b x1 w = some z1 := hf
      unfold f_X7_begin_79b at hf
      refine lv_iload_n hx hb dX7_begin_79 rfl (lv_at hl 1 rfl) ?_
      refine lv_aload_n hx hb dX7_begin_80 rfl (lv_at hl 0 rfl) ?_
      refine am_get hx hb hts hK hown hH (am_o7 (p := 250) (by decide +kernel)) rfl am_inX7 0 (by decide) am_q259 (v := .ref (G.1 + 11)) rfl dX7_begin_81 ?_
      obtain ⟨r_31, w_29, hq_30, hf⟩ := am_b2_some hf
      refine am_calli (r := r_31) (w' := w_29) (am_runV (n := 0) (As := []) (rest := [.int x1]) ⟨hx, hb, hml, hown, hts⟩ hK hE hH (k_X1_everyone (by decide +kernel) hq_30) (am_gV am_q609 am_q610 am_q611 am_q3 am_q612) (am_o1 (p := 11) (by decide +kernel)) rfl ⟨rfl, rfl⟩ (by decide +kernel) ⟨Nat.le_of_ble_eq_true rfl, Nat.le_of_ble_eq_true rfl⟩ rfl hl.1 rfl (Nat.le_of_ble_eq_true rfl) ⟨Nat.zero_le _, Nat.zero_le _⟩ dX7_begin_84) hH (fun H locs hH => ?_)
      refine lv_icmp_gt (tgt := 129) hx hb dX7_begin_87 (by decide) (fun hc_32 => ?_) (fun hc_32 => ?_)
      · have hf := (if_pos hc_32).symm.trans hf
        obtain ⟨y_33, hf, hzy_33⟩ := am_x_some hf
        rw [hzy_33] at hk1
        have hf := hf.trans (congrArg some (show y_33 = ww from hk1))
        refine lv_aload_n hx hb dX7_begin_129 rfl (lv_at hl 0 rfl) ?_
        refine lv_iconst (v := -1) hx hb dX7_begin_130 (by decide) ?_
        obtain ⟨w_34, hw_34, hf⟩ := am_v_some hf
        refine am_puti hx hb hts hK hown hH (am_o7 (p := 250) (by decide +kernel)) rfl am_inX7 tyX7 tyX7_ok nmX7 5 (by decide) am_q269 rfl rfl rfl (fun _ _ => Nat.le_of_ble_eq_true rfl) (fun _ _ _ => rfl) dX7_begin_131 (fun H locs hH => ?_)
        rw [← hw_34] at hH
        exact am_retv hx hb hr hlocks hH hf dX7_begin_134
      · have hf := (if_neg hc_32).symm.trans hf
        refine lv_bipush (v := 31) hx hb dX7_begin_90 (by decide) ?_
        refine lv_iload_n hx hb dX7_begin_92 rfl (lv_at hl 1 rfl) ?_
        obtain ⟨r_37, w_35, hq_36, hf⟩ := am_b2_some hf
        refine am_calli (r := r_37) (w' := w_35) (am_runS (n := 1) (As := [.int x1]) (rest := [.int (31 : Int32)]) ⟨hx, hb, hml, hown, hts⟩ hK hE hH (k_J6_numberOfLeadingZeros_0f7a4 hq_36) (am_gS am_q613 am_q614 am_q23 am_q615) ⟨rfl, rfl⟩ (by decide +kernel) ⟨Nat.le_of_ble_eq_true rfl, Nat.le_of_ble_eq_true rfl⟩ rfl hl.1 rfl (Nat.le_of_ble_eq_true rfl) ⟨Nat.zero_le _, Nat.zero_le _⟩ dX7_begin_93) hH (fun H locs hH => ?_)
        refine lv_isub hx hb dX7_begin_96 ?_
        obtain ⟨x2_38, hx2_38, hf⟩ := am_v_some hf
        refine am_topi hx2_38 ?_
        refine lv_istore_n (lv' := [(2, .int x2_38), (0, .ref (G.1 + 250)), (1, .int x1)]) hx hb dX7_begin_97 rfl hl (by decide) rfl (fun ls hl => ?_)
        refine lv_aload_n hx hb dX7_begin_98 rfl (lv_at hl 1 rfl) ?_
        refine am_get hx hb hts hK hown hH (am_o7 (p := 250) (by decide +kernel)) rfl am_inX7 2 (by decide) am_q263 (v := .ref (G.1 + 252)) rfl dX7_begin_99 ?_
        refine lv_iload_n hx hb dX7_begin_102 rfl (lv_at hl 2 rfl) ?_
        refine lv_aload_n hx hb dX7_begin_103 rfl (lv_at hl 1 rfl) ?_
        refine am_get hx hb hts hK hown hH (am_o7 (p := 250) (by decide +kernel)) rfl am_inX7 2 (by decide) am_q263 (v := .ref (G.1 + 252)) rfl dX7_begin_104 ?_
        refine lv_iload_n hx hb dX7_begin_107 rfl (lv_at hl 2 rfl) ?_
        refine lv_iconst (v := 1) hx hb dX7_begin_108 (by decide) ?_
        refine lv_iload_n hx hb dX7_begin_109 rfl (lv_at hl 0 rfl) ?_
        refine lv_ishl hx hb dX7_begin_110 ?_
        refine lv_iconst (v := -1) hx hb dX7_begin_111 (by decide) ?_
        refine lv_ixor hx hb dX7_begin_112 ?_
        refine lv_iand hx hb dX7_begin_113 ?_
        obtain ⟨hi_39, hf⟩ := am_chk_some hf
        refine am_fald hx hb hK hH (am_af_of (N := 1024) (by decide +kernel)) hi_39 dX7_begin_114 ?_
        refine lv_aload_n hx hb dX7_begin_115 rfl (lv_at hl 1 rfl) ?_
        refine am_get hx hb hts hK hown hH (am_o7 (p := 250) (by decide +kernel)) rfl am_inX7 1 (by decide) am_q260 (v := .ref (G.1 + 251)) rfl dX7_begin_116 ?_
        refine lv_iload_n hx hb dX7_begin_119 rfl (lv_at hl 0 rfl) ?_
        obtain ⟨hi_40, hf⟩ := am_chk_some hf
        refine am_fald hx hb hK hH (am_af_of (N := 10) (by decide +kernel)) hi_40 dX7_begin_120 ?_
        obtain ⟨hn_41, hf⟩ := am_n32_some hf
        refine lv_fadd hx hb dX7_begin_121 hn_41 ?_
        obtain ⟨hi_42, hf⟩ := am_chk_some hf
        obtain ⟨w_43, hw_43, hf⟩ := am_v_some hf
        refine am_fast hx hb hK hH (am_af_of (N := 1024) (by decide +kernel)) hi_42 dX7_begin_122 (fun H locs hH => ?_)
        rw [← hw_43] at hH
        obtain ⟨x1_44, hx1_44, hf⟩ := am_v_some hf
        refine lv_iinc (v := x1_44) (lv' := [(1, .int x1_44), (2, .int x2_38), (0, .ref (G.1 + 250))]) hx hb dX7_begin_123 hl (k := 2) rfl (by rw [hx1_44]; rfl) (by decide) rfl (fun ls hl => ?_)
        refine lv_goto (tgt := 79) hx hb dX7_begin_126 (by decide) ?_
        obtain rfl := Option.some.inj hf
        exact ih1 x1_44 w_43 H locs ls hk1 hH (lv_sub hl [2, 0] rfl)
  have P2 : ∀ (n1 : Nat) (x1 : Int32) (w : am_S) (H : Heap) (locs : List Loc) (ls : Array Slot), am_loop (fun (st : (Int32 × am_S)) => f_X7_begin_2b st.1 st.2) n1 (x1, w) = some ww → am_H G w s H locs → lv_has ls 3 [(0, .ref (G.1 + 250)), (1, .int x1)] → W p l e { frames := 1, cells := 0, slots := 0, locals := 64 } s m [.ref (G.1 + 250)].toArray below meth c H locs 0 0 (MQ below (va_Qv (fun (u : am_S) => u = ww) (am_U G) (am_A G)) [.ref (G.1 + 250)].toArray s 0 0 (am_A G)) (F0 m 2 ls []) := by
    intro n1
    induction n1 with
    | zero =>
      intro x1 w H locs ls hf hH hl
      exact (am_loop_zero hf).elim
    | succ n1 ih1 =>
      intro x1 w H locs ls hf hH hl
      obtain ⟨z1, hf, hk1⟩ := am_loop_succ hf
      have hf : f_X7_begin_2b x1 w = some z1 := hf
      unfold f_X7_begin_2b at hf
      refine lv_iload_n hx hb dX7_begin_2 rfl (lv_at hl 1 rfl) ?_
      refine lv_aload_n hx hb dX7_begin_3 rfl (lv_at hl 0 rfl) ?_
      refine am_get hx hb hts hK hown hH (am_o7 (p := 250) (by decide +kernel)) rfl am_inX7 0 (by decide) am_q259 (v := .ref (G.1 + 11)) rfl dX7_begin_4 ?_
      refine am_get hx hb hts hK hown hH (am_o1 (p := 11) (by decide +kernel)) rfl am_inX1 11 (by decide) am_q102 (v := .int (w.1 11 11)) rfl dX7_begin_7 ?_
      refine lv_icmp_ge (tgt := 60) hx hb dX7_begin_10 (by decide) (fun hc_45 => ?_) (fun hc_45 => ?_)
      · have hf := (if_pos hc_45).symm.trans hf
        obtain ⟨y_46, hf, hzy_46⟩ := am_x_some hf
        rw [hzy_46] at hk1
        have hf := hf.trans (congrArg some (show y_46 = ww from hk1))
        refine lv_aload_n hx hb dX7_begin_60 rfl (lv_at hl 0 rfl) ?_
        refine am_get hx hb hts hK hown hH (am_o7 (p := 250) (by decide +kernel)) rfl am_inX7 2 (by decide) am_q263 (v := .ref (G.1 + 252)) rfl dX7_begin_61 ?_
        refine lv_iconst (v := 0) hx hb dX7_begin_64 (by decide) ?_
        refine lv_aload_n hx hb dX7_begin_65 rfl (lv_at hl 0 rfl) ?_
        refine am_get hx hb hts hK hown hH (am_o7 (p := 250) (by decide +kernel)) rfl am_inX7 0 (by decide) am_q259 (v := .ref (G.1 + 11)) rfl dX7_begin_66 ?_
        refine am_get hx hb hts hK hown hH (am_o1 (p := 11) (by decide +kernel)) rfl am_inX1 10 (by decide) am_q99 (v := .int (w.1 11 10)) rfl dX7_begin_69 ?_
        refine lv_i2f hx hb dX7_begin_72 ?_
        refine lv_ldcf (v := 1092616192) hx hb hown (hts _ am_q608) dX7_begin_73 ?_
        obtain ⟨hn_47, hf⟩ := am_n32_some hf
        refine lv_fdiv hx hb dX7_begin_75 hn_47 ?_
        obtain ⟨hi_48, hf⟩ := am_chk_some hf
        obtain ⟨w_49, hw_49, hf⟩ := am_v_some hf
        refine am_fast hx hb hK hH (am_af_of (N := 1024) (by decide +kernel)) hi_48 dX7_begin_76 (fun H locs hH => ?_)
        rw [← hw_49] at hH
        refine lv_iconst (v := 1) hx hb dX7_begin_77 (by decide) ?_
        refine lv_istore_n (lv' := [(1, .int (1 : Int32)), (0, .ref (G.1 + 250))]) hx hb dX7_begin_78 rfl hl (by decide) rfl (fun ls hl => ?_)
        exact P79 am_fuel (1 : Int32) w_49 H locs ls hf hH (lv_sub hl [1, 0] rfl)
      · have hf := (if_neg hc_45).symm.trans hf
        refine lv_aload_n hx hb dX7_begin_13 rfl (lv_at hl 0 rfl) ?_
        refine am_get hx hb hts hK hown hH (am_o7 (p := 250) (by decide +kernel)) rfl am_inX7 1 (by decide) am_q260 (v := .ref (G.1 + 251)) rfl dX7_begin_14 ?_
        refine lv_iload_n hx hb dX7_begin_17 rfl (lv_at hl 1 rfl) ?_
        refine lv_aload_n hx hb dX7_begin_18 rfl (lv_at hl 0 rfl) ?_
        refine am_get hx hb hts hK hown hH (am_o7 (p := 250) (by decide +kernel)) rfl am_inX7 0 (by decide) am_q259 (v := .ref (G.1 + 11)) rfl dX7_begin_19 ?_
        refine am_get hx hb hts hK hown hH (am_o1 (p := 11) (by decide +kernel)) rfl am_inX1 1 (by decide) am_q73 (v := .ref (G.1 + 13)) rfl dX7_begin_22 ?_
        refine lv_iload_n hx hb dX7_begin_25 rfl (lv_at hl 1 rfl) ?_
        obtain ⟨hi_50, hf⟩ := am_chk_some hf
        refine am_iald hx hb hK hH (am_ai_of (N := 10) (by decide +kernel)) hi_50 dX7_begin_26 ?_
        refine lv_i2f hx hb dX7_begin_27 ?_
        refine lv_ldcf (v := 1092616192) hx hb hown (hts _ am_q608) dX7_begin_28 ?_
        obtain ⟨hn_51, hf⟩ := am_n32_some hf
        refine lv_fdiv hx hb dX7_begin_30 hn_51 ?_
        refine lv_aload_n hx hb dX7_begin_31 rfl (lv_at hl 0 rfl) ?_
        refine am_get hx hb hts hK hown hH (am_o7 (p := 250) (by decide +kernel)) rfl am_inX7 0 (by decide) am_q259 (v := .ref (G.1 + 11)) rfl dX7_begin_32 ?_
        refine am_get hx hb hts hK hown hH (am_o1 (p := 11) (by decide +kernel)) rfl am_inX1 2 (by decide) am_q76 (v := .ref (G.1 + 14)) rfl dX7_begin_35 ?_
        refine lv_iload_n hx hb dX7_begin_38 rfl (lv_at hl 1 rfl) ?_
        obtain ⟨hi_52, hf⟩ := am_chk_some hf
        refine am_iald hx hb hK hH (am_ai_of (N := 10) (by decide +kernel)) hi_52 dX7_begin_39 ?_
        refine lv_i2f hx hb dX7_begin_40 ?_
        obtain ⟨hn_53, hf⟩ := am_n32_some hf
        refine lv_fdiv hx hb dX7_begin_41 hn_53 ?_
        refine lv_aload_n hx hb dX7_begin_42 rfl (lv_at hl 0 rfl) ?_
        refine am_get hx hb hts hK hown hH (am_o7 (p := 250) (by decide +kernel)) rfl am_inX7 0 (by decide) am_q259 (v := .ref (G.1 + 11)) rfl dX7_begin_43 ?_
        refine am_get hx hb hts hK hown hH (am_o1 (p := 11) (by decide +kernel)) rfl am_inX1 2 (by decide) am_q76 (v := .ref (G.1 + 14)) rfl dX7_begin_46 ?_
        refine lv_iload_n hx hb dX7_begin_49 rfl (lv_at hl 1 rfl) ?_
        obtain ⟨hi_54, hf⟩ := am_chk_some hf
        refine am_iald hx hb hK hH (am_ai_of (N := 10) (by decide +kernel)) hi_54 dX7_begin_50 ?_
        refine lv_i2f hx hb dX7_begin_51 ?_
        obtain ⟨hn_55, hf⟩ := am_n32_some hf
        refine lv_fdiv hx hb dX7_begin_52 hn_55 ?_
        obtain ⟨hi_56, hf⟩ := am_chk_some hf
        obtain ⟨w_57, hw_57, hf⟩ := am_v_some hf
        refine am_fast hx hb hK hH (am_af_of (N := 10) (by decide +kernel)) hi_56 dX7_begin_53 (fun H locs hH => ?_)
        rw [← hw_57] at hH
        obtain ⟨x1_58, hx1_58, hf⟩ := am_v_some hf
        refine lv_iinc (v := x1_58) (lv' := [(1, .int x1_58), (0, .ref (G.1 + 250))]) hx hb dX7_begin_54 hl (k := 1) rfl (by rw [hx1_58]; rfl) (by decide) rfl (fun ls hl => ?_)
        refine lv_goto (tgt := 2) hx hb dX7_begin_57 (by decide) ?_
        obtain rfl := Option.some.inj hf
        exact ih1 x1_58 w_57 H locs ls hk1 hH (lv_sub hl [1, 0] rfl)
  refine am_enter (lv := [(0, .ref (G.1 + 250))]) (Nat.le_of_ble_eq_true rfl) rfl (fun ls hl => ?_)
  unfold f_X7_begin at hf
  refine am_start hH (fun H locs hH => ?_)
  refine lv_iconst (v := 0) hx hb dX7_begin_0 (by decide) ?_
  refine lv_istore_n (lv' := [(1, .int (0 : Int32)), (0, .ref (G.1 + 250))]) hx hb dX7_begin_1 rfl hl (by decide) rfl (fun ls hl => ?_)
  exact P2 am_fuel (0 : Int32) w H locs ls hf hH (lv_sub hl [1, 0] rfl)

def f_X11_takeField  (w : am_S) : Option (Int32 × am_S) :=
  am_b2 (f_X1_readFrom 3 w) fun r_18 w_16 => if r_18 = (-1 : Int32) then (am_b2 (f_X1_readFrom 11 w_16) fun r_22 w_20 => am_v (am_pi w_20 1 1 (0 : Int32)) fun (w_23 : am_S) => am_b1 (f_X9_begin 23 11 w_23) fun w_24 => am_b1 (f_X7_begin w_24) fun w_26 => am_v (am_pi w_26 38 3 (0 : Int32)) fun (w_28 : am_S) => am_v (am_pi w_28 46 2 (0 : Int32)) fun (w_29 : am_S) => am_v (am_pi w_29 0 18 (0 : Int32)) fun (w_30 : am_S) => some (w_30.1 11 11, w_30)) else (some ((-1 : Int32), w_16))
set_option maxRecDepth 100000 in
set_option maxHeartbeats 4000000 in
theorem k_X11_takeField {G : am_G} {l : Launch}   {w : am_S} {rr : Int32} {ww : am_S} (hf : f_X11_takeField  w = some (rr, ww)) : am_Mi G l yX11_takeField (Cond.code yX11_takeField cX11_takeField 1 (some .int) :: am_T) { frames := 7, cells := 0, slots := 0, locals := 448 } [.ref (G.1 + 0)] w rr ww := by
  refine Met.ofW (cc := cX11_takeField) (maxL := 1) (ret := (some .int)) (by decide) rfl ?_
  intro p e s m args below meth c s₁ B hml hv
  obtain ⟨rfl, hx, hb, hr, hts, hown, hlocks, hK, hE, hH⟩ := am_begin B hv
  have hown : s.vm.findClass RX11 = some m.cls := hown
  show W p l e { frames := 7, cells := 0, slots := 0, locals := 448 } s m _ below meth c s.heap [] 0 0 _ _
  refine am_enter (lv := [(0, .ref (G.1 + 0))]) (Nat.le_of_ble_eq_true rfl) rfl (fun ls hl => ?_)
  unfold f_X11_takeField at hf
  refine am_start hH (fun H locs hH => ?_)
  refine lv_aload_n hx hb dX11_takeField_0 rfl (lv_at hl 0 rfl) ?_
  refine am_get hx hb hts hK hown hH (am_o11 (p := 0) (by decide +kernel)) rfl am_inX11 1 (by decide) am_q332 (v := .ref (G.1 + 3)) rfl dX11_takeField_1 ?_
  refine lv_aload_n hx hb dX11_takeField_4 rfl (lv_at hl 0 rfl) ?_
  refine am_get hx hb hts hK hown hH (am_o11 (p := 0) (by decide +kernel)) rfl am_inX11 0 (by decide) am_q331 (v := .ref (G.1 + 1)) rfl dX11_takeField_5 ?_
  obtain ⟨r_18, w_16, hq_17, hf⟩ := am_b2_some hf
  refine am_calli (r := r_18) (w' := w_16) (am_runV (n := 1) (As := [.ref (G.1 + 1)]) (rest := []) ⟨hx, hb, hml, hown, hts⟩ hK hE hH (k_X1_readFrom (by decide +kernel) hq_17) (am_gV am_q408 am_q409 am_q410 am_q3 am_q411) (am_o1 (p := 3) (by decide +kernel)) rfl ⟨rfl, rfl⟩ (by decide +kernel) ⟨Nat.le_of_ble_eq_true rfl, Nat.le_of_ble_eq_true rfl⟩ rfl hl.1 rfl (Nat.le_of_ble_eq_true rfl) ⟨Nat.zero_le _, Nat.zero_le _⟩ dX11_takeField_8) hH (fun H locs hH => ?_)
  refine lv_iconst (v := -1) hx hb dX11_takeField_11 (by decide) ?_
  refine lv_icmp_eq (tgt := 17) hx hb dX11_takeField_12 (by decide) (fun hc_19 => ?_) (fun hc_19 => ?_)
  · have hf := (if_pos hc_19).symm.trans hf
    refine lv_aload_n hx hb dX11_takeField_17 rfl (lv_at hl 0 rfl) ?_
    refine am_get hx hb hts hK hown hH (am_o11 (p := 0) (by decide +kernel)) rfl am_inX11 2 (by decide) am_q333 (v := .ref (G.1 + 11)) rfl dX11_takeField_18 ?_
    refine lv_aload_n hx hb dX11_takeField_21 rfl (lv_at hl 0 rfl) ?_
    refine am_get hx hb hts hK hown hH (am_o11 (p := 0) (by decide +kernel)) rfl am_inX11 0 (by decide) am_q331 (v := .ref (G.1 + 1)) rfl dX11_takeField_22 ?_
    obtain ⟨r_22, w_20, hq_21, hf⟩ := am_b2_some hf
    refine am_calli (r := r_22) (w' := w_20) (am_runV (n := 1) (As := [.ref (G.1 + 1)]) (rest := []) ⟨hx, hb, hml, hown, hts⟩ hK hE hH (k_X1_readFrom (by decide +kernel) hq_21) (am_gV am_q408 am_q409 am_q410 am_q3 am_q411) (am_o1 (p := 11) (by decide +kernel)) rfl ⟨rfl, rfl⟩ (by decide +kernel) ⟨Nat.le_of_ble_eq_true rfl, Nat.le_of_ble_eq_true rfl⟩ rfl hl.1 rfl (Nat.le_of_ble_eq_true rfl) ⟨Nat.zero_le _, Nat.zero_le _⟩ dX11_takeField_25) hH (fun H locs hH => ?_)
    refine lv_pop hx hb dX11_takeField_28 rfl ?_
    refine lv_aload_n hx hb dX11_takeField_29 rfl (lv_at hl 0 rfl) ?_
    refine am_get hx hb hts hK hown hH (am_o11 (p := 0) (by decide +kernel)) rfl am_inX11 0 (by decide) am_q331 (v := .ref (G.1 + 1)) rfl dX11_takeField_30 ?_
    refine lv_iconst (v := 0) hx hb dX11_takeField_33 (by decide) ?_
    obtain ⟨w_23, hw_23, hf⟩ := am_v_some hf
    refine am_puti hx hb hts hK hown hH (am_o10 (p := 1) (by decide +kernel)) rfl am_inX10 tyX10 tyX10_ok nmX10 1 (by decide) am_q46 rfl rfl rfl (fun _ _ => Nat.le_of_ble_eq_true rfl) (fun _ _ _ => rfl) dX11_takeField_34 (fun H locs hH => ?_)
    rw [← hw_23] at hH
    refine lv_aload_n hx hb dX11_takeField_37 rfl (lv_at hl 0 rfl) ?_
    refine am_get hx hb hts hK hown hH (am_o11 (p := 0) (by decide +kernel)) rfl am_inX11 5 (by decide) am_q336 (v := .ref (G.1 + 23)) rfl dX11_takeField_38 ?_
    refine lv_aload_n hx hb dX11_takeField_41 rfl (lv_at hl 0 rfl) ?_
    refine am_get hx hb hts hK hown hH (am_o11 (p := 0) (by decide +kernel)) rfl am_inX11 2 (by decide) am_q333 (v := .ref (G.1 + 11)) rfl dX11_takeField_42 ?_
    obtain ⟨w_24, hq_25, hf⟩ := am_b1_some hf
    refine am_callv (w' := w_24) (am_runV (n := 1) (As := [.ref (G.1 + 11)]) (rest := []) ⟨hx, hb, hml, hown, hts⟩ hK hE hH (k_X9_begin (by decide +kernel) (by decide +kernel) hq_25) (am_gV am_q592 am_q593 am_q594 am_q5 am_q595) (am_o9 (p := 23) (by decide +kernel)) rfl ⟨rfl, rfl⟩ (by decide +kernel) ⟨Nat.le_of_ble_eq_true rfl, Nat.le_of_ble_eq_true rfl⟩ rfl hl.1 rfl (Nat.le_of_ble_eq_true rfl) ⟨Nat.zero_le _, Nat.zero_le _⟩ dX11_takeField_45) hH (fun H locs hH => ?_)
    refine lv_aload_n hx hb dX11_takeField_48 rfl (lv_at hl 0 rfl) ?_
    refine am_get hx hb hts hK hown hH (am_o11 (p := 0) (by decide +kernel)) rfl am_inX11 13 (by decide) am_q344 (v := .ref (G.1 + 250)) rfl dX11_takeField_49 ?_
    obtain ⟨w_26, hq_27, hf⟩ := am_b1_some hf
    refine am_callv (w' := w_26) (am_runV (n := 0) (As := []) (rest := []) ⟨hx, hb, hml, hown, hts⟩ hK hE hH (k_X7_begin hq_27) (am_gV am_q604 am_q605 am_q606 am_q9 am_q607) (am_o7 (p := 250) (by decide +kernel)) rfl ⟨rfl, rfl⟩ (by decide +kernel) ⟨Nat.le_of_ble_eq_true rfl, Nat.le_of_ble_eq_true rfl⟩ rfl hl.1 rfl (Nat.le_of_ble_eq_true rfl) ⟨Nat.zero_le _, Nat.zero_le _⟩ dX11_takeField_52) hH (fun H locs hH => ?_)
    refine lv_aload_n hx hb dX11_takeField_55 rfl (lv_at hl 0 rfl) ?_
    refine am_get hx hb hts hK hown hH (am_o11 (p := 0) (by decide +kernel)) rfl am_inX11 8 (by decide) am_q339 (v := .ref (G.1 + 38)) rfl dX11_takeField_56 ?_
    refine lv_iconst (v := 0) hx hb dX11_takeField_59 (by decide) ?_
    obtain ⟨w_28, hw_28, hf⟩ := am_v_some hf
    refine am_puti hx hb hts hK hown hH (am_o4 (p := 38) (by decide +kernel)) rfl am_inX4 tyX4 tyX4_ok nmX4 3 (by decide) am_q213 rfl rfl rfl (fun _ _ => Nat.le_of_ble_eq_true rfl) (fun _ _ _ => rfl) dX11_takeField_60 (fun H locs hH => ?_)
    rw [← hw_28] at hH
    refine lv_aload_n hx hb dX11_takeField_63 rfl (lv_at hl 0 rfl) ?_
    refine am_get hx hb hts hK hown hH (am_o11 (p := 0) (by decide +kernel)) rfl am_inX11 10 (by decide) am_q341 (v := .ref (G.1 + 46)) rfl dX11_takeField_64 ?_
    refine lv_iconst (v := 0) hx hb dX11_takeField_67 (by decide) ?_
    obtain ⟨w_29, hw_29, hf⟩ := am_v_some hf
    refine am_puti hx hb hts hK hown hH (am_o3 (p := 46) (by decide +kernel)) rfl am_inX3 tyX3 tyX3_ok nmX3 2 (by decide) am_q235 rfl rfl rfl (fun _ _ => Nat.le_of_ble_eq_true rfl) (fun _ _ _ => rfl) dX11_takeField_68 (fun H locs hH => ?_)
    rw [← hw_29] at hH
    refine lv_aload_n hx hb dX11_takeField_71 rfl (lv_at hl 0 rfl) ?_
    refine lv_iconst (v := 0) hx hb dX11_takeField_72 (by decide) ?_
    obtain ⟨w_30, hw_30, hf⟩ := am_v_some hf
    refine am_puti hx hb hts hK hown hH (am_o11 (p := 0) (by decide +kernel)) rfl am_inX11 tyX11 tyX11_ok nmX11 18 (by decide) am_q349 rfl rfl rfl (fun _ _ => Nat.le_of_ble_eq_true rfl) (fun _ _ _ => rfl) dX11_takeField_73 (fun H locs hH => ?_)
    rw [← hw_30] at hH
    refine lv_aload_n hx hb dX11_takeField_76 rfl (lv_at hl 0 rfl) ?_
    refine am_get hx hb hts hK hown hH (am_o11 (p := 0) (by decide +kernel)) rfl am_inX11 2 (by decide) am_q333 (v := .ref (G.1 + 11)) rfl dX11_takeField_77 ?_
    refine am_get hx hb hts hK hown hH (am_o1 (p := 11) (by decide +kernel)) rfl am_inX1 11 (by decide) am_q106 (v := .int (w_30.1 11 11)) rfl dX11_takeField_80 ?_
    exact am_reti hx hb hr hlocks hH hf dX11_takeField_83
  · have hf := (if_neg hc_19).symm.trans hf
    refine lv_iconst (v := -1) hx hb dX11_takeField_15 (by decide) ?_
    exact am_reti hx hb hr hlocks hH hf dX11_takeField_16

def f_X11_takeScript_23  (w : am_S) : Option (Int32 × am_S) :=
  some ((-1 : Int32), w)
def f_X11_takeScript  (w : am_S) : Option (Int32 × am_S) :=
  if (4 : Int32) ≤ (w.1 0 17) then (f_X11_takeScript_23 w) else (am_b2 (f_X8_readFrom 19 w) fun r_15 w_13 => if r_15 = (-1 : Int32) then (am_chk (w_13.1 0 17) 4 (am_b2 (f_X8_readFrom (259 + 3 * (w_13.1 0 17).toNatClampNeg) w_13) fun r_20 w_18 => am_v (am_pi w_18 1 1 (0 : Int32)) fun (w_21 : am_S) => am_v (am_pi w_21 0 17 ((w_21.1 0 17) + (1 : Int32))) fun (w_22 : am_S) => some ((w_22.1 0 17) - (1 : Int32), w_22))) else (f_X11_takeScript_23 w_13))
set_option maxRecDepth 100000 in
set_option maxHeartbeats 4000000 in
theorem k_X11_takeScript {G : am_G} {l : Launch}   {w : am_S} {rr : Int32} {ww : am_S} (hf : f_X11_takeScript  w = some (rr, ww)) : am_Mi G l yX11_takeScript (Cond.code yX11_takeScript cX11_takeScript 1 (some .int) :: am_T) { frames := 6, cells := 0, slots := 0, locals := 384 } [.ref (G.1 + 0)] w rr ww := by
  refine Met.ofW (cc := cX11_takeScript) (maxL := 1) (ret := (some .int)) (by decide) rfl ?_
  intro p e s m args below meth c s₁ B hml hv
  obtain ⟨rfl, hx, hb, hr, hts, hown, hlocks, hK, hE, hH⟩ := am_begin B hv
  have hown : s.vm.findClass RX11 = some m.cls := hown
  show W p l e { frames := 6, cells := 0, slots := 0, locals := 384 } s m _ below meth c s.heap [] 0 0 _ _
  have P23 : ∀ (w : am_S) (H : Heap) (locs : List Loc) (ls : Array Slot), f_X11_takeScript_23 w = some (rr, ww) → am_H G w s H locs → lv_has ls 1 [] → W p l e { frames := 6, cells := 0, slots := 0, locals := 384 } s m [.ref (G.1 + 0)].toArray below meth c H locs 0 0 (MQ below (va_Qi (fun (x : Int32) (u : am_S) => x = rr ∧ u = ww) (am_U G) (am_A G)) [.ref (G.1 + 0)].toArray s 0 0 (am_A G)) (F0 m 23 ls []) := by
    intro w H locs ls hf hH hl
    unfold f_X11_takeScript_23 at hf
    refine lv_iconst (v := -1) hx hb dX11_takeScript_23 (by decide) ?_
    exact am_reti hx hb hr hlocks hH hf dX11_takeScript_24
  refine am_enter (lv := [(0, .ref (G.1 + 0))]) (Nat.le_of_ble_eq_true rfl) rfl (fun ls hl => ?_)
  unfold f_X11_takeScript at hf
  refine am_start hH (fun H locs hH => ?_)
  refine lv_aload_n hx hb dX11_takeScript_0 rfl (lv_at hl 0 rfl) ?_
  refine am_get hx hb hts hK hown hH (am_o11 (p := 0) (by decide +kernel)) rfl am_inX11 17 (by decide) am_q348 (v := .int (w.1 0 17)) rfl dX11_takeScript_1 ?_
  refine lv_iconst (v := 4) hx hb dX11_takeScript_4 (by decide) ?_
  refine lv_icmp_ge (tgt := 23) hx hb dX11_takeScript_5 (by decide) (fun hc_12 => ?_) (fun hc_12 => ?_)
  · have hf := (if_pos hc_12).symm.trans hf
    exact P23 w H locs ls hf hH (lv_sub hl [] rfl)
  · have hf := (if_neg hc_12).symm.trans hf
    refine lv_aload_n hx hb dX11_takeScript_8 rfl (lv_at hl 0 rfl) ?_
    refine am_get hx hb hts hK hown hH (am_o11 (p := 0) (by decide +kernel)) rfl am_inX11 3 (by decide) am_q334 (v := .ref (G.1 + 19)) rfl dX11_takeScript_9 ?_
    refine lv_aload_n hx hb dX11_takeScript_12 rfl (lv_at hl 0 rfl) ?_
    refine am_get hx hb hts hK hown hH (am_o11 (p := 0) (by decide +kernel)) rfl am_inX11 0 (by decide) am_q331 (v := .ref (G.1 + 1)) rfl dX11_takeScript_13 ?_
    obtain ⟨r_15, w_13, hq_14, hf⟩ := am_b2_some hf
    refine am_calli (r := r_15) (w' := w_13) (am_runV (n := 1) (As := [.ref (G.1 + 1)]) (rest := []) ⟨hx, hb, hml, hown, hts⟩ hK hE hH (k_X8_readFrom (by decide +kernel) hq_14) (am_gV am_q567 am_q568 am_q569 am_q4 am_q570) (am_o8 (p := 19) (by decide +kernel)) rfl ⟨rfl, rfl⟩ (by decide +kernel) ⟨Nat.le_of_ble_eq_true rfl, Nat.le_of_ble_eq_true rfl⟩ rfl hl.1 rfl (Nat.le_of_ble_eq_true rfl) ⟨Nat.zero_le _, Nat.zero_le _⟩ dX11_takeScript_16) hH (fun H locs hH => ?_)
    refine lv_iconst (v := -1) hx hb dX11_takeScript_19 (by decide) ?_
    refine lv_icmp_eq (tgt := 25) hx hb dX11_takeScript_20 (by decide) (fun hc_16 => ?_) (fun hc_16 => ?_)
    · have hf := (if_pos hc_16).symm.trans hf
      refine lv_aload_n hx hb dX11_takeScript_25 rfl (lv_at hl 0 rfl) ?_
      refine am_get hx hb hts hK hown hH (am_o11 (p := 0) (by decide +kernel)) rfl am_inX11 4 (by decide) am_q335 (v := .ref (G.1 + 22)) rfl dX11_takeScript_26 ?_
      refine lv_aload_n hx hb dX11_takeScript_29 rfl (lv_at hl 0 rfl) ?_
      refine am_get hx hb hts hK hown hH (am_o11 (p := 0) (by decide +kernel)) rfl am_inX11 17 (by decide) am_q348 (v := .int (w_13.1 0 17)) rfl dX11_takeScript_30 ?_
      obtain ⟨hi_17, hf⟩ := am_chk_some hf
      refine am_aald4 hx hb hK hH hi_17 dX11_takeScript_33 ?_
      refine lv_aload_n hx hb dX11_takeScript_34 rfl (lv_at hl 0 rfl) ?_
      refine am_get hx hb hts hK hown hH (am_o11 (p := 0) (by decide +kernel)) rfl am_inX11 0 (by decide) am_q331 (v := .ref (G.1 + 1)) rfl dX11_takeScript_35 ?_
      obtain ⟨r_20, w_18, hq_19, hf⟩ := am_b2_some hf
      refine am_calli (r := r_20) (w' := w_18) (am_runV (n := 1) (As := [.ref (G.1 + 1)]) (rest := []) ⟨hx, hb, hml, hown, hts⟩ hK hE hH (k_X8_readFrom (am_row4 hi_17) hq_19) (am_gV am_q567 am_q568 am_q569 am_q4 am_q570) (am_o8 (am_row4 hi_17).1) rfl ⟨rfl, rfl⟩ (by decide +kernel) ⟨Nat.le_of_ble_eq_true rfl, Nat.le_of_ble_eq_true rfl⟩ rfl hl.1 rfl (Nat.le_of_ble_eq_true rfl) ⟨Nat.zero_le _, Nat.zero_le _⟩ dX11_takeScript_38) hH (fun H locs hH => ?_)
      refine lv_pop hx hb dX11_takeScript_41 rfl ?_
      refine lv_aload_n hx hb dX11_takeScript_42 rfl (lv_at hl 0 rfl) ?_
      refine am_get hx hb hts hK hown hH (am_o11 (p := 0) (by decide +kernel)) rfl am_inX11 0 (by decide) am_q331 (v := .ref (G.1 + 1)) rfl dX11_takeScript_43 ?_
      refine lv_iconst (v := 0) hx hb dX11_takeScript_46 (by decide) ?_
      obtain ⟨w_21, hw_21, hf⟩ := am_v_some hf
      refine am_puti hx hb hts hK hown hH (am_o10 (p := 1) (by decide +kernel)) rfl am_inX10 tyX10 tyX10_ok nmX10 1 (by decide) am_q46 rfl rfl rfl (fun _ _ => Nat.le_of_ble_eq_true rfl) (fun _ _ _ => rfl) dX11_takeScript_47 (fun H locs hH => ?_)
      rw [← hw_21] at hH
      refine lv_aload_n hx hb dX11_takeScript_50 rfl (lv_at hl 0 rfl) ?_
      refine lv_dup hx hb dX11_takeScript_51 rfl ?_
      refine am_get hx hb hts hK hown hH (am_o11 (p := 0) (by decide +kernel)) rfl am_inX11 17 (by decide) am_q348 (v := .int (w_21.1 0 17)) rfl dX11_takeScript_52 ?_
      refine lv_iconst (v := 1) hx hb dX11_takeScript_55 (by decide) ?_
      refine lv_iadd hx hb dX11_takeScript_56 ?_
      obtain ⟨w_22, hw_22, hf⟩ := am_v_some hf
      refine am_puti hx hb hts hK hown hH (am_o11 (p := 0) (by decide +kernel)) rfl am_inX11 tyX11 tyX11_ok nmX11 17 (by decide) am_q348 rfl rfl rfl (fun _ _ => Nat.le_of_ble_eq_true rfl) (fun _ _ _ => rfl) dX11_takeScript_57 (fun H locs hH => ?_)
      rw [← hw_22] at hH
      refine lv_aload_n hx hb dX11_takeScript_60 rfl (lv_at hl 0 rfl) ?_
      refine am_get hx hb hts hK hown hH (am_o11 (p := 0) (by decide +kernel)) rfl am_inX11 17 (by decide) am_q348 (v := .int (w_22.1 0 17)) rfl dX11_takeScript_61 ?_
      refine lv_iconst (v := 1) hx hb dX11_takeScript_64 (by decide) ?_
      refine lv_isub hx hb dX11_takeScript_65 ?_
      exact am_reti hx hb hr hlocks hH hf dX11_takeScript_66
    · have hf := (if_neg hc_16).symm.trans hf
      exact P23 w_13 H locs ls hf hH (lv_sub hl [] rfl)

def f_X11_text_22 (a1 : Int32) (s0 : Int32) (w : am_S) : Option (Int32 × am_S) :=
  some (s0, w)
def f_X11_text (a1 : Int32) (w : am_S) : Option (Int32 × am_S) :=
  if a1 = 0 then (am_b2 (f_X11_takeField w) fun r_16 w_14 => some (r_16, w_14)) else (if a1 = (1 : Int32) then (am_b2 (f_X11_takeScript w) fun r_13 w_11 => f_X11_text_22 a1 r_13 w_11) else (f_X11_text_22 a1 (-1 : Int32) w))
set_option maxRecDepth 100000 in
set_option maxHeartbeats 4000000 in
theorem k_X11_text {G : am_G} {l : Launch} {a1 : Int32}  {w : am_S} {rr : Int32} {ww : am_S} (hf : f_X11_text a1 w = some (rr, ww)) : am_Mi G l yX11_text (Cond.code yX11_text cX11_text 2 (some .int) :: am_T) { frames := 8, cells := 0, slots := 0, locals := 512 } [.ref (G.1 + 0), .int a1] w rr ww := by
  refine Met.ofW (cc := cX11_text) (maxL := 2) (ret := (some .int)) (by decide) rfl ?_
  intro p e s m args below meth c s₁ B hml hv
  obtain ⟨rfl, hx, hb, hr, hts, hown, hlocks, hK, hE, hH⟩ := am_begin B hv
  have hown : s.vm.findClass RX11 = some m.cls := hown
  show W p l e { frames := 8, cells := 0, slots := 0, locals := 512 } s m _ below meth c s.heap [] 0 0 _ _
  have P22 : ∀ (s0 : Int32) (w : am_S) (H : Heap) (locs : List Loc) (ls : Array Slot), f_X11_text_22 a1 s0 w = some (rr, ww) → am_H G w s H locs → lv_has ls 2 [] → W p l e { frames := 8, cells := 0, slots := 0, locals := 512 } s m [.ref (G.1 + 0), .int a1].toArray below meth c H locs 0 0 (MQ below (va_Qi (fun (x : Int32) (u : am_S) => x = rr ∧ u = ww) (am_U G) (am_A G)) [.ref (G.1 + 0), .int a1].toArray s 0 0 (am_A G)) (F0 m 22 ls [.int s0]) := by
    intro s0 w H locs ls hf hH hl
    unfold f_X11_text_22 at hf
    exact am_reti hx hb hr hlocks hH hf dX11_text_22
  refine am_enter (lv := [(0, .ref (G.1 + 0)), (1, .int a1)]) (Nat.le_of_ble_eq_true rfl) rfl (fun ls hl => ?_)
  unfold f_X11_text at hf
  refine am_start hH (fun H locs hH => ?_)
  refine lv_iload_n hx hb dX11_text_0 rfl (lv_at hl 1 rfl) ?_
  refine lv_if_ne (tgt := 9) hx hb dX11_text_1 (by decide) (fun hc_9 => ?_) (fun hc_9 => ?_)
  · have hf := (if_neg hc_9).symm.trans hf
    refine lv_iload_n hx hb dX11_text_9 rfl (lv_at hl 1 rfl) ?_
    refine lv_iconst (v := 1) hx hb dX11_text_10 (by decide) ?_
    refine lv_icmp_ne (tgt := 21) hx hb dX11_text_11 (by decide) (fun hc_10 => ?_) (fun hc_10 => ?_)
    · have hf := (if_neg hc_10).symm.trans hf
      refine lv_iconst (v := -1) hx hb dX11_text_21 (by decide) ?_
      exact P22 (-1 : Int32) w H locs ls hf hH (lv_sub hl [] rfl)
    · have hf := (if_pos hc_10).symm.trans hf
      refine lv_aload_n hx hb dX11_text_14 rfl (lv_at hl 0 rfl) ?_
      obtain ⟨r_13, w_11, hq_12, hf⟩ := am_b2_some hf
      refine am_calli (r := r_13) (w' := w_11) (am_runV (n := 0) (As := []) (rest := []) ⟨hx, hb, hml, hown, hts⟩ hK hE hH (k_X11_takeScript hq_12) (am_gV am_q617 am_q619 am_qs10 am_q1 am_q620) (am_o11 (p := 0) (by decide +kernel)) rfl ⟨rfl, rfl⟩ (by decide +kernel) ⟨Nat.le_of_ble_eq_true rfl, Nat.le_of_ble_eq_true rfl⟩ rfl hl.1 rfl (Nat.le_of_ble_eq_true rfl) ⟨Nat.zero_le _, Nat.zero_le _⟩ dX11_text_15) hH (fun H locs hH => ?_)
      refine lv_goto (tgt := 22) hx hb dX11_text_18 (by decide) ?_
      exact P22 r_13 w_11 H locs ls hf hH (lv_sub hl [] rfl)
  · have hf := (if_pos hc_9).symm.trans hf
    refine lv_aload_n hx hb dX11_text_4 rfl (lv_at hl 0 rfl) ?_
    obtain ⟨r_16, w_14, hq_15, hf⟩ := am_b2_some hf
    refine am_calli (r := r_16) (w' := w_14) (am_runV (n := 0) (As := []) (rest := []) ⟨hx, hb, hml, hown, hts⟩ hK hE hH (k_X11_takeField hq_15) (am_gV am_q588 am_q590 am_qs9 am_q1 am_q591) (am_o11 (p := 0) (by decide +kernel)) rfl ⟨rfl, rfl⟩ (by decide +kernel) ⟨Nat.le_of_ble_eq_true rfl, Nat.le_of_ble_eq_true rfl⟩ rfl hl.1 rfl (Nat.le_of_ble_eq_true rfl) ⟨Nat.zero_le _, Nat.zero_le _⟩ dX11_text_5) hH (fun H locs hH => ?_)
    exact am_reti hx hb hr hlocks hH hf dX11_text_8

def f_X6_greatestCapture_79  (s0 : Int32) (w : am_S) : Option (Int32 × am_S) :=
  some (s0, w)
def f_X6_greatestCapture_70  (x1 : Int32) (w : am_S) : Option (Int32 × am_S) :=
  if x1 = 0 then (f_X6_greatestCapture_79 (-1 : Int32) w) else (f_X6_greatestCapture_79 x1 w)
def f_X6_greatestCapture_64  (x1 : Int32) (x2 : Int32) (x3 : Int32) (w : am_S) : Option ((Int32 × am_S) ⊕ (Int32 × Int32 × Int32 × am_S)) :=
  am_v (x3 + (1 : Int32)) fun (x3_14 : Int32) => some (.inr (x1, x2, x3_14, w))
def f_X6_greatestCapture_7b  (x1 : Int32) (x2 : Int32) (x3 : Int32) (w : am_S) : Option ((Int32 × am_S) ⊕ (Int32 × Int32 × Int32 × am_S)) :=
  if (10 : Int32) ≤ x3 then (am_x (f_X6_greatestCapture_70 x1 w)) else (if x2 ≤ x1 then (am_x (f_X6_greatestCapture_70 x1 w)) else (am_v (((x1 + x2) + (1 : Int32)) / (2 : Int32)) fun (x4_19 : Int32) => am_b1 (f_X7_assume x4_19 w) fun w_20 => am_b2 (f_X7_stuckOf (w_20.1 250 6) w_20) fun r_24 w_22 => if r_24 = 0 then (f_X6_greatestCapture_64 x4_19 x2 x3 w_22) else (am_v (x4_19 - (1 : Int32)) fun (x2_26 : Int32) => f_X6_greatestCapture_64 x1 x2_26 x3 w_22)))
def f_X6_greatestCapture_7  (x1 : Int32) (x2 : Int32) (x3 : Int32) (w : am_S) : Option (Int32 × am_S) :=
  am_loop (fun (st : (Int32 × Int32 × Int32 × am_S)) => f_X6_greatestCapture_7b st.1 st.2.1 st.2.2.1 st.2.2.2) am_fuel (x1, x2, x3, w)
def f_X6_greatestCapture  (w : am_S) : Option (Int32 × am_S) :=
  f_X6_greatestCapture_7 (0 : Int32) (99 : Int32) (0 : Int32) w
set_option maxRecDepth 100000 in
set_option maxHeartbeats 4000000 in
theorem k_X6_greatestCapture {G : am_G} {l : Launch}   {w : am_S} {rr : Int32} {ww : am_S} (hf : f_X6_greatestCapture  w = some (rr, ww)) : am_Mi G l yX6_greatestCapture (Cond.code yX6_greatestCapture cX6_greatestCapture 5 (some .int) :: am_T) { frames := 4, cells := 0, slots := 0, locals := 256 } [.ref (G.1 + 257)] w rr ww := by
  refine Met.ofW (cc := cX6_greatestCapture) (maxL := 5) (ret := (some .int)) (by decide) rfl ?_
  intro p e s m args below meth c s₁ B hml hv
  obtain ⟨rfl, hx, hb, hr, hts, hown, hlocks, hK, hE, hH⟩ := am_begin B hv
  have hown : s.vm.findClass RX6 = some m.cls := hown
  show W p l e { frames := 4, cells := 0, slots := 0, locals := 256 } s m _ below meth c s.heap [] 0 0 _ _
  have P79 : ∀ (s0 : Int32) (w : am_S) (H : Heap) (locs : List Loc) (ls : Array Slot), f_X6_greatestCapture_79 s0 w = some (rr, ww) → am_H G w s H locs → lv_has ls 5 [] → W p l e { frames := 4, cells := 0, slots := 0, locals := 256 } s m [.ref (G.1 + 257)].toArray below meth c H locs 0 0 (MQ below (va_Qi (fun (x : Int32) (u : am_S) => x = rr ∧ u = ww) (am_U G) (am_A G)) [.ref (G.1 + 257)].toArray s 0 0 (am_A G)) (F0 m 79 ls [.int s0]) := by
    intro s0 w H locs ls hf hH hl
    unfold f_X6_greatestCapture_79 at hf
    exact am_reti hx hb hr hlocks hH hf dX6_greatestCapture_79
  have P70 : ∀ (x1 : Int32) (w : am_S) (H : Heap) (locs : List Loc) (ls : Array Slot), f_X6_greatestCapture_70 x1 w = some (rr, ww) → am_H G w s H locs → lv_has ls 5 [(1, .int x1)] → W p l e { frames := 4, cells := 0, slots := 0, locals := 256 } s m [.ref (G.1 + 257)].toArray below meth c H locs 0 0 (MQ below (va_Qi (fun (x : Int32) (u : am_S) => x = rr ∧ u = ww) (am_U G) (am_A G)) [.ref (G.1 + 257)].toArray s 0 0 (am_A G)) (F0 m 70 ls []) := by
    intro x1 w H locs ls hf hH hl
    unfold f_X6_greatestCapture_70 at hf
    refine lv_iload_n hx hb dX6_greatestCapture_70 rfl (lv_at hl 0 rfl) ?_
    refine lv_if_ne (tgt := 78) hx hb dX6_greatestCapture_71 (by decide) (fun hc_13 => ?_) (fun hc_13 => ?_)
    · have hf := (if_neg hc_13).symm.trans hf
      refine lv_iload_n hx hb dX6_greatestCapture_78 rfl (lv_at hl 0 rfl) ?_
      exact P79 x1 w H locs ls hf hH (lv_sub hl [] rfl)
    · have hf := (if_pos hc_13).symm.trans hf
      refine lv_iconst (v := -1) hx hb dX6_greatestCapture_74 (by decide) ?_
      refine lv_goto (tgt := 79) hx hb dX6_greatestCapture_75 (by decide) ?_
      exact P79 (-1 : Int32) w H locs ls hf hH (lv_sub hl [] rfl)
  have P7 : ∀ (n1 : Nat) (x1 : Int32) (x2 : Int32) (x3 : Int32) (w : am_S) (H : Heap) (locs : List Loc) (ls : Array Slot), am_loop (fun (st : (Int32 × Int32 × Int32 × am_S)) => f_X6_greatestCapture_7b st.1 st.2.1 st.2.2.1 st.2.2.2) n1 (x1, x2, x3, w) = some (rr, ww) → am_H G w s H locs → lv_has ls 5 [(0, .ref (G.1 + 257)), (1, .int x1), (2, .int x2), (3, .int x3)] → W p l e { frames := 4, cells := 0, slots := 0, locals := 256 } s m [.ref (G.1 + 257)].toArray below meth c H locs 0 0 (MQ below (va_Qi (fun (x : Int32) (u : am_S) => x = rr ∧ u = ww) (am_U G) (am_A G)) [.ref (G.1 + 257)].toArray s 0 0 (am_A G)) (F0 m 7 ls []) := by
    intro n1
    induction n1 with
    | zero =>
      intro x1 x2 x3 w H locs ls hf hH hl
      exact (am_loop_zero hf).elim
    | succ n1 ih1 =>
      intro x1 x2 x3 w H locs ls hf hH hl
      obtain ⟨z1, hf, hk1⟩ := am_loop_succ hf
      have hf : f_X6_greatestCapture_7b x1 x2 x3 w = some z1 := hf
      have P64 : ∀ (x1 : Int32) (x2 : Int32) (x3 : Int32) (w : am_S) (z1 : ((Int32 × am_S) ⊕ (Int32 × Int32 × Int32 × am_S))) (H : Heap) (locs : List Loc) (ls : Array Slot), f_X6_greatestCapture_64 x1 x2 x3 w = some z1 → am_lk (fun (st : (Int32 × Int32 × Int32 × am_S)) => f_X6_greatestCapture_7b st.1 st.2.1 st.2.2.1 st.2.2.2) n1 (rr, ww) z1 → am_H G w s H locs → lv_has ls 5 [(0, .ref (G.1 + 257)), (1, .int x1), (2, .int x2), (3, .int x3)] → W p l e { frames := 4, cells := 0, slots := 0, locals := 256 } s m [.ref (G.1 + 257)].toArray below meth c H locs 0 0 (MQ below (va_Qi (fun (x : Int32) (u : am_S) => x = rr ∧ u = ww) (am_U G) (am_A G)) [.ref (G.1 + 257)].toArray s 0 0 (am_A G)) (F0 m 64 ls []) := by
        intro x1 x2 x3 w z1 H locs ls hf hk1 hH hl
        unfold f_X6_greatestCapture_64 at hf
        obtain ⟨x3_14, hx3_14, hf⟩ := am_v_some hf
        refine lv_iinc (v := x3_14) (lv' := [(3, .int x3_14), (0, .ref (G.1 + 257)), (1, .int x1), (2, .int x2)]) hx hb dX6_greatestCapture_64 hl (k := 3) rfl (by rw [hx3_14]; rfl) (by decide) rfl (fun ls hl => ?_)
        refine lv_goto (tgt := 7) hx hb dX6_greatestCapture_67 (by decide) ?_
        obtain rfl := Option.some.inj hf
        exact ih1 x1 x2 x3_14 w H locs ls hk1 hH (lv_sub hl [1, 2, 3, 0] rfl)
      unfold f_X6_greatestCapture_7b at hf
      refine lv_iload_n hx hb dX6_greatestCapture_7 rfl (lv_at hl 3 rfl) ?_
      refine lv_bipush (v := 10) hx hb dX6_greatestCapture_8 (by decide) ?_
      refine lv_icmp_ge (tgt := 70) hx hb dX6_greatestCapture_10 (by decide) (fun hc_15 => ?_) (fun hc_15 => ?_)
      · have hf := (if_pos hc_15).symm.trans hf
        obtain ⟨y_16, hf, hzy_16⟩ := am_x_some hf
        rw [hzy_16] at hk1
        have hf := hf.trans (congrArg some (show y_16 = (rr, ww) from hk1))
        exact P70 x1 w H locs ls hf hH (lv_sub hl [1] rfl)
      · have hf := (if_neg hc_15).symm.trans hf
        refine lv_iload_n hx hb dX6_greatestCapture_13 rfl (lv_at hl 1 rfl) ?_
        refine lv_iload_n hx hb dX6_greatestCapture_14 rfl (lv_at hl 2 rfl) ?_
        refine lv_icmp_ge (tgt := 70) hx hb dX6_greatestCapture_15 (by decide) (fun hc_17 => ?_) (fun hc_17 => ?_)
        · have hf := (if_pos hc_17).symm.trans hf
          obtain ⟨y_18, hf, hzy_18⟩ := am_x_some hf
          rw [hzy_18] at hk1
          have hf := hf.trans (congrArg some (show y_18 = (rr, ww) from hk1))
          exact P70 x1 w H locs ls hf hH (lv_sub hl [1] rfl)
        · have hf := (if_neg hc_17).symm.trans hf
          refine lv_iload_n hx hb dX6_greatestCapture_18 rfl (lv_at hl 1 rfl) ?_
          refine lv_iload_n hx hb dX6_greatestCapture_19 rfl (lv_at hl 2 rfl) ?_
          refine lv_iadd hx hb dX6_greatestCapture_20 ?_
          refine lv_iconst (v := 1) hx hb dX6_greatestCapture_21 (by decide) ?_
          refine lv_iadd hx hb dX6_greatestCapture_22 ?_
          refine lv_iconst (v := 2) hx hb dX6_greatestCapture_23 (by decide) ?_
          refine lv_idiv hx hb dX6_greatestCapture_24 (by decide) ?_
          obtain ⟨x4_19, hx4_19, hf⟩ := am_v_some hf
          refine am_topi hx4_19 ?_
          refine lv_istore (lv' := [(4, .int x4_19), (0, .ref (G.1 + 257)), (1, .int x1), (2, .int x2), (3, .int x3)]) hx hb dX6_greatestCapture_25 hl (by decide) rfl (fun ls hl => ?_)
          refine lv_aload_n hx hb dX6_greatestCapture_27 rfl (lv_at hl 1 rfl) ?_
          refine am_get hx hb hts hK hown hH (am_o6 (p := 257) (by decide +kernel)) rfl am_inX6 1 (by decide) am_q315 (v := .ref (G.1 + 250)) rfl dX6_greatestCapture_28 ?_
          refine lv_iload hx hb dX6_greatestCapture_31 (lv_at hl 0 rfl) ?_
          obtain ⟨w_20, hq_21, hf⟩ := am_b1_some hf
          refine am_callv (w' := w_20) (am_runV (n := 1) (As := [.int x4_19]) (rest := []) ⟨hx, hb, hml, hown, hts⟩ hK hE hH (k_X7_assume hq_21) (am_gV am_q983 am_q682 am_q683 am_q9 am_q684) (am_o7 (p := 250) (by decide +kernel)) rfl ⟨rfl, rfl⟩ (by decide +kernel) ⟨Nat.le_of_ble_eq_true rfl, Nat.le_of_ble_eq_true rfl⟩ rfl hl.1 rfl (Nat.le_of_ble_eq_true rfl) ⟨Nat.zero_le _, Nat.zero_le _⟩ dX6_greatestCapture_33) hH (fun H locs hH => ?_)
          refine lv_aload_n hx hb dX6_greatestCapture_36 rfl (lv_at hl 1 rfl) ?_
          refine am_get hx hb hts hK hown hH (am_o6 (p := 257) (by decide +kernel)) rfl am_inX6 1 (by decide) am_q315 (v := .ref (G.1 + 250)) rfl dX6_greatestCapture_37 ?_
          refine lv_aload_n hx hb dX6_greatestCapture_40 rfl (lv_at hl 1 rfl) ?_
          refine am_get hx hb hts hK hown hH (am_o6 (p := 257) (by decide +kernel)) rfl am_inX6 1 (by decide) am_q315 (v := .ref (G.1 + 250)) rfl dX6_greatestCapture_41 ?_
          refine am_get hx hb hts hK hown hH (am_o7 (p := 250) (by decide +kernel)) rfl am_inX7 6 (by decide) am_q270 (v := .int (w_20.1 250 6)) rfl dX6_greatestCapture_44 ?_
          obtain ⟨r_24, w_22, hq_23, hf⟩ := am_b2_some hf
          refine am_calli (r := r_24) (w' := w_22) (am_runV (n := 1) (As := [.int (w_20.1 250 6)]) (rest := []) ⟨hx, hb, hml, hown, hts⟩ hK hE hH (k_X7_stuckOf hq_23) (am_gV am_q973 am_q950 am_q951 am_q9 am_q952) (am_o7 (p := 250) (by decide +kernel)) rfl ⟨rfl, rfl⟩ (by decide +kernel) ⟨Nat.le_of_ble_eq_true rfl, Nat.le_of_ble_eq_true rfl⟩ rfl hl.1 rfl (Nat.le_of_ble_eq_true rfl) ⟨Nat.zero_le _, Nat.zero_le _⟩ dX6_greatestCapture_47) hH (fun H locs hH => ?_)
          refine lv_if_ne (tgt := 59) hx hb dX6_greatestCapture_50 (by decide) (fun hc_25 => ?_) (fun hc_25 => ?_)
          · have hf := (if_neg hc_25).symm.trans hf
            refine lv_iload hx hb dX6_greatestCapture_59 (lv_at hl 0 rfl) ?_
            refine lv_iconst (v := 1) hx hb dX6_greatestCapture_61 (by decide) ?_
            refine lv_isub hx hb dX6_greatestCapture_62 ?_
            obtain ⟨x2_26, hx2_26, hf⟩ := am_v_some hf
            refine am_topi hx2_26 ?_
            refine lv_istore_n (lv' := [(2, .int x2_26), (4, .int x4_19), (0, .ref (G.1 + 257)), (1, .int x1), (3, .int x3)]) hx hb dX6_greatestCapture_63 rfl hl (by decide) rfl (fun ls hl => ?_)
            exact P64 x1 x2_26 x3 w_22 z1 H locs ls hf hk1 hH (lv_sub hl [2, 3, 0, 4] rfl)
          · have hf := (if_pos hc_25).symm.trans hf
            refine lv_iload hx hb dX6_greatestCapture_53 (lv_at hl 0 rfl) ?_
            refine lv_istore_n (lv' := [(1, .int x4_19), (4, .int x4_19), (0, .ref (G.1 + 257)), (2, .int x2), (3, .int x3)]) hx hb dX6_greatestCapture_55 rfl hl (by decide) rfl (fun ls hl => ?_)
            refine lv_goto (tgt := 64) hx hb dX6_greatestCapture_56 (by decide) ?_
            exact P64 x4_19 x2 x3 w_22 z1 H locs ls hf hk1 hH (lv_sub hl [2, 0, 3, 4] rfl)
  refine am_enter (lv := [(0, .ref (G.1 + 257))]) (Nat.le_of_ble_eq_true rfl) rfl (fun ls hl => ?_)
  unfold f_X6_greatestCapture at hf
  refine am_start hH (fun H locs hH => ?_)
  refine lv_iconst (v := 0) hx hb dX6_greatestCapture_0 (by decide) ?_
  refine lv_istore_n (lv' := [(1, .int (0 : Int32)), (0, .ref (G.1 + 257))]) hx hb dX6_greatestCapture_1 rfl hl (by decide) rfl (fun ls hl => ?_)
  refine lv_bipush (v := 99) hx hb dX6_greatestCapture_2 (by decide) ?_
  refine lv_istore_n (lv' := [(2, .int (99 : Int32)), (1, .int (0 : Int32)), (0, .ref (G.1 + 257))]) hx hb dX6_greatestCapture_4 rfl hl (by decide) rfl (fun ls hl => ?_)
  refine lv_iconst (v := 0) hx hb dX6_greatestCapture_5 (by decide) ?_
  refine lv_istore_n (lv' := [(3, .int (0 : Int32)), (2, .int (99 : Int32)), (1, .int (0 : Int32)), (0, .ref (G.1 + 257))]) hx hb dX6_greatestCapture_6 rfl hl (by decide) rfl (fun ls hl => ?_)
  exact P7 am_fuel (0 : Int32) (99 : Int32) (0 : Int32) w H locs ls hf hH (lv_sub hl [3, 2, 1, 0] rfl)

def f_X11_tight  (w : am_S) : Option (Int32 × am_S) :=
  am_b2 (f_X11_noField w) fun r_12 w_10 => if r_12 = 0 then (am_b1 (f_X7_lookAt 23 w_10) fun w_14 => am_b2 (f_X6_greatestCapture w_14) fun r_18 w_16 => some (r_18, w_16)) else (some ((-1 : Int32), w_10))
set_option maxRecDepth 100000 in
set_option maxHeartbeats 4000000 in
theorem k_X11_tight {G : am_G} {l : Launch}   {w : am_S} {rr : Int32} {ww : am_S} (hf : f_X11_tight  w = some (rr, ww)) : am_Mi G l yX11_tight (Cond.code yX11_tight cX11_tight 1 (some .int) :: am_T) { frames := 5, cells := 0, slots := 0, locals := 320 } [.ref (G.1 + 0)] w rr ww := by
  refine Met.ofW (cc := cX11_tight) (maxL := 1) (ret := (some .int)) (by decide) rfl ?_
  intro p e s m args below meth c s₁ B hml hv
  obtain ⟨rfl, hx, hb, hr, hts, hown, hlocks, hK, hE, hH⟩ := am_begin B hv
  have hown : s.vm.findClass RX11 = some m.cls := hown
  show W p l e { frames := 5, cells := 0, slots := 0, locals := 320 } s m _ below meth c s.heap [] 0 0 _ _
  refine am_enter (lv := [(0, .ref (G.1 + 0))]) (Nat.le_of_ble_eq_true rfl) rfl (fun ls hl => ?_)
  unfold f_X11_tight at hf
  refine am_start hH (fun H locs hH => ?_)
  refine lv_aload_n hx hb dX11_tight_0 rfl (lv_at hl 0 rfl) ?_
  obtain ⟨r_12, w_10, hq_11, hf⟩ := am_b2_some hf
  refine am_calli (r := r_12) (w' := w_10) (am_runV (n := 0) (As := []) (rest := []) ⟨hx, hb, hml, hown, hts⟩ hK hE hH (k_X11_noField hq_11) (am_gV am_q625 am_q627 am_qs11 am_q1 am_q628) (am_o11 (p := 0) (by decide +kernel)) rfl ⟨rfl, rfl⟩ (by decide +kernel) ⟨Nat.le_of_ble_eq_true rfl, Nat.le_of_ble_eq_true rfl⟩ rfl hl.1 rfl (Nat.le_of_ble_eq_true rfl) ⟨Nat.zero_le _, Nat.zero_le _⟩ dX11_tight_1) hH (fun H locs hH => ?_)
  refine lv_if_eq (tgt := 9) hx hb dX11_tight_4 (by decide) (fun hc_13 => ?_) (fun hc_13 => ?_)
  · have hf := (if_pos hc_13).symm.trans hf
    refine lv_aload_n hx hb dX11_tight_9 rfl (lv_at hl 0 rfl) ?_
    refine am_get hx hb hts hK hown hH (am_o11 (p := 0) (by decide +kernel)) rfl am_inX11 13 (by decide) am_q344 (v := .ref (G.1 + 250)) rfl dX11_tight_10 ?_
    refine lv_aload_n hx hb dX11_tight_13 rfl (lv_at hl 0 rfl) ?_
    refine am_get hx hb hts hK hown hH (am_o11 (p := 0) (by decide +kernel)) rfl am_inX11 5 (by decide) am_q336 (v := .ref (G.1 + 23)) rfl dX11_tight_14 ?_
    obtain ⟨w_14, hq_15, hf⟩ := am_b1_some hf
    refine am_callv (w' := w_14) (am_runV (n := 1) (As := [.ref (G.1 + 23)]) (rest := []) ⟨hx, hb, hml, hown, hts⟩ hK hE hH (k_X7_lookAt (by decide +kernel) hq_15) (am_gV am_q670 am_q671 am_q672 am_q9 am_q673) (am_o7 (p := 250) (by decide +kernel)) rfl ⟨rfl, rfl⟩ (by decide +kernel) ⟨Nat.le_of_ble_eq_true rfl, Nat.le_of_ble_eq_true rfl⟩ rfl hl.1 rfl (Nat.le_of_ble_eq_true rfl) ⟨Nat.zero_le _, Nat.zero_le _⟩ dX11_tight_17) hH (fun H locs hH => ?_)
    refine lv_aload_n hx hb dX11_tight_20 rfl (lv_at hl 0 rfl) ?_
    refine am_get hx hb hts hK hown hH (am_o11 (p := 0) (by decide +kernel)) rfl am_inX11 15 (by decide) am_q346 (v := .ref (G.1 + 257)) rfl dX11_tight_21 ?_
    obtain ⟨r_18, w_16, hq_17, hf⟩ := am_b2_some hf
    refine am_calli (r := r_18) (w' := w_16) (am_runV (n := 0) (As := []) (rest := []) ⟨hx, hb, hml, hown, hts⟩ hK hE hH (k_X6_greatestCapture hq_17) (am_gV am_q979 am_q980 am_q981 am_q11 am_q982) (am_o6 (p := 257) (by decide +kernel)) rfl ⟨rfl, rfl⟩ (by decide +kernel) ⟨Nat.le_of_ble_eq_true rfl, Nat.le_of_ble_eq_true rfl⟩ rfl hl.1 rfl (Nat.le_of_ble_eq_true rfl) ⟨Nat.zero_le _, Nat.zero_le _⟩ dX11_tight_24) hH (fun H locs hH => ?_)
    exact am_reti hx hb hr hlocks hH hf dX11_tight_27
  · have hf := (if_neg hc_13).symm.trans hf
    refine lv_iconst (v := -1) hx hb dX11_tight_7 (by decide) ?_
    exact am_reti hx hb hr hlocks hH hf dX11_tight_8

def f_X11_touch_21 (a1 : Int32) (a2 : Int32) (w : am_S) : Option (Int32 × am_S) :=
  some ((-1 : Int32), w)
def f_X11_touch_47 (a1 : Int32) (a2 : Int32) (w : am_S) : Option (Int32 × am_S) :=
  some ((-1 : Int32), w)
def f_X11_touch (a1 : Int32) (a2 : Int32) (w : am_S) : Option (Int32 × am_S) :=
  am_b2 (f_X11_noUser a1 w) fun r_21 w_19 => if r_21 = 0 then (am_b2 (f_X11_noUser a2 w_19) fun r_25 w_23 => if r_25 = 0 then (if a1 = a2 then (f_X11_touch_21 a1 a2 w_23) else (am_chk a1 10 (if (w_23.1 24 a1.toNatClampNeg) = 0 then (am_chk a2 10 (if (w_23.1 24 a2.toNatClampNeg) = 0 then (am_chk a1 10 (am_chk a2 10 (am_b2 (f_J13_bitCount_95d88 ((w_23.2.1 25 a1.toNatClampNeg) &&& (w_23.2.1 25 a2.toNatClampNeg)) w_23) fun r_36 w_34 => some (r_36, w_34)))) else (f_X11_touch_47 a1 a2 w_23))) else (f_X11_touch_47 a1 a2 w_23)))) else (f_X11_touch_21 a1 a2 w_23)) else (f_X11_touch_21 a1 a2 w_19)
set_option maxRecDepth 100000 in
set_option maxHeartbeats 4000000 in
theorem k_X11_touch {G : am_G} {l : Launch} {a1 : Int32} {a2 : Int32}  {w : am_S} {rr : Int32} {ww : am_S} (hf : f_X11_touch a1 a2 w = some (rr, ww)) : am_Mi G l yX11_touch (Cond.code yX11_touch cX11_touch 3 (some .int) :: am_T) { frames := 1, cells := 0, slots := 0, locals := 64 } [.ref (G.1 + 0), .int a1, .int a2] w rr ww := by
  refine Met.ofW (cc := cX11_touch) (maxL := 3) (ret := (some .int)) (by decide) rfl ?_
  intro p e s m args below meth c s₁ B hml hv
  obtain ⟨rfl, hx, hb, hr, hts, hown, hlocks, hK, hE, hH⟩ := am_begin B hv
  have hown : s.vm.findClass RX11 = some m.cls := hown
  show W p l e { frames := 1, cells := 0, slots := 0, locals := 64 } s m _ below meth c s.heap [] 0 0 _ _
  have P21 : ∀ (w : am_S) (H : Heap) (locs : List Loc) (ls : Array Slot), f_X11_touch_21 a1 a2 w = some (rr, ww) → am_H G w s H locs → lv_has ls 3 [] → W p l e { frames := 1, cells := 0, slots := 0, locals := 64 } s m [.ref (G.1 + 0), .int a1, .int a2].toArray below meth c H locs 0 0 (MQ below (va_Qi (fun (x : Int32) (u : am_S) => x = rr ∧ u = ww) (am_U G) (am_A G)) [.ref (G.1 + 0), .int a1, .int a2].toArray s 0 0 (am_A G)) (F0 m 21 ls []) := by
    intro w H locs ls hf hH hl
    unfold f_X11_touch_21 at hf
    refine lv_iconst (v := -1) hx hb dX11_touch_21 (by decide) ?_
    exact am_reti hx hb hr hlocks hH hf dX11_touch_22
  have P47 : ∀ (w : am_S) (H : Heap) (locs : List Loc) (ls : Array Slot), f_X11_touch_47 a1 a2 w = some (rr, ww) → am_H G w s H locs → lv_has ls 3 [] → W p l e { frames := 1, cells := 0, slots := 0, locals := 64 } s m [.ref (G.1 + 0), .int a1, .int a2].toArray below meth c H locs 0 0 (MQ below (va_Qi (fun (x : Int32) (u : am_S) => x = rr ∧ u = ww) (am_U G) (am_A G)) [.ref (G.1 + 0), .int a1, .int a2].toArray s 0 0 (am_A G)) (F0 m 47 ls []) := by
    intro w H locs ls hf hH hl
    unfold f_X11_touch_47 at hf
    refine lv_iconst (v := -1) hx hb dX11_touch_47 (by decide) ?_
    exact am_reti hx hb hr hlocks hH hf dX11_touch_48
  refine am_enter (lv := [(0, .ref (G.1 + 0)), (1, .int a1), (2, .int a2)]) (Nat.le_of_ble_eq_true rfl) rfl (fun ls hl => ?_)
  unfold f_X11_touch at hf
  refine am_start hH (fun H locs hH => ?_)
  refine lv_aload_n hx hb dX11_touch_0 rfl (lv_at hl 0 rfl) ?_
  refine lv_iload_n hx hb dX11_touch_1 rfl (lv_at hl 1 rfl) ?_
  obtain ⟨r_21, w_19, hq_20, hf⟩ := am_b2_some hf
  refine am_calli (r := r_21) (w' := w_19) (am_runV (n := 1) (As := [.int a1]) (rest := []) ⟨hx, hb, hml, hown, hts⟩ hK hE hH (k_X11_noUser hq_20) (am_gV am_q641 am_q643 am_qs12 am_q1 am_q644) (am_o11 (p := 0) (by decide +kernel)) rfl ⟨rfl, rfl⟩ (by decide +kernel) ⟨Nat.le_of_ble_eq_true rfl, Nat.le_of_ble_eq_true rfl⟩ rfl hl.1 rfl (Nat.le_of_ble_eq_true rfl) ⟨Nat.zero_le _, Nat.zero_le _⟩ dX11_touch_2) hH (fun H locs hH => ?_)
  refine lv_if_ne (tgt := 21) hx hb dX11_touch_5 (by decide) (fun hc_22 => ?_) (fun hc_22 => ?_)
  · have hf := (if_neg hc_22).symm.trans hf
    exact P21 w_19 H locs ls hf hH (lv_sub hl [] rfl)
  · have hf := (if_pos hc_22).symm.trans hf
    refine lv_aload_n hx hb dX11_touch_8 rfl (lv_at hl 0 rfl) ?_
    refine lv_iload_n hx hb dX11_touch_9 rfl (lv_at hl 2 rfl) ?_
    obtain ⟨r_25, w_23, hq_24, hf⟩ := am_b2_some hf
    refine am_calli (r := r_25) (w' := w_23) (am_runV (n := 1) (As := [.int a2]) (rest := []) ⟨hx, hb, hml, hown, hts⟩ hK hE hH (k_X11_noUser hq_24) (am_gV am_q641 am_q643 am_qs12 am_q1 am_q644) (am_o11 (p := 0) (by decide +kernel)) rfl ⟨rfl, rfl⟩ (by decide +kernel) ⟨Nat.le_of_ble_eq_true rfl, Nat.le_of_ble_eq_true rfl⟩ rfl hl.1 rfl (Nat.le_of_ble_eq_true rfl) ⟨Nat.zero_le _, Nat.zero_le _⟩ dX11_touch_10) hH (fun H locs hH => ?_)
    refine lv_if_ne (tgt := 21) hx hb dX11_touch_13 (by decide) (fun hc_26 => ?_) (fun hc_26 => ?_)
    · have hf := (if_neg hc_26).symm.trans hf
      exact P21 w_23 H locs ls hf hH (lv_sub hl [] rfl)
    · have hf := (if_pos hc_26).symm.trans hf
      refine lv_iload_n hx hb dX11_touch_16 rfl (lv_at hl 1 rfl) ?_
      refine lv_iload_n hx hb dX11_touch_17 rfl (lv_at hl 2 rfl) ?_
      refine lv_icmp_ne (tgt := 23) hx hb dX11_touch_18 (by decide) (fun hc_27 => ?_) (fun hc_27 => ?_)
      · have hf := (if_neg hc_27).symm.trans hf
        refine lv_aload_n hx hb dX11_touch_23 rfl (lv_at hl 0 rfl) ?_
        refine am_get hx hb hts hK hown hH (am_o11 (p := 0) (by decide +kernel)) rfl am_inX11 5 (by decide) am_q336 (v := .ref (G.1 + 23)) rfl dX11_touch_24 ?_
        refine am_get hx hb hts hK hown hH (am_o9 (p := 23) (by decide +kernel)) rfl am_inX9 0 (by decide) am_q176 (v := .ref (G.1 + 24)) rfl dX11_touch_27 ?_
        refine lv_iload_n hx hb dX11_touch_30 rfl (lv_at hl 1 rfl) ?_
        obtain ⟨hi_28, hf⟩ := am_chk_some hf
        refine am_iald hx hb hK hH (am_ai_of (N := 10) (by decide +kernel)) hi_28 dX11_touch_31 ?_
        refine lv_if_ne (tgt := 47) hx hb dX11_touch_32 (by decide) (fun hc_29 => ?_) (fun hc_29 => ?_)
        · have hf := (if_neg hc_29).symm.trans hf
          exact P47 w_23 H locs ls hf hH (lv_sub hl [] rfl)
        · have hf := (if_pos hc_29).symm.trans hf
          refine lv_aload_n hx hb dX11_touch_35 rfl (lv_at hl 0 rfl) ?_
          refine am_get hx hb hts hK hown hH (am_o11 (p := 0) (by decide +kernel)) rfl am_inX11 5 (by decide) am_q336 (v := .ref (G.1 + 23)) rfl dX11_touch_36 ?_
          refine am_get hx hb hts hK hown hH (am_o9 (p := 23) (by decide +kernel)) rfl am_inX9 0 (by decide) am_q176 (v := .ref (G.1 + 24)) rfl dX11_touch_39 ?_
          refine lv_iload_n hx hb dX11_touch_42 rfl (lv_at hl 2 rfl) ?_
          obtain ⟨hi_30, hf⟩ := am_chk_some hf
          refine am_iald hx hb hK hH (am_ai_of (N := 10) (by decide +kernel)) hi_30 dX11_touch_43 ?_
          refine lv_if_eq (tgt := 49) hx hb dX11_touch_44 (by decide) (fun hc_31 => ?_) (fun hc_31 => ?_)
          · have hf := (if_pos hc_31).symm.trans hf
            refine lv_aload_n hx hb dX11_touch_49 rfl (lv_at hl 0 rfl) ?_
            refine am_get hx hb hts hK hown hH (am_o11 (p := 0) (by decide +kernel)) rfl am_inX11 5 (by decide) am_q336 (v := .ref (G.1 + 23)) rfl dX11_touch_50 ?_
            refine am_get hx hb hts hK hown hH (am_o9 (p := 23) (by decide +kernel)) rfl am_inX9 1 (by decide) am_q179 (v := .ref (G.1 + 25)) rfl dX11_touch_53 ?_
            refine lv_iload_n hx hb dX11_touch_56 rfl (lv_at hl 1 rfl) ?_
            obtain ⟨hi_32, hf⟩ := am_chk_some hf
            refine am_lald hx hb hK hH (am_al_of (N := 10) (by decide +kernel)) hi_32 dX11_touch_57 ?_
            refine lv_aload_n hx hb dX11_touch_58 rfl (lv_at hl 0 rfl) ?_
            refine am_get hx hb hts hK hown hH (am_o11 (p := 0) (by decide +kernel)) rfl am_inX11 5 (by decide) am_q336 (v := .ref (G.1 + 23)) rfl dX11_touch_59 ?_
            refine am_get hx hb hts hK hown hH (am_o9 (p := 23) (by decide +kernel)) rfl am_inX9 1 (by decide) am_q179 (v := .ref (G.1 + 25)) rfl dX11_touch_62 ?_
            refine lv_iload_n hx hb dX11_touch_65 rfl (lv_at hl 2 rfl) ?_
            obtain ⟨hi_33, hf⟩ := am_chk_some hf
            refine am_lald hx hb hK hH (am_al_of (N := 10) (by decide +kernel)) hi_33 dX11_touch_66 ?_
            refine lv_land hx hb dX11_touch_67 ?_
            obtain ⟨r_36, w_34, hq_35, hf⟩ := am_b2_some hf
            refine am_calli (r := r_36) (w' := w_34) (am_runS (n := 1) (As := [.long ((w_23.2.1 25 a1.toNatClampNeg) &&& (w_23.2.1 25 a2.toNatClampNeg))]) (rest := []) ⟨hx, hb, hml, hown, hts⟩ hK hE hH (k_J13_bitCount_95d88 hq_35) (am_gS am_q988 am_q850 am_q28 am_q851) ⟨rfl, rfl⟩ (by decide +kernel) ⟨Nat.le_of_ble_eq_true rfl, Nat.le_of_ble_eq_true rfl⟩ rfl hl.1 rfl (Nat.le_of_ble_eq_true rfl) ⟨Nat.zero_le _, Nat.zero_le _⟩ dX11_touch_68) hH (fun H locs hH => ?_)
            exact am_reti hx hb hr hlocks hH hf dX11_touch_71
          · have hf := (if_neg hc_31).symm.trans hf
            exact P47 w_23 H locs ls hf hH (lv_sub hl [] rfl)
      · have hf := (if_pos hc_27).symm.trans hf
        exact P21 w_23 H locs ls hf hH (lv_sub hl [] rfl)

def f_X11_turn (a1 : Int32) (a2 : Int32) (w : am_S) : Option (Int32 × am_S) :=
  am_b2 (f_X11_act (4 : Int32) a1 a2 (0 : Int64) w) fun r_6 w_4 => some (r_6, w_4)
set_option maxRecDepth 100000 in
set_option maxHeartbeats 4000000 in
theorem k_X11_turn {G : am_G} {l : Launch} {a1 : Int32} {a2 : Int32}  {w : am_S} {rr : Int32} {ww : am_S} (hf : f_X11_turn a1 a2 w = some (rr, ww)) : am_Mi G l yX11_turn (Cond.code yX11_turn cX11_turn 3 (some .int) :: am_T) { frames := 7, cells := 0, slots := 0, locals := 448 } [.ref (G.1 + 0), .int a1, .int a2] w rr ww := by
  refine Met.ofW (cc := cX11_turn) (maxL := 3) (ret := (some .int)) (by decide) rfl ?_
  intro p e s m args below meth c s₁ B hml hv
  obtain ⟨rfl, hx, hb, hr, hts, hown, hlocks, hK, hE, hH⟩ := am_begin B hv
  have hown : s.vm.findClass RX11 = some m.cls := hown
  show W p l e { frames := 7, cells := 0, slots := 0, locals := 448 } s m _ below meth c s.heap [] 0 0 _ _
  refine am_enter (lv := [(0, .ref (G.1 + 0)), (1, .int a1), (2, .int a2)]) (Nat.le_of_ble_eq_true rfl) rfl (fun ls hl => ?_)
  unfold f_X11_turn at hf
  refine am_start hH (fun H locs hH => ?_)
  refine lv_aload_n hx hb dX11_turn_0 rfl (lv_at hl 0 rfl) ?_
  refine lv_iconst (v := 4) hx hb dX11_turn_1 (by decide) ?_
  refine lv_iload_n hx hb dX11_turn_2 rfl (lv_at hl 1 rfl) ?_
  refine lv_iload_n hx hb dX11_turn_3 rfl (lv_at hl 2 rfl) ?_
  refine lv_lconst (v := 0) hx hb dX11_turn_4 (by decide) ?_
  obtain ⟨r_6, w_4, hq_5, hf⟩ := am_b2_some hf
  refine am_calli (r := r_6) (w' := w_4) (am_runV (n := 4) (As := [.int (4 : Int32), .int a1, .int a2, .long (0 : Int64)]) (rest := []) ⟨hx, hb, hml, hown, hts⟩ hK hE hH (k_X11_act hq_5) (am_gV am_q725 am_q727 am_qs16 am_q1 am_q728) (am_o11 (p := 0) (by decide +kernel)) rfl ⟨rfl, rfl⟩ (by decide +kernel) ⟨Nat.le_of_ble_eq_true rfl, Nat.le_of_ble_eq_true rfl⟩ rfl hl.1 rfl (Nat.le_of_ble_eq_true rfl) ⟨Nat.zero_le _, Nat.zero_le _⟩ dX11_turn_5) hH (fun H locs hH => ?_)
  exact am_reti hx hb hr hlocks hH hf dX11_turn_8
