/-! functions and contracts of methods, by program (wip/whole/gen.py) -/
def f_X9_copyCount_4b (o0 : Nat) (x1 : Int32) (x2 : Int32) (w : am_S) : Option ((Int32 × am_S) ⊕ (Int32 × Int32 × am_S)) :=
  if (10 : Int32) ≤ x2 then (am_x (some (x1, w))) else (am_chk x2 10 (am_b2 (f_J13_bitCount_95d88 (w.2.1 (o0 + 2) x2.toNatClampNeg) w) fun r_13 w_11 => am_v (x1 + r_13) fun (x1_14 : Int32) => am_v (x2 + (1 : Int32)) fun (x2_15 : Int32) => some (.inr (x1_14, x2_15, w_11))))
def f_X9_copyCount_4 (o0 : Nat) (x1 : Int32) (x2 : Int32) (w : am_S) : Option (Int32 × am_S) :=
  am_loop (fun (st : (Int32 × Int32 × am_S)) => f_X9_copyCount_4b o0 st.1 st.2.1 st.2.2) am_fuel (x1, x2, w)
def f_X9_copyCount (o0 : Nat) (w : am_S) : Option (Int32 × am_S) :=
  f_X9_copyCount_4 o0 (0 : Int32) (0 : Int32) w
set_option maxRecDepth 100000 in
set_option maxHeartbeats 4000000 in
theorem k_X9_copyCount {G : am_G} {l : Launch} {o0 : Nat} (ho0 : am_f9 o0) {w : am_S} {rr : Int32} {ww : am_S} (hf : f_X9_copyCount o0 w = some (rr, ww)) : am_Mi G l yX9_copyCount (Cond.code yX9_copyCount cX9_copyCount 3 (some .int) :: am_T) { frames := 1, cells := 0, slots := 0, locals := 64 } [.ref (G.1 + o0)] w rr ww := by
  refine Met.ofW (cc := cX9_copyCount) (maxL := 3) (ret := (some .int)) (by decide) rfl ?_
  intro p e s m args below meth c s₁ B hml hv
  obtain ⟨rfl, hx, hb, hr, hts, hown, hlocks, hK, hE, hH⟩ := am_begin B hv
  have hown : s.vm.findClass RX9 = some m.cls := hown
  show W p l e { frames := 1, cells := 0, slots := 0, locals := 64 } s m _ below meth c s.heap [] 0 0 _ _
  have P4 : ∀ (n1 : Nat) (x1 : Int32) (x2 : Int32) (w : am_S) (H : Heap) (locs : List Loc) (ls : Array Slot), am_loop (fun (st : (Int32 × Int32 × am_S)) => f_X9_copyCount_4b o0 st.1 st.2.1 st.2.2) n1 (x1, x2, w) = some (rr, ww) → am_H G w s H locs → lv_has ls 3 [(0, .ref (G.1 + o0)), (1, .int x1), (2, .int x2)] → W p l e { frames := 1, cells := 0, slots := 0, locals := 64 } s m [.ref (G.1 + o0)].toArray below meth c H locs 0 0 (MQ below (va_Qi (fun (x : Int32) (u : am_S) => x = rr ∧ u = ww) (am_U G) (am_A G)) [.ref (G.1 + o0)].toArray s 0 0 (am_A G)) (F0 m 4 ls []) := by
    intro n1
    induction n1 with
    | zero =>
      intro x1 x2 w H locs ls hf hH hl
      exact (am_loop_zero hf).elim
    | succ n1 ih1 =>
      intro x1 x2 w H locs ls hf hH hl
      obtain ⟨z1, hf, hk1⟩ := am_loop_succ hf
      have hf : f_X9_copyCount_4b o0 x1 x2 w = some z1 := hf
      unfold f_X9_copyCount_4b at hf
      refine lv_iload_n hx hb dX9_copyCount_4 rfl (lv_at hl 2 rfl) ?_
      refine lv_aload_n hx hb dX9_copyCount_5 rfl (lv_at hl 0 rfl) ?_
      refine am_get hx hb hts hK hown hH (am_o9 ho0.1) rfl am_inX9 1 (by decide) am_q177 (v := .ref (G.1 + (o0 + 2))) rfl dX9_copyCount_6 ?_
      refine am_lenl (v := (10 : Int32)) hx hb hK hH (am_al_of (N := 10) ho0.2.2.1) rfl dX9_copyCount_9 ?_
      refine lv_icmp_ge (tgt := 31) hx hb dX9_copyCount_10 (by decide) (fun hc_8 => ?_) (fun hc_8 => ?_)
      · have hf := (if_pos hc_8).symm.trans hf
        obtain ⟨y_9, hf, hzy_9⟩ := am_x_some hf
        rw [hzy_9] at hk1
        have hf := hf.trans (congrArg some (show y_9 = (rr, ww) from hk1))
        refine lv_iload_n hx hb dX9_copyCount_31 rfl (lv_at hl 1 rfl) ?_
        exact am_reti hx hb hr hlocks hH hf dX9_copyCount_32
      · have hf := (if_neg hc_8).symm.trans hf
        refine lv_iload_n hx hb dX9_copyCount_13 rfl (lv_at hl 1 rfl) ?_
        refine lv_aload_n hx hb dX9_copyCount_14 rfl (lv_at hl 0 rfl) ?_
        refine am_get hx hb hts hK hown hH (am_o9 ho0.1) rfl am_inX9 1 (by decide) am_q177 (v := .ref (G.1 + (o0 + 2))) rfl dX9_copyCount_15 ?_
        refine lv_iload_n hx hb dX9_copyCount_18 rfl (lv_at hl 2 rfl) ?_
        obtain ⟨hi_10, hf⟩ := am_chk_some hf
        refine am_lald hx hb hK hH (am_al_of (N := 10) ho0.2.2.1) hi_10 dX9_copyCount_19 ?_
        obtain ⟨r_13, w_11, hq_12, hf⟩ := am_b2_some hf
        refine am_calli (r := r_13) (w' := w_11) (am_runS (n := 1) (As := [.long (w.2.1 (o0 + 2) x2.toNatClampNeg)]) (rest := [.int x1]) ⟨hx, hb, hml, hown, hts⟩ hK hE hH (k_J13_bitCount_95d88 hq_12) (am_gS am_q1214 am_q850 am_q28 am_q851) ⟨rfl, rfl⟩ (by decide +kernel) ⟨Nat.le_of_ble_eq_true rfl, Nat.le_of_ble_eq_true rfl⟩ rfl hl.1 rfl (Nat.le_of_ble_eq_true rfl) ⟨Nat.zero_le _, Nat.zero_le _⟩ dX9_copyCount_20) hH (fun H locs hH => ?_)
        refine lv_iadd hx hb dX9_copyCount_23 ?_
        obtain ⟨x1_14, hx1_14, hf⟩ := am_v_some hf
        refine am_topi hx1_14 ?_
        refine lv_istore_n (lv' := [(1, .int x1_14), (0, .ref (G.1 + o0)), (2, .int x2)]) hx hb dX9_copyCount_24 rfl hl (by decide) rfl (fun ls hl => ?_)
        obtain ⟨x2_15, hx2_15, hf⟩ := am_v_some hf
        refine lv_iinc (v := x2_15) (lv' := [(2, .int x2_15), (1, .int x1_14), (0, .ref (G.1 + o0))]) hx hb dX9_copyCount_25 hl (k := 2) rfl (by rw [hx2_15]; rfl) (by decide) rfl (fun ls hl => ?_)
        refine lv_goto (tgt := 4) hx hb dX9_copyCount_28 (by decide) ?_
        obtain rfl := Option.some.inj hf
        exact ih1 x1_14 x2_15 w_11 H locs ls hk1 hH (lv_sub hl [2, 1, 0] rfl)
  refine am_enter (lv := [(0, .ref (G.1 + o0))]) (Nat.le_of_ble_eq_true rfl) rfl (fun ls hl => ?_)
  unfold f_X9_copyCount at hf
  refine am_start hH (fun H locs hH => ?_)
  refine lv_iconst (v := 0) hx hb dX9_copyCount_0 (by decide) ?_
  refine lv_istore_n (lv' := [(1, .int (0 : Int32)), (0, .ref (G.1 + o0))]) hx hb dX9_copyCount_1 rfl hl (by decide) rfl (fun ls hl => ?_)
  refine lv_iconst (v := 0) hx hb dX9_copyCount_2 (by decide) ?_
  refine lv_istore_n (lv' := [(2, .int (0 : Int32)), (1, .int (0 : Int32)), (0, .ref (G.1 + o0))]) hx hb dX9_copyCount_3 rfl hl (by decide) rfl (fun ls hl => ?_)
  exact P4 am_fuel (0 : Int32) (0 : Int32) w H locs ls hf hH (lv_sub hl [2, 1, 0] rfl)

def f_X6_partAround_59 (a1 : Int32) (x3 : Int32) (x4 : Int32) (s0 : Int32) (s1 : Int32) (w : am_S) : Option (((Int32 × am_S) ⊕ (Int32 × Int32 × am_S)) ⊕ (Int32 × Int32 × am_S)) :=
  am_v (s1 ||| s0) fun (x2_12 : Int32) => am_v (x4 + (1 : Int32)) fun (x4_13 : Int32) => some (.inr (x2_12, x4_13, w))
def f_X6_partAround_13b (a1 : Int32) (x3 : Int32) (x2 : Int32) (x4 : Int32) (w : am_S) : Option (((Int32 × am_S) ⊕ (Int32 × Int32 × am_S)) ⊕ (Int32 × Int32 × am_S)) :=
  am_b2 (f_X1_allSlots 11 w) fun r_16 w_14 => if r_16 ≤ x4 then (am_x (am_v (x3 + (1 : Int32)) fun (x3_19 : Int32) => some (.inr (x2, x3_19, w_14)))) else (am_chk x4 48 (am_v ((w_14.1 254 x4.toNatClampNeg) &&& (w_14.1 250 6)) fun (x5_21 : Int32) => if (x5_21 &&& x2) = 0 then (f_X6_partAround_59 a1 x3 x4 (0 : Int32) x2 w_14) else (f_X6_partAround_59 a1 x3 x4 x5_21 x2 w_14)))
def f_X6_partAround_13 (a1 : Int32) (x2 : Int32) (x3 : Int32) (x4 : Int32) (w : am_S) : Option ((Int32 × am_S) ⊕ (Int32 × Int32 × am_S)) :=
  am_loop (fun (st : (Int32 × Int32 × am_S)) => f_X6_partAround_13b a1 x3 st.1 st.2.1 st.2.2) am_fuel (x2, x4, w)
def f_X6_partAround_4b (a1 : Int32) (x2 : Int32) (x3 : Int32) (w : am_S) : Option ((Int32 × am_S) ⊕ (Int32 × Int32 × am_S)) :=
  if (10 : Int32) ≤ x3 then (am_x (some (x2, w))) else (f_X6_partAround_13 a1 x2 x3 (0 : Int32) w)
def f_X6_partAround_4 (a1 : Int32) (x2 : Int32) (x3 : Int32) (w : am_S) : Option (Int32 × am_S) :=
  am_loop (fun (st : (Int32 × Int32 × am_S)) => f_X6_partAround_4b a1 st.1 st.2.1 st.2.2) am_fuel (x2, x3, w)
def f_X6_partAround (a1 : Int32) (w : am_S) : Option (Int32 × am_S) :=
  f_X6_partAround_4 a1 a1 (0 : Int32) w
set_option maxRecDepth 100000 in
set_option maxHeartbeats 4000000 in
theorem k_X6_partAround {G : am_G} {l : Launch} {a1 : Int32}  {w : am_S} {rr : Int32} {ww : am_S} (hf : f_X6_partAround a1 w = some (rr, ww)) : am_Mi G l yX6_partAround (Cond.code yX6_partAround cX6_partAround 6 (some .int) :: am_T) { frames := 1, cells := 0, slots := 0, locals := 64 } [.ref (G.1 + 257), .int a1] w rr ww := by
  refine Met.ofW (cc := cX6_partAround) (maxL := 6) (ret := (some .int)) (by decide) rfl ?_
  intro p e s m args below meth c s₁ B hml hv
  obtain ⟨rfl, hx, hb, hr, hts, hown, hlocks, hK, hE, hH⟩ := am_begin B hv
  have hown : s.vm.findClass RX6 = some m.cls := hown
  show W p l e { frames := 1, cells := 0, slots := 0, locals := 64 } s m _ below meth c s.heap [] 0 0 _ _
  have P4 : ∀ (n1 : Nat) (x2 : Int32) (x3 : Int32) (w : am_S) (H : Heap) (locs : List Loc) (ls : Array Slot), am_loop (fun (st : (Int32 × Int32 × am_S)) => f_X6_partAround_4b a1 st.1 st.2.1 st.2.2) n1 (x2, x3, w) = some (rr, ww) → am_H G w s H locs → lv_has ls 6 [(0, .ref (G.1 + 257)), (2, .int x2), (3, .int x3)] → W p l e { frames := 1, cells := 0, slots := 0, locals := 64 } s m [.ref (G.1 + 257), .int a1].toArray below meth c H locs 0 0 (MQ below (va_Qi (fun (x : Int32) (u : am_S) => x = rr ∧ u = ww) (am_U G) (am_A G)) [.ref (G.1 + 257), .int a1].toArray s 0 0 (am_A G)) (F0 m 4 ls []) := by
    intro n1
    induction n1 with
    | zero =>
      intro x2 x3 w H locs ls hf hH hl
      exact (am_loop_zero hf).elim
    | succ n1 ih1 =>
      intro x2 x3 w H locs ls hf hH hl
      obtain ⟨z1, hf, hk1⟩ := am_loop_succ hf
      have hf : f_X6_partAround_4b a1 x2 x3 w = some z1 := hf
      have P13 : ∀ (x3 : Int32) (n2 : Nat) (x2 : Int32) (x4 : Int32) (w : am_S) (z1 : ((Int32 × am_S) ⊕ (Int32 × Int32 × am_S))) (H : Heap) (locs : List Loc) (ls : Array Slot), am_loop (fun (st : (Int32 × Int32 × am_S)) => f_X6_partAround_13b a1 x3 st.1 st.2.1 st.2.2) n2 (x2, x4, w) = some z1 → am_lk (fun (st : (Int32 × Int32 × am_S)) => f_X6_partAround_4b a1 st.1 st.2.1 st.2.2) n1 (rr, ww) z1 → am_H G w s H locs → lv_has ls 6 [(0, .ref (G.1 + 257)), (2, .int x2), (3, .int x3), (4, .int x4)] → W p l e { frames := 1, cells := 0, slots := 0, locals := 64 } s m [.ref (G.1 + 257), .int a1].toArray below meth c H locs 0 0 (MQ below (va_Qi (fun (x : Int32) (u : am_S) => x = rr ∧ u = ww) (am_U G) (am_A G)) [.ref (G.1 + 257), .int a1].toArray s 0 0 (am_A G)) (F0 m 13 ls []) := by
        intro x3 n2
        induction n2 with
        | zero =>
          intro x2 x4 w z1 H locs ls hf hk1 hH hl
          exact (am_loop_zero hf).elim
        | succ n2 ih2 =>
          intro x2 x4 w z1 H locs ls hf hk1 hH hl
          obtain ⟨z2, hf, hk2⟩ := am_loop_succ hf
          have hf : f_X6_partAround_13b a1 x3 x2 x4 w = some z2 := hf
          have P59 : ∀ (x4 : Int32) (s0 : Int32) (s1 : Int32) (w : am_S) (z2 : (((Int32 × am_S) ⊕ (Int32 × Int32 × am_S)) ⊕ (Int32 × Int32 × am_S))) (H : Heap) (locs : List Loc) (ls : Array Slot), f_X6_partAround_59 a1 x3 x4 s0 s1 w = some z2 → am_lk (fun (st : (Int32 × Int32 × am_S)) => f_X6_partAround_13b a1 x3 st.1 st.2.1 st.2.2) n2 z1 z2 → am_H G w s H locs → lv_has ls 6 [(0, .ref (G.1 + 257)), (3, .int x3), (4, .int x4)] → W p l e { frames := 1, cells := 0, slots := 0, locals := 64 } s m [.ref (G.1 + 257), .int a1].toArray below meth c H locs 0 0 (MQ below (va_Qi (fun (x : Int32) (u : am_S) => x = rr ∧ u = ww) (am_U G) (am_A G)) [.ref (G.1 + 257), .int a1].toArray s 0 0 (am_A G)) (F0 m 59 ls [.int s0, .int s1]) := by
            intro x4 s0 s1 w z2 H locs ls hf hk2 hH hl
            unfold f_X6_partAround_59 at hf
            refine lv_ior hx hb dX6_partAround_59 ?_
            obtain ⟨x2_12, hx2_12, hf⟩ := am_v_some hf
            refine am_topi hx2_12 ?_
            refine lv_istore_n (lv' := [(2, .int x2_12), (0, .ref (G.1 + 257)), (3, .int x3), (4, .int x4)]) hx hb dX6_partAround_60 rfl hl (by decide) rfl (fun ls hl => ?_)
            obtain ⟨x4_13, hx4_13, hf⟩ := am_v_some hf
            refine lv_iinc (v := x4_13) (lv' := [(4, .int x4_13), (2, .int x2_12), (0, .ref (G.1 + 257)), (3, .int x3)]) hx hb dX6_partAround_61 hl (k := 3) rfl (by rw [hx4_13]; rfl) (by decide) rfl (fun ls hl => ?_)
            refine lv_goto (tgt := 13) hx hb dX6_partAround_64 (by decide) ?_
            obtain rfl := Option.some.inj hf
            exact ih2 x2_12 x4_13 w z1 H locs ls hk2 hk1 hH (lv_sub hl [2, 1, 3, 0] rfl)
          unfold f_X6_partAround_13b at hf
          refine lv_iload hx hb dX6_partAround_13 (lv_at hl 3 rfl) ?_
          refine lv_aload_n hx hb dX6_partAround_15 rfl (lv_at hl 0 rfl) ?_
          refine am_get hx hb hts hK hown hH (am_o6 (p := 257) (by decide +kernel)) rfl am_inX6 0 (by decide) am_q314 (v := .ref (G.1 + 11)) rfl dX6_partAround_16 ?_
          obtain ⟨r_16, w_14, hq_15, hf⟩ := am_b2_some hf
          refine am_calli (r := r_16) (w' := w_14) (am_runV (n := 0) (As := []) (rest := [.int x4]) ⟨hx, hb, hml, hown, hts⟩ hK hE hH (k_X1_allSlots (by decide +kernel) hq_15) (am_gV am_q1196 am_q630 am_q631 am_q3 am_q632) (am_o1 (p := 11) (by decide +kernel)) rfl ⟨rfl, rfl⟩ (by decide +kernel) ⟨Nat.le_of_ble_eq_true rfl, Nat.le_of_ble_eq_true rfl⟩ rfl hl.1 rfl (Nat.le_of_ble_eq_true rfl) ⟨Nat.zero_le _, Nat.zero_le _⟩ dX6_partAround_19) hH (fun H locs hH => ?_)
          refine lv_icmp_ge (tgt := 67) hx hb dX6_partAround_22 (by decide) (fun hc_17 => ?_) (fun hc_17 => ?_)
          · have hf := (if_pos hc_17).symm.trans hf
            obtain ⟨y_18, hf, hzy_18⟩ := am_x_some hf
            rw [hzy_18] at hk2
            have hf := hf.trans (congrArg some (show y_18 = z1 from hk2))
            obtain ⟨x3_19, hx3_19, hf⟩ := am_v_some hf
            refine lv_iinc (v := x3_19) (lv' := [(3, .int x3_19), (0, .ref (G.1 + 257)), (2, .int x2), (4, .int x4)]) hx hb dX6_partAround_67 hl (k := 2) rfl (by rw [hx3_19]; rfl) (by decide) rfl (fun ls hl => ?_)
            refine lv_goto (tgt := 4) hx hb dX6_partAround_70 (by decide) ?_
            obtain rfl := Option.some.inj hf
            exact ih1 x2 x3_19 w_14 H locs ls hk1 hH (lv_sub hl [1, 2, 0] rfl)
          · have hf := (if_neg hc_17).symm.trans hf
            refine lv_aload_n hx hb dX6_partAround_25 rfl (lv_at hl 0 rfl) ?_
            refine am_get hx hb hts hK hown hH (am_o6 (p := 257) (by decide +kernel)) rfl am_inX6 1 (by decide) am_q315 (v := .ref (G.1 + 250)) rfl dX6_partAround_26 ?_
            refine am_get hx hb hts hK hown hH (am_o7 (p := 250) (by decide +kernel)) rfl am_inX7 4 (by decide) am_q266 (v := .ref (G.1 + 254)) rfl dX6_partAround_29 ?_
            refine lv_iload hx hb dX6_partAround_32 (lv_at hl 3 rfl) ?_
            obtain ⟨hi_20, hf⟩ := am_chk_some hf
            refine am_iald hx hb hK hH (am_ai_of (N := 48) (by decide +kernel)) hi_20 dX6_partAround_34 ?_
            refine lv_aload_n hx hb dX6_partAround_35 rfl (lv_at hl 0 rfl) ?_
            refine am_get hx hb hts hK hown hH (am_o6 (p := 257) (by decide +kernel)) rfl am_inX6 1 (by decide) am_q315 (v := .ref (G.1 + 250)) rfl dX6_partAround_36 ?_
            refine am_get hx hb hts hK hown hH (am_o7 (p := 250) (by decide +kernel)) rfl am_inX7 6 (by decide) am_q270 (v := .int (w_14.1 250 6)) rfl dX6_partAround_39 ?_
            refine lv_iand hx hb dX6_partAround_42 ?_
            obtain ⟨x5_21, hx5_21, hf⟩ := am_v_some hf
            refine am_topi hx5_21 ?_
            refine lv_istore (lv' := [(5, .int x5_21), (0, .ref (G.1 + 257)), (2, .int x2), (3, .int x3), (4, .int x4)]) hx hb dX6_partAround_43 hl (by decide) rfl (fun ls hl => ?_)
            refine lv_iload_n hx hb dX6_partAround_45 rfl (lv_at hl 2 rfl) ?_
            refine lv_iload hx hb dX6_partAround_46 (lv_at hl 0 rfl) ?_
            refine lv_iload_n hx hb dX6_partAround_48 rfl (lv_at hl 2 rfl) ?_
            refine lv_iand hx hb dX6_partAround_49 ?_
            refine lv_if_eq (tgt := 58) hx hb dX6_partAround_50 (by decide) (fun hc_22 => ?_) (fun hc_22 => ?_)
            · have hf := (if_pos hc_22).symm.trans hf
              refine lv_iconst (v := 0) hx hb dX6_partAround_58 (by decide) ?_
              exact P59 x4 (0 : Int32) x2 w_14 z2 H locs ls hf hk2 hH (lv_sub hl [1, 3, 4] rfl)
            · have hf := (if_neg hc_22).symm.trans hf
              refine lv_iload hx hb dX6_partAround_53 (lv_at hl 0 rfl) ?_
              refine lv_goto (tgt := 59) hx hb dX6_partAround_55 (by decide) ?_
              exact P59 x4 x5_21 x2 w_14 z2 H locs ls hf hk2 hH (lv_sub hl [1, 3, 4] rfl)
      unfold f_X6_partAround_4b at hf
      refine lv_iload_n hx hb dX6_partAround_4 rfl (lv_at hl 2 rfl) ?_
      refine lv_bipush (v := 10) hx hb dX6_partAround_5 (by decide) ?_
      refine lv_icmp_ge (tgt := 73) hx hb dX6_partAround_7 (by decide) (fun hc_23 => ?_) (fun hc_23 => ?_)
      · have hf := (if_pos hc_23).symm.trans hf
        obtain ⟨y_24, hf, hzy_24⟩ := am_x_some hf
        rw [hzy_24] at hk1
        have hf := hf.trans (congrArg some (show y_24 = (rr, ww) from hk1))
        refine lv_iload_n hx hb dX6_partAround_73 rfl (lv_at hl 1 rfl) ?_
        exact am_reti hx hb hr hlocks hH hf dX6_partAround_74
      · have hf := (if_neg hc_23).symm.trans hf
        refine lv_iconst (v := 0) hx hb dX6_partAround_10 (by decide) ?_
        refine lv_istore (lv' := [(4, .int (0 : Int32)), (0, .ref (G.1 + 257)), (2, .int x2), (3, .int x3)]) hx hb dX6_partAround_11 hl (by decide) rfl (fun ls hl => ?_)
        exact P13 x3 am_fuel x2 (0 : Int32) w z1 H locs ls hf hk1 hH (lv_sub hl [1, 2, 3, 0] rfl)
  refine am_enter (lv := [(0, .ref (G.1 + 257)), (1, .int a1)]) (Nat.le_of_ble_eq_true rfl) rfl (fun ls hl => ?_)
  unfold f_X6_partAround at hf
  refine am_start hH (fun H locs hH => ?_)
  refine lv_iload_n hx hb dX6_partAround_0 rfl (lv_at hl 1 rfl) ?_
  refine lv_istore_n (lv' := [(2, .int a1), (0, .ref (G.1 + 257)), (1, .int a1)]) hx hb dX6_partAround_1 rfl hl (by decide) rfl (fun ls hl => ?_)
  refine lv_iconst (v := 0) hx hb dX6_partAround_2 (by decide) ?_
  refine lv_istore_n (lv' := [(3, .int (0 : Int32)), (2, .int a1), (0, .ref (G.1 + 257)), (1, .int a1)]) hx hb dX6_partAround_3 rfl hl (by decide) rfl (fun ls hl => ?_)
  exact P4 am_fuel a1 (0 : Int32) w H locs ls hf hH (lv_sub hl [2, 1, 0] rfl)

def f_X6_partsOfUnknown_44  (x2 : Int32) (w : am_S) : Option (Int32 × am_S) :=
  some (x2, w)
def f_X6_partsOfUnknown_12b  (x1 : Int32) (x2 : Int32) (x3 : Int32) (w : am_S) : Option ((Int32 × am_S) ⊕ (Int32 × Int32 × Int32 × am_S)) :=
  if (10 : Int32) ≤ x3 then (am_x (f_X6_partsOfUnknown_44 x2 w)) else (if x1 = 0 then (am_x (f_X6_partsOfUnknown_44 x2 w)) else (am_b2 (f_X6_partAround (x1 &&& (-x1)) w) fun r_16 w_14 => am_v (x1 &&& (r_16 ^^^ (-1 : Int32))) fun (x1_17 : Int32) => am_v (x2 + (1 : Int32)) fun (x2_18 : Int32) => am_v (x3 + (1 : Int32)) fun (x3_19 : Int32) => some (.inr (x1_17, x2_18, x3_19, w_14))))
def f_X6_partsOfUnknown_12  (x1 : Int32) (x2 : Int32) (x3 : Int32) (w : am_S) : Option (Int32 × am_S) :=
  am_loop (fun (st : (Int32 × Int32 × Int32 × am_S)) => f_X6_partsOfUnknown_12b st.1 st.2.1 st.2.2.1 st.2.2.2) am_fuel (x1, x2, x3, w)
def f_X6_partsOfUnknown  (w : am_S) : Option (Int32 × am_S) :=
  am_v (w.1 250 6) fun (x1_20 : Int32) => f_X6_partsOfUnknown_12 x1_20 (0 : Int32) (0 : Int32) w
set_option maxRecDepth 100000 in
set_option maxHeartbeats 4000000 in
theorem k_X6_partsOfUnknown {G : am_G} {l : Launch}   {w : am_S} {rr : Int32} {ww : am_S} (hf : f_X6_partsOfUnknown  w = some (rr, ww)) : am_Mi G l yX6_partsOfUnknown (Cond.code yX6_partsOfUnknown cX6_partsOfUnknown 4 (some .int) :: am_T) { frames := 2, cells := 0, slots := 0, locals := 128 } [.ref (G.1 + 257)] w rr ww := by
  refine Met.ofW (cc := cX6_partsOfUnknown) (maxL := 4) (ret := (some .int)) (by decide) rfl ?_
  intro p e s m args below meth c s₁ B hml hv
  obtain ⟨rfl, hx, hb, hr, hts, hown, hlocks, hK, hE, hH⟩ := am_begin B hv
  have hown : s.vm.findClass RX6 = some m.cls := hown
  show W p l e { frames := 2, cells := 0, slots := 0, locals := 128 } s m _ below meth c s.heap [] 0 0 _ _
  have P44 : ∀ (x2 : Int32) (w : am_S) (H : Heap) (locs : List Loc) (ls : Array Slot), f_X6_partsOfUnknown_44 x2 w = some (rr, ww) → am_H G w s H locs → lv_has ls 4 [(2, .int x2)] → W p l e { frames := 2, cells := 0, slots := 0, locals := 128 } s m [.ref (G.1 + 257)].toArray below meth c H locs 0 0 (MQ below (va_Qi (fun (x : Int32) (u : am_S) => x = rr ∧ u = ww) (am_U G) (am_A G)) [.ref (G.1 + 257)].toArray s 0 0 (am_A G)) (F0 m 44 ls []) := by
    intro x2 w H locs ls hf hH hl
    unfold f_X6_partsOfUnknown_44 at hf
    refine lv_iload_n hx hb dX6_partsOfUnknown_44 rfl (lv_at hl 0 rfl) ?_
    exact am_reti hx hb hr hlocks hH hf dX6_partsOfUnknown_45
  have P12 : ∀ (n1 : Nat) (x1 : Int32) (x2 : Int32) (x3 : Int32) (w : am_S) (H : Heap) (locs : List Loc) (ls : Array Slot), am_loop (fun (st : (Int32 × Int32 × Int32 × am_S)) => f_X6_partsOfUnknown_12b st.1 st.2.1 st.2.2.1 st.2.2.2) n1 (x1, x2, x3, w) = some (rr, ww) → am_H G w s H locs → lv_has ls 4 [(0, .ref (G.1 + 257)), (1, .int x1), (2, .int x2), (3, .int x3)] → W p l e { frames := 2, cells := 0, slots := 0, locals := 128 } s m [.ref (G.1 + 257)].toArray below meth c H locs 0 0 (MQ below (va_Qi (fun (x : Int32) (u : am_S) => x = rr ∧ u = ww) (am_U G) (am_A G)) [.ref (G.1 + 257)].toArray s 0 0 (am_A G)) (F0 m 12 ls []) := by
    intro n1
    induction n1 with
    | zero =>
      intro x1 x2 x3 w H locs ls hf hH hl
      exact (am_loop_zero hf).elim
    | succ n1 ih1 =>
      intro x1 x2 x3 w H locs ls hf hH hl
      obtain ⟨z1, hf, hk1⟩ := am_loop_succ hf
      have hf : f_X6_partsOfUnknown_12b x1 x2 x3 w = some z1 := hf
      unfold f_X6_partsOfUnknown_12b at hf
      refine lv_iload_n hx hb dX6_partsOfUnknown_12 rfl (lv_at hl 3 rfl) ?_
      refine lv_bipush (v := 10) hx hb dX6_partsOfUnknown_13 (by decide) ?_
      refine lv_icmp_ge (tgt := 44) hx hb dX6_partsOfUnknown_15 (by decide) (fun hc_10 => ?_) (fun hc_10 => ?_)
      · have hf := (if_pos hc_10).symm.trans hf
        obtain ⟨y_11, hf, hzy_11⟩ := am_x_some hf
        rw [hzy_11] at hk1
        have hf := hf.trans (congrArg some (show y_11 = (rr, ww) from hk1))
        exact P44 x2 w H locs ls hf hH (lv_sub hl [2] rfl)
      · have hf := (if_neg hc_10).symm.trans hf
        refine lv_iload_n hx hb dX6_partsOfUnknown_18 rfl (lv_at hl 1 rfl) ?_
        refine lv_if_eq (tgt := 44) hx hb dX6_partsOfUnknown_19 (by decide) (fun hc_12 => ?_) (fun hc_12 => ?_)
        · have hf := (if_pos hc_12).symm.trans hf
          obtain ⟨y_13, hf, hzy_13⟩ := am_x_some hf
          rw [hzy_13] at hk1
          have hf := hf.trans (congrArg some (show y_13 = (rr, ww) from hk1))
          exact P44 x2 w H locs ls hf hH (lv_sub hl [2] rfl)
        · have hf := (if_neg hc_12).symm.trans hf
          refine lv_iload_n hx hb dX6_partsOfUnknown_22 rfl (lv_at hl 1 rfl) ?_
          refine lv_aload_n hx hb dX6_partsOfUnknown_23 rfl (lv_at hl 0 rfl) ?_
          refine lv_iload_n hx hb dX6_partsOfUnknown_24 rfl (lv_at hl 1 rfl) ?_
          refine lv_iload_n hx hb dX6_partsOfUnknown_25 rfl (lv_at hl 1 rfl) ?_
          refine lv_ineg hx hb dX6_partsOfUnknown_26 ?_
          refine lv_iand hx hb dX6_partsOfUnknown_27 ?_
          obtain ⟨r_16, w_14, hq_15, hf⟩ := am_b2_some hf
          refine am_calli (r := r_16) (w' := w_14) (am_runV (n := 1) (As := [.int (x1 &&& (-x1))]) (rest := [.int x1]) ⟨hx, hb, hml, hown, hts⟩ hK hE hH (k_X6_partAround hq_15) (am_gV am_q1219 am_q1221 am_qs44 am_q11 am_q1222) (am_o6 (p := 257) (by decide +kernel)) rfl ⟨rfl, rfl⟩ (by decide +kernel) ⟨Nat.le_of_ble_eq_true rfl, Nat.le_of_ble_eq_true rfl⟩ rfl hl.1 rfl (Nat.le_of_ble_eq_true rfl) ⟨Nat.zero_le _, Nat.zero_le _⟩ dX6_partsOfUnknown_28) hH (fun H locs hH => ?_)
          refine lv_iconst (v := -1) hx hb dX6_partsOfUnknown_31 (by decide) ?_
          refine lv_ixor hx hb dX6_partsOfUnknown_32 ?_
          refine lv_iand hx hb dX6_partsOfUnknown_33 ?_
          obtain ⟨x1_17, hx1_17, hf⟩ := am_v_some hf
          refine am_topi hx1_17 ?_
          refine lv_istore_n (lv' := [(1, .int x1_17), (0, .ref (G.1 + 257)), (2, .int x2), (3, .int x3)]) hx hb dX6_partsOfUnknown_34 rfl hl (by decide) rfl (fun ls hl => ?_)
          obtain ⟨x2_18, hx2_18, hf⟩ := am_v_some hf
          refine lv_iinc (v := x2_18) (lv' := [(2, .int x2_18), (1, .int x1_17), (0, .ref (G.1 + 257)), (3, .int x3)]) hx hb dX6_partsOfUnknown_35 hl (k := 2) rfl (by rw [hx2_18]; rfl) (by decide) rfl (fun ls hl => ?_)
          obtain ⟨x3_19, hx3_19, hf⟩ := am_v_some hf
          refine lv_iinc (v := x3_19) (lv' := [(3, .int x3_19), (2, .int x2_18), (1, .int x1_17), (0, .ref (G.1 + 257))]) hx hb dX6_partsOfUnknown_38 hl (k := 3) rfl (by rw [hx3_19]; rfl) (by decide) rfl (fun ls hl => ?_)
          refine lv_goto (tgt := 12) hx hb dX6_partsOfUnknown_41 (by decide) ?_
          obtain rfl := Option.some.inj hf
          exact ih1 x1_17 x2_18 x3_19 w_14 H locs ls hk1 hH (lv_sub hl [3, 2, 1, 0] rfl)
  refine am_enter (lv := [(0, .ref (G.1 + 257))]) (Nat.le_of_ble_eq_true rfl) rfl (fun ls hl => ?_)
  unfold f_X6_partsOfUnknown at hf
  refine am_start hH (fun H locs hH => ?_)
  refine lv_aload_n hx hb dX6_partsOfUnknown_0 rfl (lv_at hl 0 rfl) ?_
  refine am_get hx hb hts hK hown hH (am_o6 (p := 257) (by decide +kernel)) rfl am_inX6 1 (by decide) am_q315 (v := .ref (G.1 + 250)) rfl dX6_partsOfUnknown_1 ?_
  refine am_get hx hb hts hK hown hH (am_o7 (p := 250) (by decide +kernel)) rfl am_inX7 6 (by decide) am_q270 (v := .int (w.1 250 6)) rfl dX6_partsOfUnknown_4 ?_
  obtain ⟨x1_20, hx1_20, hf⟩ := am_v_some hf
  refine am_topi hx1_20 ?_
  refine lv_istore_n (lv' := [(1, .int x1_20), (0, .ref (G.1 + 257))]) hx hb dX6_partsOfUnknown_7 rfl hl (by decide) rfl (fun ls hl => ?_)
  refine lv_iconst (v := 0) hx hb dX6_partsOfUnknown_8 (by decide) ?_
  refine lv_istore_n (lv' := [(2, .int (0 : Int32)), (1, .int x1_20), (0, .ref (G.1 + 257))]) hx hb dX6_partsOfUnknown_9 rfl hl (by decide) rfl (fun ls hl => ?_)
  refine lv_iconst (v := 0) hx hb dX6_partsOfUnknown_10 (by decide) ?_
  refine lv_istore_n (lv' := [(3, .int (0 : Int32)), (2, .int (0 : Int32)), (1, .int x1_20), (0, .ref (G.1 + 257))]) hx hb dX6_partsOfUnknown_11 rfl hl (by decide) rfl (fun ls hl => ?_)
  exact P12 am_fuel x1_20 (0 : Int32) (0 : Int32) w H locs ls hf hH (lv_sub hl [3, 2, 1, 0] rfl)

def f_X11_most (a1 : Int32) (w : am_S) : Option (Int32 × am_S) :=
  am_b2 (f_X11_noField w) fun r_45 w_43 => if r_45 = 0 then (am_b1 (f_X7_lookAt 23 w_43) fun w_47 => (if a1 = (0 : Int32) then (am_b2 (f_X1_everyone 11 w_47) fun r_60 w_58 => some (r_60 &&& ((w_58.1 250 6) ^^^ (-1 : Int32)), w_58)) else (if a1 = (1 : Int32) then (am_b2 (f_X6_fullestSlot w_47) fun r_63 w_61 => some (r_63, w_61)) else (if a1 = (2 : Int32) then (am_b2 (f_X6_busiestUser 23 w_47) fun r_66 w_64 => some (r_66, w_64)) else (if a1 = (3 : Int32) then (am_b2 (f_X6_strongestUser w_47) fun r_69 w_67 => some (r_69, w_67)) else (if a1 = (4 : Int32) then (am_b2 (f_X6_slotsWith (0 : Int32) w_47) fun r_72 w_70 => some (r_72, w_70)) else (if a1 = (5 : Int32) then (am_b2 (f_X6_slotsWith (1 : Int32) w_47) fun r_75 w_73 => some (r_75, w_73)) else (if a1 = (6 : Int32) then (am_b2 (f_X9_copyCount 23 w_47) fun r_78 w_76 => some (r_78, w_76)) else (if a1 = (7 : Int32) then (am_chk (0 : Int32) 3 (am_chk (1 : Int32) 3 (am_chk (2 : Int32) 3 (some (((w_47.1 27 (0 : Int32).toNatClampNeg) + (w_47.1 27 (1 : Int32).toNatClampNeg)) + (w_47.1 27 (2 : Int32).toNatClampNeg), w_47))))) else (if a1 = (8 : Int32) then (am_b2 (f_X6_partsOfUnknown w_47) fun r_84 w_82 => some (r_84, w_82)) else (some ((-1000000 : Int32), w_47)))))))))))) else (some ((-1000000 : Int32), w_43))
set_option maxRecDepth 100000 in
set_option maxHeartbeats 4000000 in
theorem k_X11_most {G : am_G} {l : Launch} {a1 : Int32}  {w : am_S} {rr : Int32} {ww : am_S} (hf : f_X11_most a1 w = some (rr, ww)) : am_Mi G l yX11_most (Cond.code yX11_most cX11_most 2 (some .int) :: am_T) { frames := 3, cells := 0, slots := 0, locals := 192 } [.ref (G.1 + 0), .int a1] w rr ww := by
  refine Met.ofW (cc := cX11_most) (maxL := 2) (ret := (some .int)) (by decide) rfl ?_
  intro p e s m args below meth c s₁ B hml hv
  obtain ⟨rfl, hx, hb, hr, hts, hown, hlocks, hK, hE, hH⟩ := am_begin B hv
  have hown : s.vm.findClass RX11 = some m.cls := hown
  show W p l e { frames := 3, cells := 0, slots := 0, locals := 192 } s m _ below meth c s.heap [] 0 0 _ _
  refine am_enter (lv := [(0, .ref (G.1 + 0)), (1, .int a1)]) (Nat.le_of_ble_eq_true rfl) rfl (fun ls hl => ?_)
  unfold f_X11_most at hf
  refine am_start hH (fun H locs hH => ?_)
  refine lv_aload_n hx hb dX11_most_0 rfl (lv_at hl 0 rfl) ?_
  obtain ⟨r_45, w_43, hq_44, hf⟩ := am_b2_some hf
  refine am_calli (r := r_45) (w' := w_43) (am_runV (n := 0) (As := []) (rest := []) ⟨hx, hb, hml, hown, hts⟩ hK hE hH (k_X11_noField hq_44) (am_gV am_q625 am_q627 am_qs11 am_q1 am_q628) (am_o11 (p := 0) (by decide +kernel)) rfl ⟨rfl, rfl⟩ (by decide +kernel) ⟨Nat.le_of_ble_eq_true rfl, Nat.le_of_ble_eq_true rfl⟩ rfl hl.1 rfl (Nat.le_of_ble_eq_true rfl) ⟨Nat.zero_le _, Nat.zero_le _⟩ dX11_most_1) hH (fun H locs hH => ?_)
  refine lv_if_eq (tgt := 10) hx hb dX11_most_4 (by decide) (fun hc_46 => ?_) (fun hc_46 => ?_)
  · have hf := (if_pos hc_46).symm.trans hf
    refine lv_aload_n hx hb dX11_most_10 rfl (lv_at hl 0 rfl) ?_
    refine am_get hx hb hts hK hown hH (am_o11 (p := 0) (by decide +kernel)) rfl am_inX11 13 (by decide) am_q344 (v := .ref (G.1 + 250)) rfl dX11_most_11 ?_
    refine lv_aload_n hx hb dX11_most_14 rfl (lv_at hl 0 rfl) ?_
    refine am_get hx hb hts hK hown hH (am_o11 (p := 0) (by decide +kernel)) rfl am_inX11 5 (by decide) am_q336 (v := .ref (G.1 + 23)) rfl dX11_most_15 ?_
    obtain ⟨w_47, hq_48, hf⟩ := am_b1_some hf
    refine am_callv (w' := w_47) (am_runV (n := 1) (As := [.ref (G.1 + 23)]) (rest := []) ⟨hx, hb, hml, hown, hts⟩ hK hE hH (k_X7_lookAt (by decide +kernel) hq_48) (am_gV am_q670 am_q671 am_q672 am_q9 am_q673) (am_o7 (p := 250) (by decide +kernel)) rfl ⟨rfl, rfl⟩ (by decide +kernel) ⟨Nat.le_of_ble_eq_true rfl, Nat.le_of_ble_eq_true rfl⟩ rfl hl.1 rfl (Nat.le_of_ble_eq_true rfl) ⟨Nat.zero_le _, Nat.zero_le _⟩ dX11_most_18) hH (fun H locs hH => ?_)
    refine lv_iload_n hx hb dX11_most_21 rfl (lv_at hl 1 rfl) ?_
    by_cases he_49 : a1 = (0 : Int32)
    · have hf := (if_pos he_49).symm.trans hf
      refine lv_tableIn (off := 50) (tgt := 72) hx hb dX11_most_22 (by rw [he_49]; decide) (by rw [he_49]; decide) (by rw [he_49]; rfl) (by decide) ?_
      refine lv_aload_n hx hb dX11_most_72 rfl (lv_at hl 0 rfl) ?_
      refine am_get hx hb hts hK hown hH (am_o11 (p := 0) (by decide +kernel)) rfl am_inX11 2 (by decide) am_q333 (v := .ref (G.1 + 11)) rfl dX11_most_73 ?_
      obtain ⟨r_60, w_58, hq_59, hf⟩ := am_b2_some hf
      refine am_calli (r := r_60) (w' := w_58) (am_runV (n := 0) (As := []) (rest := []) ⟨hx, hb, hml, hown, hts⟩ hK hE hH (k_X1_everyone (by decide +kernel) hq_59) (am_gV am_q948 am_q610 am_q611 am_q3 am_q612) (am_o1 (p := 11) (by decide +kernel)) rfl ⟨rfl, rfl⟩ (by decide +kernel) ⟨Nat.le_of_ble_eq_true rfl, Nat.le_of_ble_eq_true rfl⟩ rfl hl.1 rfl (Nat.le_of_ble_eq_true rfl) ⟨Nat.zero_le _, Nat.zero_le _⟩ dX11_most_76) hH (fun H locs hH => ?_)
      refine lv_aload_n hx hb dX11_most_79 rfl (lv_at hl 0 rfl) ?_
      refine am_get hx hb hts hK hown hH (am_o11 (p := 0) (by decide +kernel)) rfl am_inX11 13 (by decide) am_q344 (v := .ref (G.1 + 250)) rfl dX11_most_80 ?_
      refine am_get hx hb hts hK hown hH (am_o7 (p := 250) (by decide +kernel)) rfl am_inX7 6 (by decide) am_q273 (v := .int (w_58.1 250 6)) rfl dX11_most_83 ?_
      refine lv_iconst (v := -1) hx hb dX11_most_86 (by decide) ?_
      refine lv_ixor hx hb dX11_most_87 ?_
      refine lv_iand hx hb dX11_most_88 ?_
      exact am_reti hx hb hr hlocks hH hf dX11_most_89
    have hf := (if_neg he_49).symm.trans hf
    by_cases he_50 : a1 = (1 : Int32)
    · have hf := (if_pos he_50).symm.trans hf
      refine lv_tableIn (off := 68) (tgt := 90) hx hb dX11_most_22 (by rw [he_50]; decide) (by rw [he_50]; decide) (by rw [he_50]; rfl) (by decide) ?_
      refine lv_aload_n hx hb dX11_most_90 rfl (lv_at hl 0 rfl) ?_
      refine am_get hx hb hts hK hown hH (am_o11 (p := 0) (by decide +kernel)) rfl am_inX11 15 (by decide) am_q346 (v := .ref (G.1 + 257)) rfl dX11_most_91 ?_
      obtain ⟨r_63, w_61, hq_62, hf⟩ := am_b2_some hf
      refine am_calli (r := r_63) (w' := w_61) (am_runV (n := 0) (As := []) (rest := []) ⟨hx, hb, hml, hown, hts⟩ hK hE hH (k_X6_fullestSlot hq_62) (am_gV am_q1192 am_q1193 am_q1194 am_q11 am_q1195) (am_o6 (p := 257) (by decide +kernel)) rfl ⟨rfl, rfl⟩ (by decide +kernel) ⟨Nat.le_of_ble_eq_true rfl, Nat.le_of_ble_eq_true rfl⟩ rfl hl.1 rfl (Nat.le_of_ble_eq_true rfl) ⟨Nat.zero_le _, Nat.zero_le _⟩ dX11_most_94) hH (fun H locs hH => ?_)
      exact am_reti hx hb hr hlocks hH hf dX11_most_97
    have hf := (if_neg he_50).symm.trans hf
    by_cases he_51 : a1 = (2 : Int32)
    · have hf := (if_pos he_51).symm.trans hf
      refine lv_tableIn (off := 76) (tgt := 98) hx hb dX11_most_22 (by rw [he_51]; decide) (by rw [he_51]; decide) (by rw [he_51]; rfl) (by decide) ?_
      refine lv_aload_n hx hb dX11_most_98 rfl (lv_at hl 0 rfl) ?_
      refine am_get hx hb hts hK hown hH (am_o11 (p := 0) (by decide +kernel)) rfl am_inX11 15 (by decide) am_q346 (v := .ref (G.1 + 257)) rfl dX11_most_99 ?_
      refine lv_aload_n hx hb dX11_most_102 rfl (lv_at hl 0 rfl) ?_
      refine am_get hx hb hts hK hown hH (am_o11 (p := 0) (by decide +kernel)) rfl am_inX11 5 (by decide) am_q336 (v := .ref (G.1 + 23)) rfl dX11_most_103 ?_
      obtain ⟨r_66, w_64, hq_65, hf⟩ := am_b2_some hf
      refine am_calli (r := r_66) (w' := w_64) (am_runV (n := 1) (As := [.ref (G.1 + 23)]) (rest := []) ⟨hx, hb, hml, hown, hts⟩ hK hE hH (k_X6_busiestUser (by decide +kernel) hq_65) (am_gV am_q1197 am_q1198 am_q1199 am_q11 am_q1200) (am_o6 (p := 257) (by decide +kernel)) rfl ⟨rfl, rfl⟩ (by decide +kernel) ⟨Nat.le_of_ble_eq_true rfl, Nat.le_of_ble_eq_true rfl⟩ rfl hl.1 rfl (Nat.le_of_ble_eq_true rfl) ⟨Nat.zero_le _, Nat.zero_le _⟩ dX11_most_106) hH (fun H locs hH => ?_)
      exact am_reti hx hb hr hlocks hH hf dX11_most_109
    have hf := (if_neg he_51).symm.trans hf
    by_cases he_52 : a1 = (3 : Int32)
    · have hf := (if_pos he_52).symm.trans hf
      refine lv_tableIn (off := 88) (tgt := 110) hx hb dX11_most_22 (by rw [he_52]; decide) (by rw [he_52]; decide) (by rw [he_52]; rfl) (by decide) ?_
      refine lv_aload_n hx hb dX11_most_110 rfl (lv_at hl 0 rfl) ?_
      refine am_get hx hb hts hK hown hH (am_o11 (p := 0) (by decide +kernel)) rfl am_inX11 15 (by decide) am_q346 (v := .ref (G.1 + 257)) rfl dX11_most_111 ?_
      obtain ⟨r_69, w_67, hq_68, hf⟩ := am_b2_some hf
      refine am_calli (r := r_69) (w' := w_67) (am_runV (n := 0) (As := []) (rest := []) ⟨hx, hb, hml, hown, hts⟩ hK hE hH (k_X6_strongestUser hq_68) (am_gV am_q1202 am_q1203 am_q1204 am_q11 am_q1205) (am_o6 (p := 257) (by decide +kernel)) rfl ⟨rfl, rfl⟩ (by decide +kernel) ⟨Nat.le_of_ble_eq_true rfl, Nat.le_of_ble_eq_true rfl⟩ rfl hl.1 rfl (Nat.le_of_ble_eq_true rfl) ⟨Nat.zero_le _, Nat.zero_le _⟩ dX11_most_114) hH (fun H locs hH => ?_)
      exact am_reti hx hb hr hlocks hH hf dX11_most_117
    have hf := (if_neg he_52).symm.trans hf
    by_cases he_53 : a1 = (4 : Int32)
    · have hf := (if_pos he_53).symm.trans hf
      refine lv_tableIn (off := 96) (tgt := 118) hx hb dX11_most_22 (by rw [he_53]; decide) (by rw [he_53]; decide) (by rw [he_53]; rfl) (by decide) ?_
      refine lv_aload_n hx hb dX11_most_118 rfl (lv_at hl 0 rfl) ?_
      refine am_get hx hb hts hK hown hH (am_o11 (p := 0) (by decide +kernel)) rfl am_inX11 15 (by decide) am_q346 (v := .ref (G.1 + 257)) rfl dX11_most_119 ?_
      refine lv_iconst (v := 0) hx hb dX11_most_122 (by decide) ?_
      obtain ⟨r_72, w_70, hq_71, hf⟩ := am_b2_some hf
      refine am_calli (r := r_72) (w' := w_70) (am_runV (n := 1) (As := [.int (0 : Int32)]) (rest := []) ⟨hx, hb, hml, hown, hts⟩ hK hE hH (k_X6_slotsWith hq_71) (am_gV am_q1206 am_q1207 am_q1208 am_q11 am_q1209) (am_o6 (p := 257) (by decide +kernel)) rfl ⟨rfl, rfl⟩ (by decide +kernel) ⟨Nat.le_of_ble_eq_true rfl, Nat.le_of_ble_eq_true rfl⟩ rfl hl.1 rfl (Nat.le_of_ble_eq_true rfl) ⟨Nat.zero_le _, Nat.zero_le _⟩ dX11_most_123) hH (fun H locs hH => ?_)
      exact am_reti hx hb hr hlocks hH hf dX11_most_126
    have hf := (if_neg he_53).symm.trans hf
    by_cases he_54 : a1 = (5 : Int32)
    · have hf := (if_pos he_54).symm.trans hf
      refine lv_tableIn (off := 105) (tgt := 127) hx hb dX11_most_22 (by rw [he_54]; decide) (by rw [he_54]; decide) (by rw [he_54]; rfl) (by decide) ?_
      refine lv_aload_n hx hb dX11_most_127 rfl (lv_at hl 0 rfl) ?_
      refine am_get hx hb hts hK hown hH (am_o11 (p := 0) (by decide +kernel)) rfl am_inX11 15 (by decide) am_q346 (v := .ref (G.1 + 257)) rfl dX11_most_128 ?_
      refine lv_iconst (v := 1) hx hb dX11_most_131 (by decide) ?_
      obtain ⟨r_75, w_73, hq_74, hf⟩ := am_b2_some hf
      refine am_calli (r := r_75) (w' := w_73) (am_runV (n := 1) (As := [.int (1 : Int32)]) (rest := []) ⟨hx, hb, hml, hown, hts⟩ hK hE hH (k_X6_slotsWith hq_74) (am_gV am_q1206 am_q1207 am_q1208 am_q11 am_q1209) (am_o6 (p := 257) (by decide +kernel)) rfl ⟨rfl, rfl⟩ (by decide +kernel) ⟨Nat.le_of_ble_eq_true rfl, Nat.le_of_ble_eq_true rfl⟩ rfl hl.1 rfl (Nat.le_of_ble_eq_true rfl) ⟨Nat.zero_le _, Nat.zero_le _⟩ dX11_most_132) hH (fun H locs hH => ?_)
      exact am_reti hx hb hr hlocks hH hf dX11_most_135
    have hf := (if_neg he_54).symm.trans hf
    by_cases he_55 : a1 = (6 : Int32)
    · have hf := (if_pos he_55).symm.trans hf
      refine lv_tableIn (off := 114) (tgt := 136) hx hb dX11_most_22 (by rw [he_55]; decide) (by rw [he_55]; decide) (by rw [he_55]; rfl) (by decide) ?_
      refine lv_aload_n hx hb dX11_most_136 rfl (lv_at hl 0 rfl) ?_
      refine am_get hx hb hts hK hown hH (am_o11 (p := 0) (by decide +kernel)) rfl am_inX11 5 (by decide) am_q336 (v := .ref (G.1 + 23)) rfl dX11_most_137 ?_
      obtain ⟨r_78, w_76, hq_77, hf⟩ := am_b2_some hf
      refine am_calli (r := r_78) (w' := w_76) (am_runV (n := 0) (As := []) (rest := []) ⟨hx, hb, hml, hown, hts⟩ hK hE hH (k_X9_copyCount (by decide +kernel) hq_77) (am_gV am_q1210 am_q1211 am_q1212 am_q5 am_q1213) (am_o9 (p := 23) (by decide +kernel)) rfl ⟨rfl, rfl⟩ (by decide +kernel) ⟨Nat.le_of_ble_eq_true rfl, Nat.le_of_ble_eq_true rfl⟩ rfl hl.1 rfl (Nat.le_of_ble_eq_true rfl) ⟨Nat.zero_le _, Nat.zero_le _⟩ dX11_most_140) hH (fun H locs hH => ?_)
      exact am_reti hx hb hr hlocks hH hf dX11_most_143
    have hf := (if_neg he_55).symm.trans hf
    by_cases he_56 : a1 = (7 : Int32)
    · have hf := (if_pos he_56).symm.trans hf
      refine lv_tableIn (off := 122) (tgt := 144) hx hb dX11_most_22 (by rw [he_56]; decide) (by rw [he_56]; decide) (by rw [he_56]; rfl) (by decide) ?_
      refine lv_aload_n hx hb dX11_most_144 rfl (lv_at hl 0 rfl) ?_
      refine am_get hx hb hts hK hown hH (am_o11 (p := 0) (by decide +kernel)) rfl am_inX11 5 (by decide) am_q336 (v := .ref (G.1 + 23)) rfl dX11_most_145 ?_
      refine am_get hx hb hts hK hown hH (am_o9 (p := 23) (by decide +kernel)) rfl am_inX9 3 (by decide) am_q186 (v := .ref (G.1 + 27)) rfl dX11_most_148 ?_
      refine lv_iconst (v := 0) hx hb dX11_most_151 (by decide) ?_
      obtain ⟨hi_79, hf⟩ := am_chk_some hf
      refine am_iald hx hb hK hH (am_ai_of (N := 3) (by decide +kernel)) hi_79 dX11_most_152 ?_
      refine lv_aload_n hx hb dX11_most_153 rfl (lv_at hl 0 rfl) ?_
      refine am_get hx hb hts hK hown hH (am_o11 (p := 0) (by decide +kernel)) rfl am_inX11 5 (by decide) am_q336 (v := .ref (G.1 + 23)) rfl dX11_most_154 ?_
      refine am_get hx hb hts hK hown hH (am_o9 (p := 23) (by decide +kernel)) rfl am_inX9 3 (by decide) am_q186 (v := .ref (G.1 + 27)) rfl dX11_most_157 ?_
      refine lv_iconst (v := 1) hx hb dX11_most_160 (by decide) ?_
      obtain ⟨hi_80, hf⟩ := am_chk_some hf
      refine am_iald hx hb hK hH (am_ai_of (N := 3) (by decide +kernel)) hi_80 dX11_most_161 ?_
      refine lv_iadd hx hb dX11_most_162 ?_
      refine lv_aload_n hx hb dX11_most_163 rfl (lv_at hl 0 rfl) ?_
      refine am_get hx hb hts hK hown hH (am_o11 (p := 0) (by decide +kernel)) rfl am_inX11 5 (by decide) am_q336 (v := .ref (G.1 + 23)) rfl dX11_most_164 ?_
      refine am_get hx hb hts hK hown hH (am_o9 (p := 23) (by decide +kernel)) rfl am_inX9 3 (by decide) am_q186 (v := .ref (G.1 + 27)) rfl dX11_most_167 ?_
      refine lv_iconst (v := 2) hx hb dX11_most_170 (by decide) ?_
      obtain ⟨hi_81, hf⟩ := am_chk_some hf
      refine am_iald hx hb hK hH (am_ai_of (N := 3) (by decide +kernel)) hi_81 dX11_most_171 ?_
      refine lv_iadd hx hb dX11_most_172 ?_
      exact am_reti hx hb hr hlocks hH hf dX11_most_173
    have hf := (if_neg he_56).symm.trans hf
    by_cases he_57 : a1 = (8 : Int32)
    · have hf := (if_pos he_57).symm.trans hf
      refine lv_tableIn (off := 152) (tgt := 174) hx hb dX11_most_22 (by rw [he_57]; decide) (by rw [he_57]; decide) (by rw [he_57]; rfl) (by decide) ?_
      refine lv_aload_n hx hb dX11_most_174 rfl (lv_at hl 0 rfl) ?_
      refine am_get hx hb hts hK hown hH (am_o11 (p := 0) (by decide +kernel)) rfl am_inX11 15 (by decide) am_q346 (v := .ref (G.1 + 257)) rfl dX11_most_175 ?_
      obtain ⟨r_84, w_82, hq_83, hf⟩ := am_b2_some hf
      refine am_calli (r := r_84) (w' := w_82) (am_runV (n := 0) (As := []) (rest := []) ⟨hx, hb, hml, hown, hts⟩ hK hE hH (k_X6_partsOfUnknown hq_83) (am_gV am_q1215 am_q1216 am_q1217 am_q11 am_q1218) (am_o6 (p := 257) (by decide +kernel)) rfl ⟨rfl, rfl⟩ (by decide +kernel) ⟨Nat.le_of_ble_eq_true rfl, Nat.le_of_ble_eq_true rfl⟩ rfl hl.1 rfl (Nat.le_of_ble_eq_true rfl) ⟨Nat.zero_le _, Nat.zero_le _⟩ dX11_most_178) hH (fun H locs hH => ?_)
      exact am_reti hx hb hr hlocks hH hf dX11_most_181
    have hf := (if_neg he_57).symm.trans hf
    have nhe_49 := am_tne (k := 0) (0 : Int32) (by decide) he_49
    have nhe_50 := am_tne (k := 1) (1 : Int32) (by decide) he_50
    have nhe_51 := am_tne (k := 2) (2 : Int32) (by decide) he_51
    have nhe_52 := am_tne (k := 3) (3 : Int32) (by decide) he_52
    have nhe_53 := am_tne (k := 4) (4 : Int32) (by decide) he_53
    have nhe_54 := am_tne (k := 5) (5 : Int32) (by decide) he_54
    have nhe_55 := am_tne (k := 6) (6 : Int32) (by decide) he_55
    have nhe_56 := am_tne (k := 7) (7 : Int32) (by decide) he_56
    have nhe_57 := am_tne (k := 8) (8 : Int32) (by decide) he_57
    refine lv_tableOut (tgt := 182) hx hb dX11_most_22 (by omega) (by decide) ?_
    refine lv_ldc (v := -1000000) hx hb hown (hts _ am_q714) dX11_most_182 ?_
    exact am_reti hx hb hr hlocks hH hf dX11_most_184
  · have hf := (if_neg hc_46).symm.trans hf
    refine lv_ldc (v := -1000000) hx hb hown (hts _ am_q714) dX11_most_7 ?_
    exact am_reti hx hb hr hlocks hH hf dX11_most_9

def f_X11_peel  (w : am_S) : Option (Int32 × am_S) :=
  am_b2 (f_X11_act (0 : Int32) (-1 : Int32) (-1 : Int32) (0 : Int64) w) fun r_6 w_4 => some (r_6, w_4)
set_option maxRecDepth 100000 in
set_option maxHeartbeats 4000000 in
theorem k_X11_peel {G : am_G} {l : Launch}   {w : am_S} {rr : Int32} {ww : am_S} (hf : f_X11_peel  w = some (rr, ww)) : am_Mi G l yX11_peel (Cond.code yX11_peel cX11_peel 1 (some .int) :: am_T) { frames := 7, cells := 0, slots := 0, locals := 448 } [.ref (G.1 + 0)] w rr ww := by
  refine Met.ofW (cc := cX11_peel) (maxL := 1) (ret := (some .int)) (by decide) rfl ?_
  intro p e s m args below meth c s₁ B hml hv
  obtain ⟨rfl, hx, hb, hr, hts, hown, hlocks, hK, hE, hH⟩ := am_begin B hv
  have hown : s.vm.findClass RX11 = some m.cls := hown
  show W p l e { frames := 7, cells := 0, slots := 0, locals := 448 } s m _ below meth c s.heap [] 0 0 _ _
  refine am_enter (lv := [(0, .ref (G.1 + 0))]) (Nat.le_of_ble_eq_true rfl) rfl (fun ls hl => ?_)
  unfold f_X11_peel at hf
  refine am_start hH (fun H locs hH => ?_)
  refine lv_aload_n hx hb dX11_peel_0 rfl (lv_at hl 0 rfl) ?_
  refine lv_iconst (v := 0) hx hb dX11_peel_1 (by decide) ?_
  refine lv_iconst (v := -1) hx hb dX11_peel_2 (by decide) ?_
  refine lv_iconst (v := -1) hx hb dX11_peel_3 (by decide) ?_
  refine lv_lconst (v := 0) hx hb dX11_peel_4 (by decide) ?_
  obtain ⟨r_6, w_4, hq_5, hf⟩ := am_b2_some hf
  refine am_calli (r := r_6) (w' := w_4) (am_runV (n := 4) (As := [.int (0 : Int32), .int (-1 : Int32), .int (-1 : Int32), .long (0 : Int64)]) (rest := []) ⟨hx, hb, hml, hown, hts⟩ hK hE hH (k_X11_act hq_5) (am_gV am_q725 am_q727 am_qs16 am_q1 am_q728) (am_o11 (p := 0) (by decide +kernel)) rfl ⟨rfl, rfl⟩ (by decide +kernel) ⟨Nat.le_of_ble_eq_true rfl, Nat.le_of_ble_eq_true rfl⟩ rfl hl.1 rfl (Nat.le_of_ble_eq_true rfl) ⟨Nat.zero_le _, Nat.zero_le _⟩ dX11_peel_5) hH (fun H locs hH => ?_)
  exact am_reti hx hb hr hlocks hH hf dX11_peel_8

def f_X11_noScript_17 (a1 : Int32) (s0 : Int32) (w : am_S) : Option (Int32 × am_S) :=
  am_nar .boolean s0 (some (s0, w))
def f_X11_noScript_12 (a1 : Int32) (w : am_S) : Option (Int32 × am_S) :=
  f_X11_noScript_17 a1 (1 : Int32) w
def f_X11_noScript (a1 : Int32) (w : am_S) : Option (Int32 × am_S) :=
  if a1 < 0 then (f_X11_noScript_12 a1 w) else (if a1 < (w.1 0 17) then (f_X11_noScript_17 a1 (0 : Int32) w) else (f_X11_noScript_12 a1 w))
set_option maxRecDepth 100000 in
set_option maxHeartbeats 4000000 in
theorem k_X11_noScript {G : am_G} {l : Launch} {a1 : Int32}  {w : am_S} {rr : Int32} {ww : am_S} (hf : f_X11_noScript a1 w = some (rr, ww)) : am_Mi G l yX11_noScript (Cond.code yX11_noScript cX11_noScript 2 (some .boolean) :: am_T) { frames := 0, cells := 0, slots := 0, locals := 0 } [.ref (G.1 + 0), .int a1] w rr ww := by
  refine Met.ofW (cc := cX11_noScript) (maxL := 2) (ret := (some .boolean)) (by decide) rfl ?_
  intro p e s m args below meth c s₁ B hml hv
  obtain ⟨rfl, hx, hb, hr, hts, hown, hlocks, hK, hE, hH⟩ := am_begin B hv
  have hown : s.vm.findClass RX11 = some m.cls := hown
  show W p l e { frames := 0, cells := 0, slots := 0, locals := 0 } s m _ below meth c s.heap [] 0 0 _ _
  have P17 : ∀ (s0 : Int32) (w : am_S) (H : Heap) (locs : List Loc) (ls : Array Slot), f_X11_noScript_17 a1 s0 w = some (rr, ww) → am_H G w s H locs → lv_has ls 2 [] → W p l e { frames := 0, cells := 0, slots := 0, locals := 0 } s m [.ref (G.1 + 0), .int a1].toArray below meth c H locs 0 0 (MQ below (va_Qi (fun (x : Int32) (u : am_S) => x = rr ∧ u = ww) (am_U G) (am_A G)) [.ref (G.1 + 0), .int a1].toArray s 0 0 (am_A G)) (F0 m 17 ls [.int s0]) := by
    intro s0 w H locs ls hf hH hl
    unfold f_X11_noScript_17 at hf
    obtain ⟨hr_3, hf⟩ := am_nar_some hf
    exact am_retz hx hb hr hr_3.1 hlocks hH hf dX11_noScript_17
  have P12 : ∀ (w : am_S) (H : Heap) (locs : List Loc) (ls : Array Slot), f_X11_noScript_12 a1 w = some (rr, ww) → am_H G w s H locs → lv_has ls 2 [] → W p l e { frames := 0, cells := 0, slots := 0, locals := 0 } s m [.ref (G.1 + 0), .int a1].toArray below meth c H locs 0 0 (MQ below (va_Qi (fun (x : Int32) (u : am_S) => x = rr ∧ u = ww) (am_U G) (am_A G)) [.ref (G.1 + 0), .int a1].toArray s 0 0 (am_A G)) (F0 m 12 ls []) := by
    intro w H locs ls hf hH hl
    unfold f_X11_noScript_12 at hf
    refine lv_iconst (v := 1) hx hb dX11_noScript_12 (by decide) ?_
    refine lv_goto (tgt := 17) hx hb dX11_noScript_13 (by decide) ?_
    exact P17 (1 : Int32) w H locs ls hf hH (lv_sub hl [] rfl)
  refine am_enter (lv := [(0, .ref (G.1 + 0)), (1, .int a1)]) (Nat.le_of_ble_eq_true rfl) rfl (fun ls hl => ?_)
  unfold f_X11_noScript at hf
  refine am_start hH (fun H locs hH => ?_)
  refine lv_iload_n hx hb dX11_noScript_0 rfl (lv_at hl 1 rfl) ?_
  refine lv_if_lt (tgt := 12) hx hb dX11_noScript_1 (by decide) (fun hc_4 => ?_) (fun hc_4 => ?_)
  · have hf := (if_pos hc_4).symm.trans hf
    exact P12 w H locs ls hf hH (lv_sub hl [] rfl)
  · have hf := (if_neg hc_4).symm.trans hf
    refine lv_iload_n hx hb dX11_noScript_4 rfl (lv_at hl 1 rfl) ?_
    refine lv_aload_n hx hb dX11_noScript_5 rfl (lv_at hl 0 rfl) ?_
    refine am_get hx hb hts hK hown hH (am_o11 (p := 0) (by decide +kernel)) rfl am_inX11 17 (by decide) am_q348 (v := .int (w.1 0 17)) rfl dX11_noScript_6 ?_
    refine lv_icmp_lt (tgt := 16) hx hb dX11_noScript_9 (by decide) (fun hc_5 => ?_) (fun hc_5 => ?_)
    · have hf := (if_pos hc_5).symm.trans hf
      refine lv_iconst (v := 0) hx hb dX11_noScript_16 (by decide) ?_
      exact P17 (0 : Int32) w H locs ls hf hH (lv_sub hl [] rfl)
    · have hf := (if_neg hc_5).symm.trans hf
      exact P12 w H locs ls hf hH (lv_sub hl [] rfl)

def f_X8_sortOf (o0 : Nat) (a1 : Int32) (w : am_S) : Option (Int32 × am_S) :=
  am_chk a1 16 (am_chk (w.1 (o0 + 1) a1.toNatClampNeg) 6 (some (am_sv 9 (w.1 (o0 + 1) a1.toNatClampNeg).toNatClampNeg, w)))
set_option maxRecDepth 100000 in
set_option maxHeartbeats 4000000 in
theorem k_X8_sortOf {G : am_G} {l : Launch} {o0 : Nat} {a1 : Int32} (ho0 : am_f8 o0) {w : am_S} {rr : Int32} {ww : am_S} (hf : f_X8_sortOf o0 a1 w = some (rr, ww)) : am_Mi G l yX8_sortOf (Cond.code yX8_sortOf cX8_sortOf 2 (some .int) :: am_T) { frames := 0, cells := 0, slots := 0, locals := 0 } [.ref (G.1 + o0), .int a1] w rr ww := by
  refine Met.ofW (cc := cX8_sortOf) (maxL := 2) (ret := (some .int)) (by decide) rfl ?_
  intro p e s m args below meth c s₁ B hml hv
  obtain ⟨rfl, hx, hb, hr, hts, hown, hlocks, hK, hE, hH⟩ := am_begin B hv
  have hown : s.vm.findClass RX8 = some m.cls := hown
  show W p l e { frames := 0, cells := 0, slots := 0, locals := 0 } s m _ below meth c s.heap [] 0 0 _ _
  refine am_enter (lv := [(0, .ref (G.1 + o0)), (1, .int a1)]) (Nat.le_of_ble_eq_true rfl) rfl (fun ls hl => ?_)
  unfold f_X8_sortOf at hf
  refine am_start hH (fun H locs hH => ?_)
  refine va_gets hx hb (hE.1 9 _ rfl).1 hH.2 hown (hts _ am_q1182) (fun _ h => h) dX8_sortOf_0 ?_
  refine lv_aload_n hx hb dX8_sortOf_3 rfl (lv_at hl 0 rfl) ?_
  refine am_get hx hb hts hK hown hH (am_o8 ho0.1) rfl am_inX8 0 (by decide) am_q153 (v := .ref (G.1 + (o0 + 1))) rfl dX8_sortOf_4 ?_
  refine lv_iload_n hx hb dX8_sortOf_7 rfl (lv_at hl 1 rfl) ?_
  obtain ⟨hi_3, hf⟩ := am_chk_some hf
  refine am_iald hx hb hK hH (am_ai_of (N := 16) ho0.2.1) hi_3 dX8_sortOf_8 ?_
  obtain ⟨hi_4, hf⟩ := am_chk_some hf
  refine va_ti hx hb (hE.1 9 _ rfl).2 hH.2 hi_4 rfl dX8_sortOf_9 ?_
  exact am_reti hx hb hr hlocks hH hf dX8_sortOf_10

def f_X11_perform_15 (a1 : Int32) (w : am_S) : Option (Int32 × am_S) :=
  some ((-1 : Int32), w)
def f_X11_perform_26b (a1 : Int32) (x3 : Int32) (w : am_S) : Option ((Int32 × am_S) ⊕ (Int32 × am_S)) :=
  if (w.1 (259 + 3 * a1.toNatClampNeg) 2) ≤ x3 then (am_x (some (w.1 (259 + 3 * a1.toNatClampNeg) 2, w))) else (am_b2 (f_X8_sortOf (259 + 3 * a1.toNatClampNeg) x3 w) fun r_25 w_23 => am_chk x3 16 (am_chk x3 16 (am_b2 (f_X11_attempt r_25 (w_23.1 ((259 + 3 * a1.toNatClampNeg) + 2) x3.toNatClampNeg) (-1 : Int32) ((w_23.1 ((259 + 3 * a1.toNatClampNeg) + 2) x3.toNatClampNeg).toInt64) w_23) fun r_30 w_28 => if 0 ≤ r_30 then (am_v (x3 + (1 : Int32)) fun (x3_32 : Int32) => some (.inr (x3_32, w_28))) else (am_x (some (x3, w_28))))))
def f_X11_perform_26 (a1 : Int32) (x3 : Int32) (w : am_S) : Option (Int32 × am_S) :=
  am_loop (fun (st : (Int32 × am_S)) => f_X11_perform_26b a1 st.1 st.2) am_fuel (x3, w)
def f_X11_perform (a1 : Int32) (w : am_S) : Option (Int32 × am_S) :=
  am_b2 (f_X11_noScript a1 w) fun r_36 w_34 => if r_36 = 0 then (am_b2 (f_X11_noField w_34) fun r_40 w_38 => if r_40 = 0 then (am_chk a1 4 (f_X11_perform_26 a1 (0 : Int32) w_38)) else (f_X11_perform_15 a1 w_38)) else (f_X11_perform_15 a1 w_34)
set_option maxRecDepth 100000 in
set_option maxHeartbeats 4000000 in
theorem k_X11_perform {G : am_G} {l : Launch} {a1 : Int32}  {w : am_S} {rr : Int32} {ww : am_S} (hf : f_X11_perform a1 w = some (rr, ww)) : am_Mi G l yX11_perform (Cond.code yX11_perform cX11_perform 4 (some .int) :: am_T) { frames := 6, cells := 0, slots := 0, locals := 384 } [.ref (G.1 + 0), .int a1] w rr ww := by
  refine Met.ofW (cc := cX11_perform) (maxL := 4) (ret := (some .int)) (by decide) rfl ?_
  intro p e s m args below meth c s₁ B hml hv
  obtain ⟨rfl, hx, hb, hr, hts, hown, hlocks, hK, hE, hH⟩ := am_begin B hv
  have hown : s.vm.findClass RX11 = some m.cls := hown
  show W p l e { frames := 6, cells := 0, slots := 0, locals := 384 } s m _ below meth c s.heap [] 0 0 _ _
  have P15 : ∀ (w : am_S) (H : Heap) (locs : List Loc) (ls : Array Slot), f_X11_perform_15 a1 w = some (rr, ww) → am_H G w s H locs → lv_has ls 4 [] → W p l e { frames := 6, cells := 0, slots := 0, locals := 384 } s m [.ref (G.1 + 0), .int a1].toArray below meth c H locs 0 0 (MQ below (va_Qi (fun (x : Int32) (u : am_S) => x = rr ∧ u = ww) (am_U G) (am_A G)) [.ref (G.1 + 0), .int a1].toArray s 0 0 (am_A G)) (F0 m 15 ls []) := by
    intro w H locs ls hf hH hl
    unfold f_X11_perform_15 at hf
    refine lv_iconst (v := -1) hx hb dX11_perform_15 (by decide) ?_
    exact am_reti hx hb hr hlocks hH hf dX11_perform_16
  have P26 : ∀ (n1 : Nat) (x3 : Int32) (w : am_S) (H : Heap) (locs : List Loc) (ls : Array Slot), am_loop (fun (st : (Int32 × am_S)) => f_X11_perform_26b a1 st.1 st.2) n1 (x3, w) = some (rr, ww) → am_f8 (259 + 3 * a1.toNatClampNeg) → am_H G w s H locs → lv_has ls 4 [(0, .ref (G.1 + 0)), (2, .ref (G.1 + (259 + 3 * a1.toNatClampNeg))), (3, .int x3)] → W p l e { frames := 6, cells := 0, slots := 0, locals := 384 } s m [.ref (G.1 + 0), .int a1].toArray below meth c H locs 0 0 (MQ below (va_Qi (fun (x : Int32) (u : am_S) => x = rr ∧ u = ww) (am_U G) (am_A G)) [.ref (G.1 + 0), .int a1].toArray s 0 0 (am_A G)) (F0 m 26 ls []) := by
    intro n1
    induction n1 with
    | zero =>
      intro x3 w H locs ls hf hr2 hH hl
      exact (am_loop_zero hf).elim
    | succ n1 ih1 =>
      intro x3 w H locs ls hf hr2 hH hl
      obtain ⟨z1, hf, hk1⟩ := am_loop_succ hf
      have hf : f_X11_perform_26b a1 x3 w = some z1 := hf
      unfold f_X11_perform_26b at hf
      refine lv_iload_n hx hb dX11_perform_26 rfl (lv_at hl 2 rfl) ?_
      refine lv_aload_n hx hb dX11_perform_27 rfl (lv_at hl 1 rfl) ?_
      refine am_get hx hb hts hK hown hH (am_o8 hr2.1) rfl am_inX8 2 (by decide) am_q158 (v := .int (w.1 (259 + 3 * a1.toNatClampNeg) 2)) rfl dX11_perform_28 ?_
      refine lv_icmp_ge (tgt := 68) hx hb dX11_perform_31 (by decide) (fun hc_21 => ?_) (fun hc_21 => ?_)
      · have hf := (if_pos hc_21).symm.trans hf
        obtain ⟨y_22, hf, hzy_22⟩ := am_x_some hf
        rw [hzy_22] at hk1
        have hf := hf.trans (congrArg some (show y_22 = (rr, ww) from hk1))
        refine lv_aload_n hx hb dX11_perform_68 rfl (lv_at hl 1 rfl) ?_
        refine am_get hx hb hts hK hown hH (am_o8 hr2.1) rfl am_inX8 2 (by decide) am_q158 (v := .int (w.1 (259 + 3 * a1.toNatClampNeg) 2)) rfl dX11_perform_69 ?_
        exact am_reti hx hb hr hlocks hH hf dX11_perform_72
      · have hf := (if_neg hc_21).symm.trans hf
        refine lv_aload_n hx hb dX11_perform_34 rfl (lv_at hl 0 rfl) ?_
        refine lv_aload_n hx hb dX11_perform_35 rfl (lv_at hl 1 rfl) ?_
        refine lv_iload_n hx hb dX11_perform_36 rfl (lv_at hl 2 rfl) ?_
        obtain ⟨r_25, w_23, hq_24, hf⟩ := am_b2_some hf
        refine am_calli (r := r_25) (w' := w_23) (am_runV (n := 1) (As := [.int x3]) (rest := [.ref (G.1 + 0)]) ⟨hx, hb, hml, hown, hts⟩ hK hE hH (k_X8_sortOf hr2 hq_24) (am_gV am_q1178 am_q1179 am_q1180 am_q4 am_q1181) (am_o8 hr2.1) rfl ⟨rfl, rfl⟩ (by decide +kernel) ⟨Nat.le_of_ble_eq_true rfl, Nat.le_of_ble_eq_true rfl⟩ rfl hl.1 rfl (Nat.le_of_ble_eq_true rfl) ⟨Nat.zero_le _, Nat.zero_le _⟩ dX11_perform_37) hH (fun H locs hH => ?_)
        refine lv_aload_n hx hb dX11_perform_40 rfl (lv_at hl 1 rfl) ?_
        refine am_get hx hb hts hK hown hH (am_o8 hr2.1) rfl am_inX8 1 (by decide) am_q156 (v := .ref (G.1 + ((259 + 3 * a1.toNatClampNeg) + 2))) rfl dX11_perform_41 ?_
        refine lv_iload_n hx hb dX11_perform_44 rfl (lv_at hl 2 rfl) ?_
        obtain ⟨hi_26, hf⟩ := am_chk_some hf
        refine am_iald hx hb hK hH (am_ai_of (N := 16) hr2.2.2) hi_26 dX11_perform_45 ?_
        refine lv_iconst (v := -1) hx hb dX11_perform_46 (by decide) ?_
        refine lv_aload_n hx hb dX11_perform_47 rfl (lv_at hl 1 rfl) ?_
        refine am_get hx hb hts hK hown hH (am_o8 hr2.1) rfl am_inX8 1 (by decide) am_q156 (v := .ref (G.1 + ((259 + 3 * a1.toNatClampNeg) + 2))) rfl dX11_perform_48 ?_
        refine lv_iload_n hx hb dX11_perform_51 rfl (lv_at hl 2 rfl) ?_
        obtain ⟨hi_27, hf⟩ := am_chk_some hf
        refine am_iald hx hb hK hH (am_ai_of (N := 16) hr2.2.2) hi_27 dX11_perform_52 ?_
        refine lv_i2l hx hb dX11_perform_53 rfl ?_
        obtain ⟨r_30, w_28, hq_29, hf⟩ := am_b2_some hf
        refine am_calli (r := r_30) (w' := w_28) (am_runV (n := 4) (As := [.int r_25, .int (w_23.1 ((259 + 3 * a1.toNatClampNeg) + 2) x3.toNatClampNeg), .int (-1 : Int32), .long ((w_23.1 ((259 + 3 * a1.toNatClampNeg) + 2) x3.toNatClampNeg).toInt64)]) (rest := []) ⟨hx, hb, hml, hown, hts⟩ hK hE hH (k_X11_attempt hq_29) (am_gV am_q729 am_q731 am_qs17 am_q1 am_q732) (am_o11 (p := 0) (by decide +kernel)) rfl ⟨rfl, rfl⟩ (by decide +kernel) ⟨Nat.le_of_ble_eq_true rfl, Nat.le_of_ble_eq_true rfl⟩ rfl hl.1 rfl (Nat.le_of_ble_eq_true rfl) ⟨Nat.zero_le _, Nat.zero_le _⟩ dX11_perform_54) hH (fun H locs hH => ?_)
        refine lv_if_ge (tgt := 62) hx hb dX11_perform_57 (by decide) (fun hc_31 => ?_) (fun hc_31 => ?_)
        · have hf := (if_pos hc_31).symm.trans hf
          obtain ⟨x3_32, hx3_32, hf⟩ := am_v_some hf
          refine lv_iinc (v := x3_32) (lv' := [(3, .int x3_32), (0, .ref (G.1 + 0)), (2, .ref (G.1 + (259 + 3 * a1.toNatClampNeg)))]) hx hb dX11_perform_62 hl (k := 2) rfl (by rw [hx3_32]; rfl) (by decide) rfl (fun ls hl => ?_)
          refine lv_goto (tgt := 26) hx hb dX11_perform_65 (by decide) ?_
          obtain rfl := Option.some.inj hf
          exact ih1 x3_32 w_28 H locs ls hk1 hr2 hH (lv_sub hl [1, 2, 0] rfl)
        · have hf := (if_neg hc_31).symm.trans hf
          obtain ⟨y_33, hf, hzy_33⟩ := am_x_some hf
          rw [hzy_33] at hk1
          have hf := hf.trans (congrArg some (show y_33 = (rr, ww) from hk1))
          refine lv_iload_n hx hb dX11_perform_60 rfl (lv_at hl 2 rfl) ?_
          exact am_reti hx hb hr hlocks hH hf dX11_perform_61
  refine am_enter (lv := [(0, .ref (G.1 + 0)), (1, .int a1)]) (Nat.le_of_ble_eq_true rfl) rfl (fun ls hl => ?_)
  unfold f_X11_perform at hf
  refine am_start hH (fun H locs hH => ?_)
  refine lv_aload_n hx hb dX11_perform_0 rfl (lv_at hl 0 rfl) ?_
  refine lv_iload_n hx hb dX11_perform_1 rfl (lv_at hl 1 rfl) ?_
  obtain ⟨r_36, w_34, hq_35, hf⟩ := am_b2_some hf
  refine am_calli (r := r_36) (w' := w_34) (am_runV (n := 1) (As := [.int a1]) (rest := []) ⟨hx, hb, hml, hown, hts⟩ hK hE hH (k_X11_noScript hq_35) (am_gV am_q1165 am_q1167 am_qs42 am_q1 am_q1168) (am_o11 (p := 0) (by decide +kernel)) rfl ⟨rfl, rfl⟩ (by decide +kernel) ⟨Nat.le_of_ble_eq_true rfl, Nat.le_of_ble_eq_true rfl⟩ rfl hl.1 rfl (Nat.le_of_ble_eq_true rfl) ⟨Nat.zero_le _, Nat.zero_le _⟩ dX11_perform_2) hH (fun H locs hH => ?_)
  refine lv_if_ne (tgt := 15) hx hb dX11_perform_5 (by decide) (fun hc_37 => ?_) (fun hc_37 => ?_)
  · have hf := (if_neg hc_37).symm.trans hf
    exact P15 w_34 H locs ls hf hH (lv_sub hl [] rfl)
  · have hf := (if_pos hc_37).symm.trans hf
    refine lv_aload_n hx hb dX11_perform_8 rfl (lv_at hl 0 rfl) ?_
    obtain ⟨r_40, w_38, hq_39, hf⟩ := am_b2_some hf
    refine am_calli (r := r_40) (w' := w_38) (am_runV (n := 0) (As := []) (rest := []) ⟨hx, hb, hml, hown, hts⟩ hK hE hH (k_X11_noField hq_39) (am_gV am_q625 am_q627 am_qs11 am_q1 am_q628) (am_o11 (p := 0) (by decide +kernel)) rfl ⟨rfl, rfl⟩ (by decide +kernel) ⟨Nat.le_of_ble_eq_true rfl, Nat.le_of_ble_eq_true rfl⟩ rfl hl.1 rfl (Nat.le_of_ble_eq_true rfl) ⟨Nat.zero_le _, Nat.zero_le _⟩ dX11_perform_9) hH (fun H locs hH => ?_)
    refine lv_if_eq (tgt := 17) hx hb dX11_perform_12 (by decide) (fun hc_41 => ?_) (fun hc_41 => ?_)
    · have hf := (if_pos hc_41).symm.trans hf
      refine lv_aload_n hx hb dX11_perform_17 rfl (lv_at hl 0 rfl) ?_
      refine am_get hx hb hts hK hown hH (am_o11 (p := 0) (by decide +kernel)) rfl am_inX11 4 (by decide) am_q335 (v := .ref (G.1 + 22)) rfl dX11_perform_18 ?_
      refine lv_iload_n hx hb dX11_perform_21 rfl (lv_at hl 1 rfl) ?_
      obtain ⟨hi_42, hf⟩ := am_chk_some hf
      refine am_aald4 hx hb hK hH hi_42 dX11_perform_22 ?_
      refine lv_astore_n (lv' := [(2, .ref (G.1 + (259 + 3 * a1.toNatClampNeg))), (0, .ref (G.1 + 0)), (1, .int a1)]) hx hb dX11_perform_23 rfl hl (by decide) rfl (fun ls hl => ?_)
      refine lv_iconst (v := 0) hx hb dX11_perform_24 (by decide) ?_
      refine lv_istore_n (lv' := [(3, .int (0 : Int32)), (2, .ref (G.1 + (259 + 3 * a1.toNatClampNeg))), (0, .ref (G.1 + 0)), (1, .int a1)]) hx hb dX11_perform_25 rfl hl (by decide) rfl (fun ls hl => ?_)
      exact P26 am_fuel (0 : Int32) w_38 H locs ls hf (am_row4 hi_42) hH (lv_sub hl [2, 1, 0] rfl)
    · have hf := (if_neg hc_41).symm.trans hf
      exact P15 w_38 H locs ls hf hH (lv_sub hl [] rfl)

def f_X11_round  (w : am_S) : Option (Int32 × am_S) :=
  am_b2 (f_X11_act (1 : Int32) (-1 : Int32) (-1 : Int32) (0 : Int64) w) fun r_6 w_4 => some (r_6, w_4)
set_option maxRecDepth 100000 in
set_option maxHeartbeats 4000000 in
theorem k_X11_round {G : am_G} {l : Launch}   {w : am_S} {rr : Int32} {ww : am_S} (hf : f_X11_round  w = some (rr, ww)) : am_Mi G l yX11_round (Cond.code yX11_round cX11_round 1 (some .int) :: am_T) { frames := 7, cells := 0, slots := 0, locals := 448 } [.ref (G.1 + 0)] w rr ww := by
  refine Met.ofW (cc := cX11_round) (maxL := 1) (ret := (some .int)) (by decide) rfl ?_
  intro p e s m args below meth c s₁ B hml hv
  obtain ⟨rfl, hx, hb, hr, hts, hown, hlocks, hK, hE, hH⟩ := am_begin B hv
  have hown : s.vm.findClass RX11 = some m.cls := hown
  show W p l e { frames := 7, cells := 0, slots := 0, locals := 448 } s m _ below meth c s.heap [] 0 0 _ _
  refine am_enter (lv := [(0, .ref (G.1 + 0))]) (Nat.le_of_ble_eq_true rfl) rfl (fun ls hl => ?_)
  unfold f_X11_round at hf
  refine am_start hH (fun H locs hH => ?_)
  refine lv_aload_n hx hb dX11_round_0 rfl (lv_at hl 0 rfl) ?_
  refine lv_iconst (v := 1) hx hb dX11_round_1 (by decide) ?_
  refine lv_iconst (v := -1) hx hb dX11_round_2 (by decide) ?_
  refine lv_iconst (v := -1) hx hb dX11_round_3 (by decide) ?_
  refine lv_lconst (v := 0) hx hb dX11_round_4 (by decide) ?_
  obtain ⟨r_6, w_4, hq_5, hf⟩ := am_b2_some hf
  refine am_calli (r := r_6) (w' := w_4) (am_runV (n := 4) (As := [.int (1 : Int32), .int (-1 : Int32), .int (-1 : Int32), .long (0 : Int64)]) (rest := []) ⟨hx, hb, hml, hown, hts⟩ hK hE hH (k_X11_act hq_5) (am_gV am_q725 am_q727 am_qs16 am_q1 am_q728) (am_o11 (p := 0) (by decide +kernel)) rfl ⟨rfl, rfl⟩ (by decide +kernel) ⟨Nat.le_of_ble_eq_true rfl, Nat.le_of_ble_eq_true rfl⟩ rfl hl.1 rfl (Nat.le_of_ble_eq_true rfl) ⟨Nat.zero_le _, Nat.zero_le _⟩ dX11_round_5) hH (fun H locs hH => ?_)
  exact am_reti hx hb hr hlocks hH hf dX11_round_8

def f_X11_rule (a1 : Int32) (w : am_S) : Option (Int32 × am_S) :=
  am_b2 (f_X11_noField w) fun r_15 w_13 => if r_15 = 0 then ((if a1 = (0 : Int32) then (some (w_13.1 11 7, w_13)) else (if a1 = (1 : Int32) then (some (w_13.1 11 8, w_13)) else (if a1 = (2 : Int32) then (some (w_13.1 23 4, w_13)) else (if a1 = (3 : Int32) then (some (w_13.1 11 10, w_13)) else (if a1 = (4 : Int32) then (am_b2 (f_X1_allSlots 11 w_13) fun r_24 w_22 => some (r_24, w_22)) else (some ((-1 : Int32), w_13)))))))) else (some ((-1 : Int32), w_13))
set_option maxRecDepth 100000 in
set_option maxHeartbeats 4000000 in
theorem k_X11_rule {G : am_G} {l : Launch} {a1 : Int32}  {w : am_S} {rr : Int32} {ww : am_S} (hf : f_X11_rule a1 w = some (rr, ww)) : am_Mi G l yX11_rule (Cond.code yX11_rule cX11_rule 2 (some .int) :: am_T) { frames := 1, cells := 0, slots := 0, locals := 64 } [.ref (G.1 + 0), .int a1] w rr ww := by
  refine Met.ofW (cc := cX11_rule) (maxL := 2) (ret := (some .int)) (by decide) rfl ?_
  intro p e s m args below meth c s₁ B hml hv
  obtain ⟨rfl, hx, hb, hr, hts, hown, hlocks, hK, hE, hH⟩ := am_begin B hv
  have hown : s.vm.findClass RX11 = some m.cls := hown
  show W p l e { frames := 1, cells := 0, slots := 0, locals := 64 } s m _ below meth c s.heap [] 0 0 _ _
  refine am_enter (lv := [(0, .ref (G.1 + 0)), (1, .int a1)]) (Nat.le_of_ble_eq_true rfl) rfl (fun ls hl => ?_)
  unfold f_X11_rule at hf
  refine am_start hH (fun H locs hH => ?_)
  refine lv_aload_n hx hb dX11_rule_0 rfl (lv_at hl 0 rfl) ?_
  obtain ⟨r_15, w_13, hq_14, hf⟩ := am_b2_some hf
  refine am_calli (r := r_15) (w' := w_13) (am_runV (n := 0) (As := []) (rest := []) ⟨hx, hb, hml, hown, hts⟩ hK hE hH (k_X11_noField hq_14) (am_gV am_q625 am_q627 am_qs11 am_q1 am_q628) (am_o11 (p := 0) (by decide +kernel)) rfl ⟨rfl, rfl⟩ (by decide +kernel) ⟨Nat.le_of_ble_eq_true rfl, Nat.le_of_ble_eq_true rfl⟩ rfl hl.1 rfl (Nat.le_of_ble_eq_true rfl) ⟨Nat.zero_le _, Nat.zero_le _⟩ dX11_rule_1) hH (fun H locs hH => ?_)
  refine lv_if_eq (tgt := 9) hx hb dX11_rule_4 (by decide) (fun hc_16 => ?_) (fun hc_16 => ?_)
  · have hf := (if_pos hc_16).symm.trans hf
    refine lv_iload_n hx hb dX11_rule_9 rfl (lv_at hl 1 rfl) ?_
    by_cases he_17 : a1 = (0 : Int32)
    · have hf := (if_pos he_17).symm.trans hf
      refine lv_tableIn (off := 34) (tgt := 44) hx hb dX11_rule_10 (by rw [he_17]; decide) (by rw [he_17]; decide) (by rw [he_17]; rfl) (by decide) ?_
      refine lv_aload_n hx hb dX11_rule_44 rfl (lv_at hl 0 rfl) ?_
      refine am_get hx hb hts hK hown hH (am_o11 (p := 0) (by decide +kernel)) rfl am_inX11 2 (by decide) am_q333 (v := .ref (G.1 + 11)) rfl dX11_rule_45 ?_
      refine am_get hx hb hts hK hown hH (am_o1 (p := 11) (by decide +kernel)) rfl am_inX1 7 (by decide) am_q93 (v := .int (w_13.1 11 7)) rfl dX11_rule_48 ?_
      exact am_reti hx hb hr hlocks hH hf dX11_rule_51
    have hf := (if_neg he_17).symm.trans hf
    by_cases he_18 : a1 = (1 : Int32)
    · have hf := (if_pos he_18).symm.trans hf
      refine lv_tableIn (off := 42) (tgt := 52) hx hb dX11_rule_10 (by rw [he_18]; decide) (by rw [he_18]; decide) (by rw [he_18]; rfl) (by decide) ?_
      refine lv_aload_n hx hb dX11_rule_52 rfl (lv_at hl 0 rfl) ?_
      refine am_get hx hb hts hK hown hH (am_o11 (p := 0) (by decide +kernel)) rfl am_inX11 2 (by decide) am_q333 (v := .ref (G.1 + 11)) rfl dX11_rule_53 ?_
      refine am_get hx hb hts hK hown hH (am_o1 (p := 11) (by decide +kernel)) rfl am_inX1 8 (by decide) am_q95 (v := .int (w_13.1 11 8)) rfl dX11_rule_56 ?_
      exact am_reti hx hb hr hlocks hH hf dX11_rule_59
    have hf := (if_neg he_18).symm.trans hf
    by_cases he_19 : a1 = (2 : Int32)
    · have hf := (if_pos he_19).symm.trans hf
      refine lv_tableIn (off := 50) (tgt := 60) hx hb dX11_rule_10 (by rw [he_19]; decide) (by rw [he_19]; decide) (by rw [he_19]; rfl) (by decide) ?_
      refine lv_aload_n hx hb dX11_rule_60 rfl (lv_at hl 0 rfl) ?_
      refine am_get hx hb hts hK hown hH (am_o11 (p := 0) (by decide +kernel)) rfl am_inX11 5 (by decide) am_q336 (v := .ref (G.1 + 23)) rfl dX11_rule_61 ?_
      refine am_get hx hb hts hK hown hH (am_o9 (p := 23) (by decide +kernel)) rfl am_inX9 4 (by decide) am_q190 (v := .int (w_13.1 23 4)) rfl dX11_rule_64 ?_
      exact am_reti hx hb hr hlocks hH hf dX11_rule_67
    have hf := (if_neg he_19).symm.trans hf
    by_cases he_20 : a1 = (3 : Int32)
    · have hf := (if_pos he_20).symm.trans hf
      refine lv_tableIn (off := 58) (tgt := 68) hx hb dX11_rule_10 (by rw [he_20]; decide) (by rw [he_20]; decide) (by rw [he_20]; rfl) (by decide) ?_
      refine lv_aload_n hx hb dX11_rule_68 rfl (lv_at hl 0 rfl) ?_
      refine am_get hx hb hts hK hown hH (am_o11 (p := 0) (by decide +kernel)) rfl am_inX11 2 (by decide) am_q333 (v := .ref (G.1 + 11)) rfl dX11_rule_69 ?_
      refine am_get hx hb hts hK hown hH (am_o1 (p := 11) (by decide +kernel)) rfl am_inX1 10 (by decide) am_q101 (v := .int (w_13.1 11 10)) rfl dX11_rule_72 ?_
      exact am_reti hx hb hr hlocks hH hf dX11_rule_75
    have hf := (if_neg he_20).symm.trans hf
    by_cases he_21 : a1 = (4 : Int32)
    · have hf := (if_pos he_21).symm.trans hf
      refine lv_tableIn (off := 66) (tgt := 76) hx hb dX11_rule_10 (by rw [he_21]; decide) (by rw [he_21]; decide) (by rw [he_21]; rfl) (by decide) ?_
      refine lv_aload_n hx hb dX11_rule_76 rfl (lv_at hl 0 rfl) ?_
      refine am_get hx hb hts hK hown hH (am_o11 (p := 0) (by decide +kernel)) rfl am_inX11 2 (by decide) am_q333 (v := .ref (G.1 + 11)) rfl dX11_rule_77 ?_
      obtain ⟨r_24, w_22, hq_23, hf⟩ := am_b2_some hf
      refine am_calli (r := r_24) (w' := w_22) (am_runV (n := 0) (As := []) (rest := []) ⟨hx, hb, hml, hown, hts⟩ hK hE hH (k_X1_allSlots (by decide +kernel) hq_23) (am_gV am_q629 am_q630 am_q631 am_q3 am_q632) (am_o1 (p := 11) (by decide +kernel)) rfl ⟨rfl, rfl⟩ (by decide +kernel) ⟨Nat.le_of_ble_eq_true rfl, Nat.le_of_ble_eq_true rfl⟩ rfl hl.1 rfl (Nat.le_of_ble_eq_true rfl) ⟨Nat.zero_le _, Nat.zero_le _⟩ dX11_rule_80) hH (fun H locs hH => ?_)
      exact am_reti hx hb hr hlocks hH hf dX11_rule_83
    have hf := (if_neg he_21).symm.trans hf
    have nhe_17 := am_tne (k := 0) (0 : Int32) (by decide) he_17
    have nhe_18 := am_tne (k := 1) (1 : Int32) (by decide) he_18
    have nhe_19 := am_tne (k := 2) (2 : Int32) (by decide) he_19
    have nhe_20 := am_tne (k := 3) (3 : Int32) (by decide) he_20
    have nhe_21 := am_tne (k := 4) (4 : Int32) (by decide) he_21
    refine lv_tableOut (tgt := 84) hx hb dX11_rule_10 (by omega) (by decide) ?_
    refine lv_iconst (v := -1) hx hb dX11_rule_84 (by decide) ?_
    exact am_reti hx hb hr hlocks hH hf dX11_rule_85
  · have hf := (if_neg hc_16).symm.trans hf
    refine lv_iconst (v := -1) hx hb dX11_rule_7 (by decide) ?_
    exact am_reti hx hb hr hlocks hH hf dX11_rule_8

def f_X11_tryOut_2b (o1 : Nat) (x2 : Int32) (w : am_S) : Option ((Int32 × am_S) ⊕ (Int32 × am_S)) :=
  if (w.1 o1 2) ≤ x2 then (am_x (some (w.1 o1 2, w))) else (am_b2 (f_X8_sortOf o1 x2 w) fun r_19 w_17 => am_chk x2 16 (am_v (w_17.1 (o1 + 2) x2.toNatClampNeg) fun (x4_21 : Int32) => am_b2 (f_X2_refusalOf 28 r_19 x4_21 (-1 : Int32) w_17) fun r_24 w_22 => if r_24 = (-1 : Int32) then (am_b2 (f_X2_carryOut 28 r_19 x4_21 (-1 : Int32) (x4_21.toInt64) w_22) fun r_28 w_26 => am_v (x2 + (1 : Int32)) fun (x2_29 : Int32) => some (.inr (x2_29, w_26))) else (am_x (some (x2, w_22)))))
def f_X11_tryOut_2 (o1 : Nat) (x2 : Int32) (w : am_S) : Option (Int32 × am_S) :=
  am_loop (fun (st : (Int32 × am_S)) => f_X11_tryOut_2b o1 st.1 st.2) am_fuel (x2, w)
def f_X11_tryOut (o1 : Nat) (w : am_S) : Option (Int32 × am_S) :=
  f_X11_tryOut_2 o1 (0 : Int32) w
set_option maxRecDepth 100000 in
set_option maxHeartbeats 4000000 in
theorem k_X11_tryOut {G : am_G} {l : Launch} {o1 : Nat} (ho1 : am_f8 o1) {w : am_S} {rr : Int32} {ww : am_S} (hf : f_X11_tryOut o1 w = some (rr, ww)) : am_Mi G l yX11_tryOut (Cond.code yX11_tryOut cX11_tryOut 5 (some .int) :: am_T) { frames := 5, cells := 0, slots := 0, locals := 320 } [.ref (G.1 + 0), .ref (G.1 + o1)] w rr ww := by
  refine Met.ofW (cc := cX11_tryOut) (maxL := 5) (ret := (some .int)) (by decide) rfl ?_
  intro p e s m args below meth c s₁ B hml hv
  obtain ⟨rfl, hx, hb, hr, hts, hown, hlocks, hK, hE, hH⟩ := am_begin B hv
  have hown : s.vm.findClass RX11 = some m.cls := hown
  show W p l e { frames := 5, cells := 0, slots := 0, locals := 320 } s m _ below meth c s.heap [] 0 0 _ _
  have P2 : ∀ (n1 : Nat) (x2 : Int32) (w : am_S) (H : Heap) (locs : List Loc) (ls : Array Slot), am_loop (fun (st : (Int32 × am_S)) => f_X11_tryOut_2b o1 st.1 st.2) n1 (x2, w) = some (rr, ww) → am_H G w s H locs → lv_has ls 5 [(0, .ref (G.1 + 0)), (1, .ref (G.1 + o1)), (2, .int x2)] → W p l e { frames := 5, cells := 0, slots := 0, locals := 320 } s m [.ref (G.1 + 0), .ref (G.1 + o1)].toArray below meth c H locs 0 0 (MQ below (va_Qi (fun (x : Int32) (u : am_S) => x = rr ∧ u = ww) (am_U G) (am_A G)) [.ref (G.1 + 0), .ref (G.1 + o1)].toArray s 0 0 (am_A G)) (F0 m 2 ls []) := by
    intro n1
    induction n1 with
    | zero =>
      intro x2 w H locs ls hf hH hl
      exact (am_loop_zero hf).elim
    | succ n1 ih1 =>
      intro x2 w H locs ls hf hH hl
      obtain ⟨z1, hf, hk1⟩ := am_loop_succ hf
      have hf : f_X11_tryOut_2b o1 x2 w = some z1 := hf
      unfold f_X11_tryOut_2b at hf
      refine lv_iload_n hx hb dX11_tryOut_2 rfl (lv_at hl 2 rfl) ?_
      refine lv_aload_n hx hb dX11_tryOut_3 rfl (lv_at hl 1 rfl) ?_
      refine am_get hx hb hts hK hown hH (am_o8 ho1.1) rfl am_inX8 2 (by decide) am_q158 (v := .int (w.1 o1 2)) rfl dX11_tryOut_4 ?_
      refine lv_icmp_ge (tgt := 70) hx hb dX11_tryOut_7 (by decide) (fun hc_15 => ?_) (fun hc_15 => ?_)
      · have hf := (if_pos hc_15).symm.trans hf
        obtain ⟨y_16, hf, hzy_16⟩ := am_x_some hf
        rw [hzy_16] at hk1
        have hf := hf.trans (congrArg some (show y_16 = (rr, ww) from hk1))
        refine lv_aload_n hx hb dX11_tryOut_70 rfl (lv_at hl 1 rfl) ?_
        refine am_get hx hb hts hK hown hH (am_o8 ho1.1) rfl am_inX8 2 (by decide) am_q158 (v := .int (w.1 o1 2)) rfl dX11_tryOut_71 ?_
        exact am_reti hx hb hr hlocks hH hf dX11_tryOut_74
      · have hf := (if_neg hc_15).symm.trans hf
        refine lv_aload_n hx hb dX11_tryOut_10 rfl (lv_at hl 1 rfl) ?_
        refine lv_iload_n hx hb dX11_tryOut_11 rfl (lv_at hl 2 rfl) ?_
        obtain ⟨r_19, w_17, hq_18, hf⟩ := am_b2_some hf
        refine am_calli (r := r_19) (w' := w_17) (am_runV (n := 1) (As := [.int x2]) (rest := []) ⟨hx, hb, hml, hown, hts⟩ hK hE hH (k_X8_sortOf ho1 hq_18) (am_gV am_q1178 am_q1179 am_q1180 am_q4 am_q1181) (am_o8 ho1.1) rfl ⟨rfl, rfl⟩ (by decide +kernel) ⟨Nat.le_of_ble_eq_true rfl, Nat.le_of_ble_eq_true rfl⟩ rfl hl.1 rfl (Nat.le_of_ble_eq_true rfl) ⟨Nat.zero_le _, Nat.zero_le _⟩ dX11_tryOut_12) hH (fun H locs hH => ?_)
        refine lv_istore_n (lv' := [(3, .int r_19), (0, .ref (G.1 + 0)), (1, .ref (G.1 + o1)), (2, .int x2)]) hx hb dX11_tryOut_15 rfl hl (by decide) rfl (fun ls hl => ?_)
        refine lv_aload_n hx hb dX11_tryOut_16 rfl (lv_at hl 2 rfl) ?_
        refine am_get hx hb hts hK hown hH (am_o8 ho1.1) rfl am_inX8 1 (by decide) am_q156 (v := .ref (G.1 + (o1 + 2))) rfl dX11_tryOut_17 ?_
        refine lv_iload_n hx hb dX11_tryOut_20 rfl (lv_at hl 3 rfl) ?_
        obtain ⟨hi_20, hf⟩ := am_chk_some hf
        refine am_iald hx hb hK hH (am_ai_of (N := 16) ho1.2.2) hi_20 dX11_tryOut_21 ?_
        obtain ⟨x4_21, hx4_21, hf⟩ := am_v_some hf
        refine am_topi hx4_21 ?_
        refine lv_istore (lv' := [(4, .int x4_21), (3, .int r_19), (0, .ref (G.1 + 0)), (1, .ref (G.1 + o1)), (2, .int x2)]) hx hb dX11_tryOut_22 hl (by decide) rfl (fun ls hl => ?_)
        refine lv_aload_n hx hb dX11_tryOut_24 rfl (lv_at hl 2 rfl) ?_
        refine am_get hx hb hts hK hown hH (am_o11 (p := 0) (by decide +kernel)) rfl am_inX11 14 (by decide) am_q345 (v := .ref (G.1 + 255)) rfl dX11_tryOut_25 ?_
        refine lv_aload_n hx hb dX11_tryOut_28 rfl (lv_at hl 2 rfl) ?_
        refine am_get hx hb hts hK hown hH (am_o11 (p := 0) (by decide +kernel)) rfl am_inX11 6 (by decide) am_q337 (v := .ref (G.1 + 28)) rfl dX11_tryOut_29 ?_
        refine lv_iload_n hx hb dX11_tryOut_32 rfl (lv_at hl 1 rfl) ?_
        refine lv_iload hx hb dX11_tryOut_33 (lv_at hl 0 rfl) ?_
        refine lv_iconst (v := -1) hx hb dX11_tryOut_35 (by decide) ?_
        obtain ⟨r_24, w_22, hq_23, hf⟩ := am_b2_some hf
        refine am_calli (r := r_24) (w' := w_22) (am_runV (n := 4) (As := [.ref (G.1 + 28), .int r_19, .int x4_21, .int (-1 : Int32)]) (rest := []) ⟨hx, hb, hml, hown, hts⟩ hK hE hH (k_X2_refusalOf (by decide +kernel) hq_23) (am_gV am_q733 am_q734 am_q735 am_q10 am_q736) (am_o2 (p := 255) (by decide +kernel)) rfl ⟨rfl, rfl⟩ (by decide +kernel) ⟨Nat.le_of_ble_eq_true rfl, Nat.le_of_ble_eq_true rfl⟩ rfl hl.1 rfl (Nat.le_of_ble_eq_true rfl) ⟨Nat.zero_le _, Nat.zero_le _⟩ dX11_tryOut_36) hH (fun H locs hH => ?_)
        refine lv_iconst (v := -1) hx hb dX11_tryOut_39 (by decide) ?_
        refine lv_icmp_eq (tgt := 45) hx hb dX11_tryOut_40 (by decide) (fun hc_25 => ?_) (fun hc_25 => ?_)
        · have hf := (if_pos hc_25).symm.trans hf
          refine lv_aload_n hx hb dX11_tryOut_45 rfl (lv_at hl 2 rfl) ?_
          refine am_get hx hb hts hK hown hH (am_o11 (p := 0) (by decide +kernel)) rfl am_inX11 14 (by decide) am_q345 (v := .ref (G.1 + 255)) rfl dX11_tryOut_46 ?_
          refine lv_aload_n hx hb dX11_tryOut_49 rfl (lv_at hl 2 rfl) ?_
          refine am_get hx hb hts hK hown hH (am_o11 (p := 0) (by decide +kernel)) rfl am_inX11 6 (by decide) am_q337 (v := .ref (G.1 + 28)) rfl dX11_tryOut_50 ?_
          refine lv_iload_n hx hb dX11_tryOut_53 rfl (lv_at hl 1 rfl) ?_
          refine lv_iload hx hb dX11_tryOut_54 (lv_at hl 0 rfl) ?_
          refine lv_iconst (v := -1) hx hb dX11_tryOut_56 (by decide) ?_
          refine lv_iload hx hb dX11_tryOut_57 (lv_at hl 0 rfl) ?_
          refine lv_i2l hx hb dX11_tryOut_59 rfl ?_
          obtain ⟨r_28, w_26, hq_27, hf⟩ := am_b2_some hf
          refine am_calli (r := r_28) (w' := w_26) (am_runV (n := 5) (As := [.ref (G.1 + 28), .int r_19, .int x4_21, .int (-1 : Int32), .long (x4_21.toInt64)]) (rest := []) ⟨hx, hb, hml, hown, hts⟩ hK hE hH (k_X2_carryOut (by decide +kernel) hq_27) (am_gV am_q781 am_q782 am_q783 am_q10 am_q784) (am_o2 (p := 255) (by decide +kernel)) rfl ⟨rfl, rfl⟩ (by decide +kernel) ⟨Nat.le_of_ble_eq_true rfl, Nat.le_of_ble_eq_true rfl⟩ rfl hl.1 rfl (Nat.le_of_ble_eq_true rfl) ⟨Nat.zero_le _, Nat.zero_le _⟩ dX11_tryOut_60) hH (fun H locs hH => ?_)
          refine lv_pop hx hb dX11_tryOut_63 rfl ?_
          obtain ⟨x2_29, hx2_29, hf⟩ := am_v_some hf
          refine lv_iinc (v := x2_29) (lv' := [(2, .int x2_29), (4, .int x4_21), (3, .int r_19), (0, .ref (G.1 + 0)), (1, .ref (G.1 + o1))]) hx hb dX11_tryOut_64 hl (k := 4) rfl (by rw [hx2_29]; rfl) (by decide) rfl (fun ls hl => ?_)
          refine lv_goto (tgt := 2) hx hb dX11_tryOut_67 (by decide) ?_
          obtain rfl := Option.some.inj hf
          exact ih1 x2_29 w_26 H locs ls hk1 hH (lv_sub hl [3, 4, 0] rfl)
        · have hf := (if_neg hc_25).symm.trans hf
          obtain ⟨y_30, hf, hzy_30⟩ := am_x_some hf
          rw [hzy_30] at hk1
          have hf := hf.trans (congrArg some (show y_30 = (rr, ww) from hk1))
          refine lv_iload_n hx hb dX11_tryOut_43 rfl (lv_at hl 4 rfl) ?_
          exact am_reti hx hb hr hlocks hH hf dX11_tryOut_44
  refine am_enter (lv := [(0, .ref (G.1 + 0)), (1, .ref (G.1 + o1))]) (Nat.le_of_ble_eq_true rfl) rfl (fun ls hl => ?_)
  unfold f_X11_tryOut at hf
  refine am_start hH (fun H locs hH => ?_)
  refine lv_iconst (v := 0) hx hb dX11_tryOut_0 (by decide) ?_
  refine lv_istore_n (lv' := [(2, .int (0 : Int32)), (0, .ref (G.1 + 0)), (1, .ref (G.1 + o1))]) hx hb dX11_tryOut_1 rfl hl (by decide) rfl (fun ls hl => ?_)
  exact P2 am_fuel (0 : Int32) w H locs ls hf hH (lv_sub hl [1, 2, 0] rfl)

def f_X11_run_24 (a1 : Int32) (a2 : Int32) (w : am_S) : Option (Int32 × am_S) :=
  some ((-1000000 : Int32), w)
def f_X11_run_80 (a1 : Int32) (a2 : Int32) (s0 : Int32) (w : am_S) : Option (Int32 × am_S) :=
  some (s0, w)
def f_X11_run (a1 : Int32) (a2 : Int32) (w : am_S) : Option (Int32 × am_S) :=
  am_b2 (f_X11_noScript a1 w) fun r_25 w_23 => if r_25 = 0 then (am_b2 (f_X11_noField w_23) fun r_29 w_27 => if r_29 = 0 then (if a2 < 0 then (f_X11_run_24 a1 a2 w_27) else (if a2 ≤ (1 : Int32) then (am_b1 (f_X9_takeFrom 28 23 w_27) fun w_33 => am_chk a1 4 (am_b2 (f_X11_tryOut (259 + 3 * a1.toNatClampNeg) w_33) fun r_38 w_36 => if a2 = (1 : Int32) then (am_b2 (f_X9_knownCount 28 w_36) fun r_44 w_42 => some (r_44, w_42)) else (am_chk a1 4 (if r_38 = (w_36.1 (259 + 3 * a1.toNatClampNeg) 2) then (f_X11_run_80 a1 a2 (-1 : Int32) w_36) else (f_X11_run_80 a1 a2 r_38 w_36))))) else (f_X11_run_24 a1 a2 w_27))) else (f_X11_run_24 a1 a2 w_27)) else (f_X11_run_24 a1 a2 w_23)
set_option maxRecDepth 100000 in
set_option maxHeartbeats 4000000 in
theorem k_X11_run {G : am_G} {l : Launch} {a1 : Int32} {a2 : Int32}  {w : am_S} {rr : Int32} {ww : am_S} (hf : f_X11_run a1 a2 w = some (rr, ww)) : am_Mi G l yX11_run (Cond.code yX11_run cX11_run 4 (some .int) :: am_T) { frames := 6, cells := 0, slots := 0, locals := 384 } [.ref (G.1 + 0), .int a1, .int a2] w rr ww := by
  refine Met.ofW (cc := cX11_run) (maxL := 4) (ret := (some .int)) (by decide) rfl ?_
  intro p e s m args below meth c s₁ B hml hv
  obtain ⟨rfl, hx, hb, hr, hts, hown, hlocks, hK, hE, hH⟩ := am_begin B hv
  have hown : s.vm.findClass RX11 = some m.cls := hown
  show W p l e { frames := 6, cells := 0, slots := 0, locals := 384 } s m _ below meth c s.heap [] 0 0 _ _
  have P24 : ∀ (w : am_S) (H : Heap) (locs : List Loc) (ls : Array Slot), f_X11_run_24 a1 a2 w = some (rr, ww) → am_H G w s H locs → lv_has ls 4 [] → W p l e { frames := 6, cells := 0, slots := 0, locals := 384 } s m [.ref (G.1 + 0), .int a1, .int a2].toArray below meth c H locs 0 0 (MQ below (va_Qi (fun (x : Int32) (u : am_S) => x = rr ∧ u = ww) (am_U G) (am_A G)) [.ref (G.1 + 0), .int a1, .int a2].toArray s 0 0 (am_A G)) (F0 m 24 ls []) := by
    intro w H locs ls hf hH hl
    unfold f_X11_run_24 at hf
    refine lv_ldc (v := -1000000) hx hb hown (hts _ am_q714) dX11_run_24 ?_
    exact am_reti hx hb hr hlocks hH hf dX11_run_26
  have P80 : ∀ (s0 : Int32) (w : am_S) (H : Heap) (locs : List Loc) (ls : Array Slot), f_X11_run_80 a1 a2 s0 w = some (rr, ww) → am_H G w s H locs → lv_has ls 4 [] → W p l e { frames := 6, cells := 0, slots := 0, locals := 384 } s m [.ref (G.1 + 0), .int a1, .int a2].toArray below meth c H locs 0 0 (MQ below (va_Qi (fun (x : Int32) (u : am_S) => x = rr ∧ u = ww) (am_U G) (am_A G)) [.ref (G.1 + 0), .int a1, .int a2].toArray s 0 0 (am_A G)) (F0 m 80 ls [.int s0]) := by
    intro s0 w H locs ls hf hH hl
    unfold f_X11_run_80 at hf
    exact am_reti hx hb hr hlocks hH hf dX11_run_80
  refine am_enter (lv := [(0, .ref (G.1 + 0)), (1, .int a1), (2, .int a2)]) (Nat.le_of_ble_eq_true rfl) rfl (fun ls hl => ?_)
  unfold f_X11_run at hf
  refine am_start hH (fun H locs hH => ?_)
  refine lv_aload_n hx hb dX11_run_0 rfl (lv_at hl 0 rfl) ?_
  refine lv_iload_n hx hb dX11_run_1 rfl (lv_at hl 1 rfl) ?_
  obtain ⟨r_25, w_23, hq_24, hf⟩ := am_b2_some hf
  refine am_calli (r := r_25) (w' := w_23) (am_runV (n := 1) (As := [.int a1]) (rest := []) ⟨hx, hb, hml, hown, hts⟩ hK hE hH (k_X11_noScript hq_24) (am_gV am_q1165 am_q1167 am_qs42 am_q1 am_q1168) (am_o11 (p := 0) (by decide +kernel)) rfl ⟨rfl, rfl⟩ (by decide +kernel) ⟨Nat.le_of_ble_eq_true rfl, Nat.le_of_ble_eq_true rfl⟩ rfl hl.1 rfl (Nat.le_of_ble_eq_true rfl) ⟨Nat.zero_le _, Nat.zero_le _⟩ dX11_run_2) hH (fun H locs hH => ?_)
  refine lv_if_ne (tgt := 24) hx hb dX11_run_5 (by decide) (fun hc_26 => ?_) (fun hc_26 => ?_)
  · have hf := (if_neg hc_26).symm.trans hf
    exact P24 w_23 H locs ls hf hH (lv_sub hl [] rfl)
  · have hf := (if_pos hc_26).symm.trans hf
    refine lv_aload_n hx hb dX11_run_8 rfl (lv_at hl 0 rfl) ?_
    obtain ⟨r_29, w_27, hq_28, hf⟩ := am_b2_some hf
    refine am_calli (r := r_29) (w' := w_27) (am_runV (n := 0) (As := []) (rest := []) ⟨hx, hb, hml, hown, hts⟩ hK hE hH (k_X11_noField hq_28) (am_gV am_q625 am_q627 am_qs11 am_q1 am_q628) (am_o11 (p := 0) (by decide +kernel)) rfl ⟨rfl, rfl⟩ (by decide +kernel) ⟨Nat.le_of_ble_eq_true rfl, Nat.le_of_ble_eq_true rfl⟩ rfl hl.1 rfl (Nat.le_of_ble_eq_true rfl) ⟨Nat.zero_le _, Nat.zero_le _⟩ dX11_run_9) hH (fun H locs hH => ?_)
    refine lv_if_ne (tgt := 24) hx hb dX11_run_12 (by decide) (fun hc_30 => ?_) (fun hc_30 => ?_)
    · have hf := (if_neg hc_30).symm.trans hf
      exact P24 w_27 H locs ls hf hH (lv_sub hl [] rfl)
    · have hf := (if_pos hc_30).symm.trans hf
      refine lv_iload_n hx hb dX11_run_15 rfl (lv_at hl 2 rfl) ?_
      refine lv_if_lt (tgt := 24) hx hb dX11_run_16 (by decide) (fun hc_31 => ?_) (fun hc_31 => ?_)
      · have hf := (if_pos hc_31).symm.trans hf
        exact P24 w_27 H locs ls hf hH (lv_sub hl [] rfl)
      · have hf := (if_neg hc_31).symm.trans hf
        refine lv_iload_n hx hb dX11_run_19 rfl (lv_at hl 2 rfl) ?_
        refine lv_iconst (v := 1) hx hb dX11_run_20 (by decide) ?_
        refine lv_icmp_le (tgt := 27) hx hb dX11_run_21 (by decide) (fun hc_32 => ?_) (fun hc_32 => ?_)
        · have hf := (if_pos hc_32).symm.trans hf
          refine lv_aload_n hx hb dX11_run_27 rfl (lv_at hl 0 rfl) ?_
          refine am_get hx hb hts hK hown hH (am_o11 (p := 0) (by decide +kernel)) rfl am_inX11 6 (by decide) am_q337 (v := .ref (G.1 + 28)) rfl dX11_run_28 ?_
          refine lv_aload_n hx hb dX11_run_31 rfl (lv_at hl 0 rfl) ?_
          refine am_get hx hb hts hK hown hH (am_o11 (p := 0) (by decide +kernel)) rfl am_inX11 5 (by decide) am_q336 (v := .ref (G.1 + 23)) rfl dX11_run_32 ?_
          obtain ⟨w_33, hq_34, hf⟩ := am_b1_some hf
          refine am_callv (w' := w_33) (am_runV (n := 1) (As := [.ref (G.1 + 23)]) (rest := []) ⟨hx, hb, hml, hown, hts⟩ hK hE hH (k_X9_takeFrom (by decide +kernel) (by decide +kernel) hq_34) (am_gV am_q1173 am_q776 am_q777 am_q5 am_q778) (am_o9 (p := 28) (by decide +kernel)) rfl ⟨rfl, rfl⟩ (by decide +kernel) ⟨Nat.le_of_ble_eq_true rfl, Nat.le_of_ble_eq_true rfl⟩ rfl hl.1 rfl (Nat.le_of_ble_eq_true rfl) ⟨Nat.zero_le _, Nat.zero_le _⟩ dX11_run_35) hH (fun H locs hH => ?_)
          refine lv_aload_n hx hb dX11_run_38 rfl (lv_at hl 0 rfl) ?_
          refine lv_aload_n hx hb dX11_run_39 rfl (lv_at hl 0 rfl) ?_
          refine am_get hx hb hts hK hown hH (am_o11 (p := 0) (by decide +kernel)) rfl am_inX11 4 (by decide) am_q335 (v := .ref (G.1 + 22)) rfl dX11_run_40 ?_
          refine lv_iload_n hx hb dX11_run_43 rfl (lv_at hl 1 rfl) ?_
          obtain ⟨hi_35, hf⟩ := am_chk_some hf
          refine am_aald4 hx hb hK hH hi_35 dX11_run_44 ?_
          obtain ⟨r_38, w_36, hq_37, hf⟩ := am_b2_some hf
          refine am_calli (r := r_38) (w' := w_36) (am_runV (n := 1) (As := [.ref (G.1 + (259 + 3 * a1.toNatClampNeg))]) (rest := []) ⟨hx, hb, hml, hown, hts⟩ hK hE hH (k_X11_tryOut (am_row4 hi_35) hq_37) (am_gV am_q1174 am_q1176 am_qs43 am_q1 am_q1177) (am_o11 (p := 0) (by decide +kernel)) rfl ⟨rfl, rfl⟩ (by decide +kernel) ⟨Nat.le_of_ble_eq_true rfl, Nat.le_of_ble_eq_true rfl⟩ rfl hl.1 rfl (Nat.le_of_ble_eq_true rfl) ⟨Nat.zero_le _, Nat.zero_le _⟩ dX11_run_45) hH (fun H locs hH => ?_)
          refine lv_istore_n (lv' := [(3, .int r_38), (0, .ref (G.1 + 0)), (1, .int a1), (2, .int a2)]) hx hb dX11_run_48 rfl hl (by decide) rfl (fun ls hl => ?_)
          refine lv_iload_n hx hb dX11_run_49 rfl (lv_at hl 3 rfl) ?_
          refine lv_iconst (v := 1) hx hb dX11_run_50 (by decide) ?_
          refine lv_icmp_ne (tgt := 62) hx hb dX11_run_51 (by decide) (fun hc_39 => ?_) (fun hc_39 => ?_)
          · have hf := (if_neg hc_39).symm.trans hf
            refine lv_iload_n hx hb dX11_run_62 rfl (lv_at hl 0 rfl) ?_
            refine lv_aload_n hx hb dX11_run_63 rfl (lv_at hl 1 rfl) ?_
            refine am_get hx hb hts hK hown hH (am_o11 (p := 0) (by decide +kernel)) rfl am_inX11 4 (by decide) am_q335 (v := .ref (G.1 + 22)) rfl dX11_run_64 ?_
            refine lv_iload_n hx hb dX11_run_67 rfl (lv_at hl 2 rfl) ?_
            obtain ⟨hi_40, hf⟩ := am_chk_some hf
            refine am_aald4 hx hb hK hH hi_40 dX11_run_68 ?_
            refine am_get hx hb hts hK hown hH (am_o8 (am_row4 hi_40).1) rfl am_inX8 2 (by decide) am_q158 (v := .int (w_36.1 (259 + 3 * a1.toNatClampNeg) 2)) rfl dX11_run_69 ?_
            refine lv_icmp_ne (tgt := 79) hx hb dX11_run_72 (by decide) (fun hc_41 => ?_) (fun hc_41 => ?_)
            · have hf := (if_neg hc_41).symm.trans hf
              refine lv_iload_n hx hb dX11_run_79 rfl (lv_at hl 0 rfl) ?_
              exact P80 r_38 w_36 H locs ls hf hH (lv_sub hl [] rfl)
            · have hf := (if_pos hc_41).symm.trans hf
              refine lv_iconst (v := -1) hx hb dX11_run_75 (by decide) ?_
              refine lv_goto (tgt := 80) hx hb dX11_run_76 (by decide) ?_
              exact P80 (-1 : Int32) w_36 H locs ls hf hH (lv_sub hl [] rfl)
          · have hf := (if_pos hc_39).symm.trans hf
            refine lv_aload_n hx hb dX11_run_54 rfl (lv_at hl 1 rfl) ?_
            refine am_get hx hb hts hK hown hH (am_o11 (p := 0) (by decide +kernel)) rfl am_inX11 6 (by decide) am_q337 (v := .ref (G.1 + 28)) rfl dX11_run_55 ?_
            obtain ⟨r_44, w_42, hq_43, hf⟩ := am_b2_some hf
            refine am_calli (r := r_44) (w' := w_42) (am_runV (n := 0) (As := []) (rest := []) ⟨hx, hb, hml, hown, hts⟩ hK hE hH (k_X9_knownCount (by decide +kernel) hq_43) (am_gV am_q858 am_q807 am_q808 am_q5 am_q809) (am_o9 (p := 28) (by decide +kernel)) rfl ⟨rfl, rfl⟩ (by decide +kernel) ⟨Nat.le_of_ble_eq_true rfl, Nat.le_of_ble_eq_true rfl⟩ rfl hl.1 rfl (Nat.le_of_ble_eq_true rfl) ⟨Nat.zero_le _, Nat.zero_le _⟩ dX11_run_58) hH (fun H locs hH => ?_)
            exact am_reti hx hb hr hlocks hH hf dX11_run_61
        · have hf := (if_neg hc_32).symm.trans hf
          exact P24 w_27 H locs ls hf hH (lv_sub hl [] rfl)

def f_X11_sample (a1 : Int64) (w : am_S) : Option (Int32 × am_S) :=
  am_b2 (f_X11_noDegrees w) fun r_12 w_10 => if r_12 = 0 then (am_b1 (f_X0_begin 249 a1 w_10) fun w_14 => am_b2 (f_X0_castDegree 249 11 w_14) fun r_18 w_16 => some (r_18, w_16)) else (some ((-1 : Int32), w_10))
set_option maxRecDepth 100000 in
set_option maxHeartbeats 4000000 in
theorem k_X11_sample {G : am_G} {l : Launch} {a1 : Int64}  {w : am_S} {rr : Int32} {ww : am_S} (hf : f_X11_sample a1 w = some (rr, ww)) : am_Mi G l yX11_sample (Cond.code yX11_sample cX11_sample 3 (some .int) :: am_T) { frames := 2, cells := 0, slots := 0, locals := 128 } [.ref (G.1 + 0), .long a1] w rr ww := by
  refine Met.ofW (cc := cX11_sample) (maxL := 3) (ret := (some .int)) (by decide) rfl ?_
  intro p e s m args below meth c s₁ B hml hv
  obtain ⟨rfl, hx, hb, hr, hts, hown, hlocks, hK, hE, hH⟩ := am_begin B hv
  have hown : s.vm.findClass RX11 = some m.cls := hown
  show W p l e { frames := 2, cells := 0, slots := 0, locals := 128 } s m _ below meth c s.heap [] 0 0 _ _
  refine am_enter (lv := [(0, .ref (G.1 + 0)), (1, .long a1)]) (Nat.le_of_ble_eq_true rfl) rfl (fun ls hl => ?_)
  unfold f_X11_sample at hf
  refine am_start hH (fun H locs hH => ?_)
  refine lv_aload_n hx hb dX11_sample_0 rfl (lv_at hl 0 rfl) ?_
  obtain ⟨r_12, w_10, hq_11, hf⟩ := am_b2_some hf
  refine am_calli (r := r_12) (w' := w_10) (am_runV (n := 0) (As := []) (rest := []) ⟨hx, hb, hml, hown, hts⟩ hK hE hH (k_X11_noDegrees hq_11) (am_gV am_q1117 am_q1119 am_qs38 am_q1 am_q1120) (am_o11 (p := 0) (by decide +kernel)) rfl ⟨rfl, rfl⟩ (by decide +kernel) ⟨Nat.le_of_ble_eq_true rfl, Nat.le_of_ble_eq_true rfl⟩ rfl hl.1 rfl (Nat.le_of_ble_eq_true rfl) ⟨Nat.zero_le _, Nat.zero_le _⟩ dX11_sample_1) hH (fun H locs hH => ?_)
  refine lv_if_eq (tgt := 9) hx hb dX11_sample_4 (by decide) (fun hc_13 => ?_) (fun hc_13 => ?_)
  · have hf := (if_pos hc_13).symm.trans hf
    refine lv_aload_n hx hb dX11_sample_9 rfl (lv_at hl 0 rfl) ?_
    refine am_get hx hb hts hK hown hH (am_o11 (p := 0) (by decide +kernel)) rfl am_inX11 12 (by decide) am_q343 (v := .ref (G.1 + 249)) rfl dX11_sample_10 ?_
    refine lv_lload_n hx hb dX11_sample_13 rfl (lv_at hl 1 rfl) ?_
    obtain ⟨w_14, hq_15, hf⟩ := am_b1_some hf
    refine am_callv (w' := w_14) (am_runV (n := 1) (As := [.long a1]) (rest := []) ⟨hx, hb, hml, hown, hts⟩ hK hE hH (k_X0_begin (by decide +kernel) hq_15) (am_gV am_q903 am_q827 am_q828 am_q8 am_q829) (am_o0 (p := 249) (by decide +kernel)) rfl ⟨rfl, rfl⟩ (by decide +kernel) ⟨Nat.le_of_ble_eq_true rfl, Nat.le_of_ble_eq_true rfl⟩ rfl hl.1 rfl (Nat.le_of_ble_eq_true rfl) ⟨Nat.zero_le _, Nat.zero_le _⟩ dX11_sample_14) hH (fun H locs hH => ?_)
    refine lv_aload_n hx hb dX11_sample_17 rfl (lv_at hl 0 rfl) ?_
    refine am_get hx hb hts hK hown hH (am_o11 (p := 0) (by decide +kernel)) rfl am_inX11 12 (by decide) am_q343 (v := .ref (G.1 + 249)) rfl dX11_sample_18 ?_
    refine lv_aload_n hx hb dX11_sample_21 rfl (lv_at hl 0 rfl) ?_
    refine am_get hx hb hts hK hown hH (am_o11 (p := 0) (by decide +kernel)) rfl am_inX11 2 (by decide) am_q333 (v := .ref (G.1 + 11)) rfl dX11_sample_22 ?_
    obtain ⟨r_18, w_16, hq_17, hf⟩ := am_b2_some hf
    refine am_calli (r := r_18) (w' := w_16) (am_runV (n := 1) (As := [.ref (G.1 + 11)]) (rest := []) ⟨hx, hb, hml, hown, hts⟩ hK hE hH (k_X0_castDegree (by decide +kernel) (by decide +kernel) hq_17) (am_gV am_q1156 am_q831 am_q832 am_q8 am_q833) (am_o0 (p := 249) (by decide +kernel)) rfl ⟨rfl, rfl⟩ (by decide +kernel) ⟨Nat.le_of_ble_eq_true rfl, Nat.le_of_ble_eq_true rfl⟩ rfl hl.1 rfl (Nat.le_of_ble_eq_true rfl) ⟨Nat.zero_le _, Nat.zero_le _⟩ dX11_sample_25) hH (fun H locs hH => ?_)
    exact am_reti hx hb hr hlocks hH hf dX11_sample_28
  · have hf := (if_neg hc_13).symm.trans hf
    refine lv_iconst (v := -1) hx hb dX11_sample_7 (by decide) ?_
    exact am_reti hx hb hr hlocks hH hf dX11_sample_8

def f_X11_senders_17 (a1 : Int32) (w : am_S) : Option (Int32 × am_S) :=
  some ((-1 : Int32), w)
def f_X11_senders_56 (a1 : Int32) (x3 : Int32) (s0 : Int32) (s1 : Int32) (w : am_S) : Option ((Int32 × am_S) ⊕ (Int32 × Int32 × am_S)) :=
  am_v (s1 + s0) fun (x2_15 : Int32) => am_v (x3 + (1 : Int32)) fun (x3_16 : Int32) => some (.inr (x2_15, x3_16, w))
def f_X11_senders_23b (a1 : Int32) (x2 : Int32) (x3 : Int32) (w : am_S) : Option ((Int32 × am_S) ⊕ (Int32 × Int32 × am_S)) :=
  if (w.1 11 11) ≤ x3 then (am_x (some (x2, w))) else (am_chk x3 10 (am_b2 (f_J13_bitCount_95d88 (w.2.1 25 x3.toNatClampNeg) w) fun r_22 w_20 => if r_22 = a1 then (f_X11_senders_56 a1 x3 (1 : Int32) x2 w_20) else (f_X11_senders_56 a1 x3 (0 : Int32) x2 w_20)))
def f_X11_senders_23 (a1 : Int32) (x2 : Int32) (x3 : Int32) (w : am_S) : Option (Int32 × am_S) :=
  am_loop (fun (st : (Int32 × Int32 × am_S)) => f_X11_senders_23b a1 st.1 st.2.1 st.2.2) am_fuel (x2, x3, w)
def f_X11_senders (a1 : Int32) (w : am_S) : Option (Int32 × am_S) :=
  am_b2 (f_X11_noField w) fun r_26 w_24 => if r_26 = 0 then (if a1 < 0 then (f_X11_senders_17 a1 w_24) else (if a1 ≤ (24 : Int32) then (f_X11_senders_23 a1 (0 : Int32) (0 : Int32) w_24) else (f_X11_senders_17 a1 w_24))) else (f_X11_senders_17 a1 w_24)
set_option maxRecDepth 100000 in
set_option maxHeartbeats 4000000 in
theorem k_X11_senders {G : am_G} {l : Launch} {a1 : Int32}  {w : am_S} {rr : Int32} {ww : am_S} (hf : f_X11_senders a1 w = some (rr, ww)) : am_Mi G l yX11_senders (Cond.code yX11_senders cX11_senders 4 (some .int) :: am_T) { frames := 1, cells := 0, slots := 0, locals := 64 } [.ref (G.1 + 0), .int a1] w rr ww := by
  refine Met.ofW (cc := cX11_senders) (maxL := 4) (ret := (some .int)) (by decide) rfl ?_
  intro p e s m args below meth c s₁ B hml hv
  obtain ⟨rfl, hx, hb, hr, hts, hown, hlocks, hK, hE, hH⟩ := am_begin B hv
  have hown : s.vm.findClass RX11 = some m.cls := hown
  show W p l e { frames := 1, cells := 0, slots := 0, locals := 64 } s m _ below meth c s.heap [] 0 0 _ _
  have P17 : ∀ (w : am_S) (H : Heap) (locs : List Loc) (ls : Array Slot), f_X11_senders_17 a1 w = some (rr, ww) → am_H G w s H locs → lv_has ls 4 [] → W p l e { frames := 1, cells := 0, slots := 0, locals := 64 } s m [.ref (G.1 + 0), .int a1].toArray below meth c H locs 0 0 (MQ below (va_Qi (fun (x : Int32) (u : am_S) => x = rr ∧ u = ww) (am_U G) (am_A G)) [.ref (G.1 + 0), .int a1].toArray s 0 0 (am_A G)) (F0 m 17 ls []) := by
    intro w H locs ls hf hH hl
    unfold f_X11_senders_17 at hf
    refine lv_iconst (v := -1) hx hb dX11_senders_17 (by decide) ?_
    exact am_reti hx hb hr hlocks hH hf dX11_senders_18
  have P23 : ∀ (n1 : Nat) (x2 : Int32) (x3 : Int32) (w : am_S) (H : Heap) (locs : List Loc) (ls : Array Slot), am_loop (fun (st : (Int32 × Int32 × am_S)) => f_X11_senders_23b a1 st.1 st.2.1 st.2.2) n1 (x2, x3, w) = some (rr, ww) → am_H G w s H locs → lv_has ls 4 [(0, .ref (G.1 + 0)), (1, .int a1), (2, .int x2), (3, .int x3)] → W p l e { frames := 1, cells := 0, slots := 0, locals := 64 } s m [.ref (G.1 + 0), .int a1].toArray below meth c H locs 0 0 (MQ below (va_Qi (fun (x : Int32) (u : am_S) => x = rr ∧ u = ww) (am_U G) (am_A G)) [.ref (G.1 + 0), .int a1].toArray s 0 0 (am_A G)) (F0 m 23 ls []) := by
    intro n1
    induction n1 with
    | zero =>
      intro x2 x3 w H locs ls hf hH hl
      exact (am_loop_zero hf).elim
    | succ n1 ih1 =>
      intro x2 x3 w H locs ls hf hH hl
      obtain ⟨z1, hf, hk1⟩ := am_loop_succ hf
      have hf : f_X11_senders_23b a1 x2 x3 w = some z1 := hf
      have P56 : ∀ (x3 : Int32) (s0 : Int32) (s1 : Int32) (w : am_S) (z1 : ((Int32 × am_S) ⊕ (Int32 × Int32 × am_S))) (H : Heap) (locs : List Loc) (ls : Array Slot), f_X11_senders_56 a1 x3 s0 s1 w = some z1 → am_lk (fun (st : (Int32 × Int32 × am_S)) => f_X11_senders_23b a1 st.1 st.2.1 st.2.2) n1 (rr, ww) z1 → am_H G w s H locs → lv_has ls 4 [(0, .ref (G.1 + 0)), (1, .int a1), (3, .int x3)] → W p l e { frames := 1, cells := 0, slots := 0, locals := 64 } s m [.ref (G.1 + 0), .int a1].toArray below meth c H locs 0 0 (MQ below (va_Qi (fun (x : Int32) (u : am_S) => x = rr ∧ u = ww) (am_U G) (am_A G)) [.ref (G.1 + 0), .int a1].toArray s 0 0 (am_A G)) (F0 m 56 ls [.int s0, .int s1]) := by
        intro x3 s0 s1 w z1 H locs ls hf hk1 hH hl
        unfold f_X11_senders_56 at hf
        refine lv_iadd hx hb dX11_senders_56 ?_
        obtain ⟨x2_15, hx2_15, hf⟩ := am_v_some hf
        refine am_topi hx2_15 ?_
        refine lv_istore_n (lv' := [(2, .int x2_15), (0, .ref (G.1 + 0)), (1, .int a1), (3, .int x3)]) hx hb dX11_senders_57 rfl hl (by decide) rfl (fun ls hl => ?_)
        obtain ⟨x3_16, hx3_16, hf⟩ := am_v_some hf
        refine lv_iinc (v := x3_16) (lv' := [(3, .int x3_16), (2, .int x2_15), (0, .ref (G.1 + 0)), (1, .int a1)]) hx hb dX11_senders_58 hl (k := 3) rfl (by rw [hx3_16]; rfl) (by decide) rfl (fun ls hl => ?_)
        refine lv_goto (tgt := 23) hx hb dX11_senders_61 (by decide) ?_
        obtain rfl := Option.some.inj hf
        exact ih1 x2_15 x3_16 w H locs ls hk1 hH (lv_sub hl [2, 3, 1, 0] rfl)
      unfold f_X11_senders_23b at hf
      refine lv_iload_n hx hb dX11_senders_23 rfl (lv_at hl 3 rfl) ?_
      refine lv_aload_n hx hb dX11_senders_24 rfl (lv_at hl 0 rfl) ?_
      refine am_get hx hb hts hK hown hH (am_o11 (p := 0) (by decide +kernel)) rfl am_inX11 2 (by decide) am_q333 (v := .ref (G.1 + 11)) rfl dX11_senders_25 ?_
      refine am_get hx hb hts hK hown hH (am_o1 (p := 11) (by decide +kernel)) rfl am_inX1 11 (by decide) am_q106 (v := .int (w.1 11 11)) rfl dX11_senders_28 ?_
      refine lv_icmp_ge (tgt := 64) hx hb dX11_senders_31 (by decide) (fun hc_17 => ?_) (fun hc_17 => ?_)
      · have hf := (if_pos hc_17).symm.trans hf
        obtain ⟨y_18, hf, hzy_18⟩ := am_x_some hf
        rw [hzy_18] at hk1
        have hf := hf.trans (congrArg some (show y_18 = (rr, ww) from hk1))
        refine lv_iload_n hx hb dX11_senders_64 rfl (lv_at hl 2 rfl) ?_
        exact am_reti hx hb hr hlocks hH hf dX11_senders_65
      · have hf := (if_neg hc_17).symm.trans hf
        refine lv_iload_n hx hb dX11_senders_34 rfl (lv_at hl 2 rfl) ?_
        refine lv_aload_n hx hb dX11_senders_35 rfl (lv_at hl 0 rfl) ?_
        refine am_get hx hb hts hK hown hH (am_o11 (p := 0) (by decide +kernel)) rfl am_inX11 5 (by decide) am_q336 (v := .ref (G.1 + 23)) rfl dX11_senders_36 ?_
        refine am_get hx hb hts hK hown hH (am_o9 (p := 23) (by decide +kernel)) rfl am_inX9 1 (by decide) am_q179 (v := .ref (G.1 + 25)) rfl dX11_senders_39 ?_
        refine lv_iload_n hx hb dX11_senders_42 rfl (lv_at hl 3 rfl) ?_
        obtain ⟨hi_19, hf⟩ := am_chk_some hf
        refine am_lald hx hb hK hH (am_al_of (N := 10) (by decide +kernel)) hi_19 dX11_senders_43 ?_
        obtain ⟨r_22, w_20, hq_21, hf⟩ := am_b2_some hf
        refine am_calli (r := r_22) (w' := w_20) (am_runS (n := 1) (As := [.long (w.2.1 25 x3.toNatClampNeg)]) (rest := [.int x2]) ⟨hx, hb, hml, hown, hts⟩ hK hE hH (k_J13_bitCount_95d88 hq_21) (am_gS am_q988 am_q850 am_q28 am_q851) ⟨rfl, rfl⟩ (by decide +kernel) ⟨Nat.le_of_ble_eq_true rfl, Nat.le_of_ble_eq_true rfl⟩ rfl hl.1 rfl (Nat.le_of_ble_eq_true rfl) ⟨Nat.zero_le _, Nat.zero_le _⟩ dX11_senders_44) hH (fun H locs hH => ?_)
        refine lv_iload_n hx hb dX11_senders_47 rfl (lv_at hl 1 rfl) ?_
        refine lv_icmp_ne (tgt := 55) hx hb dX11_senders_48 (by decide) (fun hc_23 => ?_) (fun hc_23 => ?_)
        · have hf := (if_neg hc_23).symm.trans hf
          refine lv_iconst (v := 0) hx hb dX11_senders_55 (by decide) ?_
          exact P56 x3 (0 : Int32) x2 w_20 z1 H locs ls hf hk1 hH (lv_sub hl [0, 1, 3] rfl)
        · have hf := (if_pos hc_23).symm.trans hf
          refine lv_iconst (v := 1) hx hb dX11_senders_51 (by decide) ?_
          refine lv_goto (tgt := 56) hx hb dX11_senders_52 (by decide) ?_
          exact P56 x3 (1 : Int32) x2 w_20 z1 H locs ls hf hk1 hH (lv_sub hl [0, 1, 3] rfl)
  refine am_enter (lv := [(0, .ref (G.1 + 0)), (1, .int a1)]) (Nat.le_of_ble_eq_true rfl) rfl (fun ls hl => ?_)
  unfold f_X11_senders at hf
  refine am_start hH (fun H locs hH => ?_)
  refine lv_aload_n hx hb dX11_senders_0 rfl (lv_at hl 0 rfl) ?_
  obtain ⟨r_26, w_24, hq_25, hf⟩ := am_b2_some hf
  refine am_calli (r := r_26) (w' := w_24) (am_runV (n := 0) (As := []) (rest := []) ⟨hx, hb, hml, hown, hts⟩ hK hE hH (k_X11_noField hq_25) (am_gV am_q625 am_q627 am_qs11 am_q1 am_q628) (am_o11 (p := 0) (by decide +kernel)) rfl ⟨rfl, rfl⟩ (by decide +kernel) ⟨Nat.le_of_ble_eq_true rfl, Nat.le_of_ble_eq_true rfl⟩ rfl hl.1 rfl (Nat.le_of_ble_eq_true rfl) ⟨Nat.zero_le _, Nat.zero_le _⟩ dX11_senders_1) hH (fun H locs hH => ?_)
  refine lv_if_ne (tgt := 17) hx hb dX11_senders_4 (by decide) (fun hc_27 => ?_) (fun hc_27 => ?_)
  · have hf := (if_neg hc_27).symm.trans hf
    exact P17 w_24 H locs ls hf hH (lv_sub hl [] rfl)
  · have hf := (if_pos hc_27).symm.trans hf
    refine lv_iload_n hx hb dX11_senders_7 rfl (lv_at hl 1 rfl) ?_
    refine lv_if_lt (tgt := 17) hx hb dX11_senders_8 (by decide) (fun hc_28 => ?_) (fun hc_28 => ?_)
    · have hf := (if_pos hc_28).symm.trans hf
      exact P17 w_24 H locs ls hf hH (lv_sub hl [] rfl)
    · have hf := (if_neg hc_28).symm.trans hf
      refine lv_iload_n hx hb dX11_senders_11 rfl (lv_at hl 1 rfl) ?_
      refine lv_bipush (v := 24) hx hb dX11_senders_12 (by decide) ?_
      refine lv_icmp_le (tgt := 19) hx hb dX11_senders_14 (by decide) (fun hc_29 => ?_) (fun hc_29 => ?_)
      · have hf := (if_pos hc_29).symm.trans hf
        refine lv_iconst (v := 0) hx hb dX11_senders_19 (by decide) ?_
        refine lv_istore_n (lv' := [(2, .int (0 : Int32)), (0, .ref (G.1 + 0)), (1, .int a1)]) hx hb dX11_senders_20 rfl hl (by decide) rfl (fun ls hl => ?_)
        refine lv_iconst (v := 0) hx hb dX11_senders_21 (by decide) ?_
        refine lv_istore_n (lv' := [(3, .int (0 : Int32)), (2, .int (0 : Int32)), (0, .ref (G.1 + 0)), (1, .int a1)]) hx hb dX11_senders_22 rfl hl (by decide) rfl (fun ls hl => ?_)
        exact P23 am_fuel (0 : Int32) (0 : Int32) w_24 H locs ls hf hH (lv_sub hl [2, 3, 1, 0] rfl)
      · have hf := (if_neg hc_29).symm.trans hf
        exact P17 w_24 H locs ls hf hH (lv_sub hl [] rfl)

def f_X11_doubleBits_50 (a0 : UInt64) (x2 : UInt64) (x4 : Int64) (w : am_S) : Option (Int64 × am_S) :=
  am_n64 (FP.dsub x2 (FP.dconst1)) (am_n64 (FP.dmul (FP.dsub x2 (FP.dconst1)) (4841369599423283200 : UInt64)) (some ((am_lshl x4 (52 : Int32)) ||| (FP.d2l (FP.dmul (FP.dsub x2 (FP.dconst1)) (4841369599423283200 : UInt64))), w)))
def f_X11_doubleBits_18b (a0 : UInt64) (x2 : UInt64) (x4 : Int64) (x6 : Int32) (w : am_S) : Option ((Int64 × am_S) ⊕ (UInt64 × Int64 × Int32 × am_S)) :=
  if (1100 : Int32) ≤ x6 then (am_x (f_X11_doubleBits_50 a0 x2 x4 w)) else (if 0 ≤ (Op.cmpValue (FP.dcmp x2 (FP.dconst1)) .g) then (am_x (f_X11_doubleBits_50 a0 x2 x4 w)) else (am_n64 (FP.dmul x2 (4611686018427387904 : UInt64)) (am_v (FP.dmul x2 (4611686018427387904 : UInt64)) fun (x2_17 : UInt64) => am_v (x4 - (1 : Int64)) fun (x4_18 : Int64) => am_v (x6 + (1 : Int32)) fun (x6_19 : Int32) => some (.inr (x2_17, x4_18, x6_19, w)))))
def f_X11_doubleBits_18 (a0 : UInt64) (x2 : UInt64) (x4 : Int64) (x6 : Int32) (w : am_S) : Option (Int64 × am_S) :=
  am_loop (fun (st : (UInt64 × Int64 × Int32 × am_S)) => f_X11_doubleBits_18b a0 st.1 st.2.1 st.2.2.1 st.2.2.2) am_fuel (x2, x4, x6, w)
def f_X11_doubleBits (a0 : UInt64) (w : am_S) : Option (Int64 × am_S) :=
  if 0 < (Op.cmpValue (FP.dcmp a0 (FP.dconst0)) .g) then (f_X11_doubleBits_18 a0 a0 (1023 : Int64) (0 : Int32) w) else (some ((0 : Int64), w))
set_option maxRecDepth 100000 in
set_option maxHeartbeats 4000000 in
theorem k_X11_doubleBits {G : am_G} {l : Launch} {a0 : UInt64}  {w : am_S} {rr : Int64} {ww : am_S} (hf : f_X11_doubleBits a0 w = some (rr, ww)) : am_Ml G l yX11_doubleBits (Cond.code yX11_doubleBits cX11_doubleBits 7 (some .long) :: am_T) { frames := 0, cells := 0, slots := 0, locals := 0 } [.double a0] w rr ww := by
  refine Met.ofW (cc := cX11_doubleBits) (maxL := 7) (ret := (some .long)) (by decide) rfl ?_
  intro p e s m args below meth c s₁ B hml hv
  obtain ⟨rfl, hx, hb, hr, hts, hown, hlocks, hK, hE, hH⟩ := am_begin B hv
  have hown : s.vm.findClass RX11 = some m.cls := hown
  show W p l e { frames := 0, cells := 0, slots := 0, locals := 0 } s m _ below meth c s.heap [] 0 0 _ _
  have P50 : ∀ (x2 : UInt64) (x4 : Int64) (w : am_S) (H : Heap) (locs : List Loc) (ls : Array Slot), f_X11_doubleBits_50 a0 x2 x4 w = some (rr, ww) → am_H G w s H locs → lv_has ls 7 [(2, .double x2), (4, .long x4)] → W p l e { frames := 0, cells := 0, slots := 0, locals := 0 } s m [.double a0].toArray below meth c H locs 0 0 (MQ below (va_Ql (fun (x : Int64) (u : am_S) => x = rr ∧ u = ww) (am_U G) (am_A G)) [.double a0].toArray s 0 0 (am_A G)) (F0 m 50 ls []) := by
    intro x2 x4 w H locs ls hf hH hl
    unfold f_X11_doubleBits_50 at hf
    refine lv_lload hx hb dX11_doubleBits_50 (lv_at hl 1 rfl) ?_
    refine lv_bipush (v := 52) hx hb dX11_doubleBits_52 (by decide) ?_
    refine lv_lshl (v := am_lshl x4 (52 : Int32)) hx hb dX11_doubleBits_54 rfl ?_
    refine lv_dload_n hx hb dX11_doubleBits_55 rfl (lv_at hl 0 rfl) ?_
    refine lv_dconst1 hx hb dX11_doubleBits_56 ?_
    obtain ⟨hn_10, hf⟩ := am_n64_some hf
    refine lv_dsub hx hb dX11_doubleBits_57 hn_10 ?_
    refine lv_ldc2d (v := 4841369599423283200) hx hb hown (hts _ am_q1146) dX11_doubleBits_58 ?_
    obtain ⟨hn_11, hf⟩ := am_n64_some hf
    refine lv_dmul hx hb dX11_doubleBits_61 hn_11 ?_
    refine lv_d2l hx hb dX11_doubleBits_62 ?_
    refine lv_lor hx hb dX11_doubleBits_63 ?_
    exact am_retl hx hb hr hlocks hH hf dX11_doubleBits_64
  have P18 : ∀ (n1 : Nat) (x2 : UInt64) (x4 : Int64) (x6 : Int32) (w : am_S) (H : Heap) (locs : List Loc) (ls : Array Slot), am_loop (fun (st : (UInt64 × Int64 × Int32 × am_S)) => f_X11_doubleBits_18b a0 st.1 st.2.1 st.2.2.1 st.2.2.2) n1 (x2, x4, x6, w) = some (rr, ww) → am_H G w s H locs → lv_has ls 7 [(2, .double x2), (4, .long x4), (6, .int x6)] → W p l e { frames := 0, cells := 0, slots := 0, locals := 0 } s m [.double a0].toArray below meth c H locs 0 0 (MQ below (va_Ql (fun (x : Int64) (u : am_S) => x = rr ∧ u = ww) (am_U G) (am_A G)) [.double a0].toArray s 0 0 (am_A G)) (F0 m 18 ls []) := by
    intro n1
    induction n1 with
    | zero =>
      intro x2 x4 x6 w H locs ls hf hH hl
      exact (am_loop_zero hf).elim
    | succ n1 ih1 =>
      intro x2 x4 x6 w H locs ls hf hH hl
      obtain ⟨z1, hf, hk1⟩ := am_loop_succ hf
      have hf : f_X11_doubleBits_18b a0 x2 x4 x6 w = some z1 := hf
      unfold f_X11_doubleBits_18b at hf
      refine lv_iload hx hb dX11_doubleBits_18 (lv_at hl 2 rfl) ?_
      refine lv_sipush (v := 1100) hx hb dX11_doubleBits_20 (by decide) ?_
      refine lv_icmp_ge (tgt := 50) hx hb dX11_doubleBits_23 (by decide) (fun hc_12 => ?_) (fun hc_12 => ?_)
      · have hf := (if_pos hc_12).symm.trans hf
        obtain ⟨y_13, hf, hzy_13⟩ := am_x_some hf
        rw [hzy_13] at hk1
        have hf := hf.trans (congrArg some (show y_13 = (rr, ww) from hk1))
        exact P50 x2 x4 w H locs ls hf hH (lv_sub hl [0, 1] rfl)
      · have hf := (if_neg hc_12).symm.trans hf
        refine lv_dload_n hx hb dX11_doubleBits_26 rfl (lv_at hl 0 rfl) ?_
        refine lv_dconst1 hx hb dX11_doubleBits_27 ?_
        refine lv_dcmp hx hb dX11_doubleBits_28 ?_
        refine lv_if_ge (tgt := 50) hx hb dX11_doubleBits_29 (by decide) (fun hc_14 => ?_) (fun hc_14 => ?_)
        · have hf := (if_pos hc_14).symm.trans hf
          obtain ⟨y_15, hf, hzy_15⟩ := am_x_some hf
          rw [hzy_15] at hk1
          have hf := hf.trans (congrArg some (show y_15 = (rr, ww) from hk1))
          exact P50 x2 x4 w H locs ls hf hH (lv_sub hl [0, 1] rfl)
        · have hf := (if_neg hc_14).symm.trans hf
          refine lv_dload_n hx hb dX11_doubleBits_32 rfl (lv_at hl 0 rfl) ?_
          refine lv_ldc2d (v := 4611686018427387904) hx hb hown (hts _ am_q1145) dX11_doubleBits_33 ?_
          obtain ⟨hn_16, hf⟩ := am_n64_some hf
          refine lv_dmul hx hb dX11_doubleBits_36 hn_16 ?_
          obtain ⟨x2_17, hx2_17, hf⟩ := am_v_some hf
          refine am_topd hx2_17 ?_
          refine lv_dstore_n (lv' := [(2, .double x2_17), (4, .long x4), (6, .int x6)]) hx hb dX11_doubleBits_37 rfl hl (by decide) rfl (fun ls hl => ?_)
          refine lv_lload hx hb dX11_doubleBits_38 (lv_at hl 1 rfl) ?_
          refine lv_lconst (v := 1) hx hb dX11_doubleBits_40 (by decide) ?_
          refine lv_lsub hx hb dX11_doubleBits_41 ?_
          obtain ⟨x4_18, hx4_18, hf⟩ := am_v_some hf
          refine am_topl hx4_18 ?_
          refine lv_lstore (lv' := [(4, .long x4_18), (2, .double x2_17), (6, .int x6)]) hx hb dX11_doubleBits_42 hl (by decide) rfl (fun ls hl => ?_)
          obtain ⟨x6_19, hx6_19, hf⟩ := am_v_some hf
          refine lv_iinc (v := x6_19) (lv' := [(6, .int x6_19), (4, .long x4_18), (2, .double x2_17)]) hx hb dX11_doubleBits_44 hl (k := 2) rfl (by rw [hx6_19]; rfl) (by decide) rfl (fun ls hl => ?_)
          refine lv_goto (tgt := 18) hx hb dX11_doubleBits_47 (by decide) ?_
          obtain rfl := Option.some.inj hf
          exact ih1 x2_17 x4_18 x6_19 w H locs ls hk1 hH (lv_sub hl [2, 1, 0] rfl)
  refine am_enter (lv := [(0, .double a0)]) (Nat.le_of_ble_eq_true rfl) rfl (fun ls hl => ?_)
  unfold f_X11_doubleBits at hf
  refine am_start hH (fun H locs hH => ?_)
  refine lv_dload_n hx hb dX11_doubleBits_0 rfl (lv_at hl 0 rfl) ?_
  refine lv_dconst0 hx hb dX11_doubleBits_1 ?_
  refine lv_dcmp hx hb dX11_doubleBits_2 ?_
  refine lv_if_gt (tgt := 8) hx hb dX11_doubleBits_3 (by decide) (fun hc_20 => ?_) (fun hc_20 => ?_)
  · have hf := (if_pos hc_20).symm.trans hf
    refine lv_dload_n hx hb dX11_doubleBits_8 rfl (lv_at hl 0 rfl) ?_
    refine lv_dstore_n (lv' := [(2, .double a0), (0, .double a0)]) hx hb dX11_doubleBits_9 rfl hl (by decide) rfl (fun ls hl => ?_)
    refine lv_ldc2 (v := 1023) hx hb hown (hts _ am_q1144) dX11_doubleBits_10 ?_
    refine lv_lstore (lv' := [(4, .long (1023 : Int64)), (2, .double a0), (0, .double a0)]) hx hb dX11_doubleBits_13 hl (by decide) rfl (fun ls hl => ?_)
    refine lv_iconst (v := 0) hx hb dX11_doubleBits_15 (by decide) ?_
    refine lv_istore (lv' := [(6, .int (0 : Int32)), (4, .long (1023 : Int64)), (2, .double a0), (0, .double a0)]) hx hb dX11_doubleBits_16 hl (by decide) rfl (fun ls hl => ?_)
    exact P18 am_fuel a0 (1023 : Int64) (0 : Int32) w H locs ls hf hH (lv_sub hl [2, 1, 0] rfl)
  · have hf := (if_neg hc_20).symm.trans hf
    refine lv_lconst (v := 0) hx hb dX11_doubleBits_6 (by decide) ?_
    exact am_retl hx hb hr hlocks hH hf dX11_doubleBits_7

def f_X11_share_28 (a1 : Int32) (a2 : Int32) (w : am_S) : Option (Int64 × am_S) :=
  some ((-1 : Int64), w)
def f_X11_share (a1 : Int32) (a2 : Int32) (w : am_S) : Option (Int64 × am_S) :=
  am_b2 (f_X11_noDegrees w) fun r_17 w_15 => if r_17 = 0 then (if a1 < (1 : Int32) then (f_X11_share_28 a1 a2 w_15) else (if (60 : Int32) < a1 then (f_X11_share_28 a1 a2 w_15) else (if a2 < 0 then (f_X11_share_28 a1 a2 w_15) else (if a2 ≤ (40 : Int32) then (am_b2 (f_X5_shareOf a1 a2 w_15) fun r_25 w_23 => am_b2 (f_X11_doubleBits r_25 w_23) fun r_28 w_26 => some (r_28, w_26)) else (f_X11_share_28 a1 a2 w_15))))) else (f_X11_share_28 a1 a2 w_15)
set_option maxRecDepth 100000 in
set_option maxHeartbeats 4000000 in
theorem k_X11_share {G : am_G} {l : Launch} {a1 : Int32} {a2 : Int32}  {w : am_S} {rr : Int64} {ww : am_S} (hf : f_X11_share a1 a2 w = some (rr, ww)) : am_Ml G l yX11_share (Cond.code yX11_share cX11_share 3 (some .long) :: am_T) { frames := 3, cells := 0, slots := 0, locals := 192 } [.ref (G.1 + 0), .int a1, .int a2] w rr ww := by
  refine Met.ofW (cc := cX11_share) (maxL := 3) (ret := (some .long)) (by decide) rfl ?_
  intro p e s m args below meth c s₁ B hml hv
  obtain ⟨rfl, hx, hb, hr, hts, hown, hlocks, hK, hE, hH⟩ := am_begin B hv
  have hown : s.vm.findClass RX11 = some m.cls := hown
  show W p l e { frames := 3, cells := 0, slots := 0, locals := 192 } s m _ below meth c s.heap [] 0 0 _ _
  have P28 : ∀ (w : am_S) (H : Heap) (locs : List Loc) (ls : Array Slot), f_X11_share_28 a1 a2 w = some (rr, ww) → am_H G w s H locs → lv_has ls 3 [] → W p l e { frames := 3, cells := 0, slots := 0, locals := 192 } s m [.ref (G.1 + 0), .int a1, .int a2].toArray below meth c H locs 0 0 (MQ below (va_Ql (fun (x : Int64) (u : am_S) => x = rr ∧ u = ww) (am_U G) (am_A G)) [.ref (G.1 + 0), .int a1, .int a2].toArray s 0 0 (am_A G)) (F0 m 28 ls []) := by
    intro w H locs ls hf hH hl
    unfold f_X11_share_28 at hf
    refine lv_ldc2 (v := -1) hx hb hown (hts _ am_q1121) dX11_share_28 ?_
    exact am_retl hx hb hr hlocks hH hf dX11_share_31
  refine am_enter (lv := [(0, .ref (G.1 + 0)), (1, .int a1), (2, .int a2)]) (Nat.le_of_ble_eq_true rfl) rfl (fun ls hl => ?_)
  unfold f_X11_share at hf
  refine am_start hH (fun H locs hH => ?_)
  refine lv_aload_n hx hb dX11_share_0 rfl (lv_at hl 0 rfl) ?_
  obtain ⟨r_17, w_15, hq_16, hf⟩ := am_b2_some hf
  refine am_calli (r := r_17) (w' := w_15) (am_runV (n := 0) (As := []) (rest := []) ⟨hx, hb, hml, hown, hts⟩ hK hE hH (k_X11_noDegrees hq_16) (am_gV am_q1117 am_q1119 am_qs38 am_q1 am_q1120) (am_o11 (p := 0) (by decide +kernel)) rfl ⟨rfl, rfl⟩ (by decide +kernel) ⟨Nat.le_of_ble_eq_true rfl, Nat.le_of_ble_eq_true rfl⟩ rfl hl.1 rfl (Nat.le_of_ble_eq_true rfl) ⟨Nat.zero_le _, Nat.zero_le _⟩ dX11_share_1) hH (fun H locs hH => ?_)
  refine lv_if_ne (tgt := 28) hx hb dX11_share_4 (by decide) (fun hc_18 => ?_) (fun hc_18 => ?_)
  · have hf := (if_neg hc_18).symm.trans hf
    exact P28 w_15 H locs ls hf hH (lv_sub hl [] rfl)
  · have hf := (if_pos hc_18).symm.trans hf
    refine lv_iload_n hx hb dX11_share_7 rfl (lv_at hl 1 rfl) ?_
    refine lv_iconst (v := 1) hx hb dX11_share_8 (by decide) ?_
    refine lv_icmp_lt (tgt := 28) hx hb dX11_share_9 (by decide) (fun hc_19 => ?_) (fun hc_19 => ?_)
    · have hf := (if_pos hc_19).symm.trans hf
      exact P28 w_15 H locs ls hf hH (lv_sub hl [] rfl)
    · have hf := (if_neg hc_19).symm.trans hf
      refine lv_iload_n hx hb dX11_share_12 rfl (lv_at hl 1 rfl) ?_
      refine lv_bipush (v := 60) hx hb dX11_share_13 (by decide) ?_
      refine lv_icmp_gt (tgt := 28) hx hb dX11_share_15 (by decide) (fun hc_20 => ?_) (fun hc_20 => ?_)
      · have hf := (if_pos hc_20).symm.trans hf
        exact P28 w_15 H locs ls hf hH (lv_sub hl [] rfl)
      · have hf := (if_neg hc_20).symm.trans hf
        refine lv_iload_n hx hb dX11_share_18 rfl (lv_at hl 2 rfl) ?_
        refine lv_if_lt (tgt := 28) hx hb dX11_share_19 (by decide) (fun hc_21 => ?_) (fun hc_21 => ?_)
        · have hf := (if_pos hc_21).symm.trans hf
          exact P28 w_15 H locs ls hf hH (lv_sub hl [] rfl)
        · have hf := (if_neg hc_21).symm.trans hf
          refine lv_iload_n hx hb dX11_share_22 rfl (lv_at hl 2 rfl) ?_
          refine lv_bipush (v := 40) hx hb dX11_share_23 (by decide) ?_
          refine lv_icmp_le (tgt := 32) hx hb dX11_share_25 (by decide) (fun hc_22 => ?_) (fun hc_22 => ?_)
          · have hf := (if_pos hc_22).symm.trans hf
            refine lv_aload_n hx hb dX11_share_32 rfl (lv_at hl 0 rfl) ?_
            refine am_get hx hb hts hK hown hH (am_o11 (p := 0) (by decide +kernel)) rfl am_inX11 16 (by decide) am_q347 (v := .ref (G.1 + 258)) rfl dX11_share_33 ?_
            refine lv_iload_n hx hb dX11_share_36 rfl (lv_at hl 1 rfl) ?_
            refine lv_iload_n hx hb dX11_share_37 rfl (lv_at hl 2 rfl) ?_
            obtain ⟨r_25, w_23, hq_24, hf⟩ := am_b2_some hf
            refine am_calld (r := r_25) (w' := w_23) (am_runV (n := 2) (As := [.int a1, .int a2]) (rest := []) ⟨hx, hb, hml, hown, hts⟩ hK hE hH (k_X5_shareOf hq_24) (am_gV am_q1122 am_q1123 am_q1124 am_q12 am_q1125) (am_o5 (p := 258) (by decide +kernel)) rfl ⟨rfl, rfl⟩ (by decide +kernel) ⟨Nat.le_of_ble_eq_true rfl, Nat.le_of_ble_eq_true rfl⟩ rfl hl.1 rfl (Nat.le_of_ble_eq_true rfl) ⟨Nat.zero_le _, Nat.zero_le _⟩ dX11_share_38) hH (fun H locs hH => ?_)
            obtain ⟨r_28, w_26, hq_27, hf⟩ := am_b2_some hf
            refine am_calll (r := r_28) (w' := w_26) (am_runS (n := 1) (As := [.double r_25]) (rest := []) ⟨hx, hb, hml, hown, hts⟩ hK hE hH (k_X11_doubleBits hq_27) (am_gS am_q1141 am_q1142 am_q1 am_q1143) ⟨rfl, rfl⟩ (by decide +kernel) ⟨Nat.le_of_ble_eq_true rfl, Nat.le_of_ble_eq_true rfl⟩ rfl hl.1 rfl (Nat.le_of_ble_eq_true rfl) ⟨Nat.zero_le _, Nat.zero_le _⟩ dX11_share_41) hH (fun H locs hH => ?_)
            exact am_retl hx hb hr hlocks hH hf dX11_share_44
          · have hf := (if_neg hc_22).symm.trans hf
            exact P28 w_15 H locs ls hf hH (lv_sub hl [] rfl)

def f_X11_shelf_26 (a1 : Int32) (a2 : Int32) (w : am_S) : Option (Int32 × am_S) :=
  some ((-1 : Int32), w)
def f_X11_shelf (a1 : Int32) (a2 : Int32) (w : am_S) : Option (Int32 × am_S) :=
  if a1 < 0 then (f_X11_shelf_26 a1 a2 w) else (if (3 : Int32) ≤ a1 then (f_X11_shelf_26 a1 a2 w) else (if a2 < 0 then (f_X11_shelf_26 a1 a2 w) else (am_chk a1 3 (if a2 < (w.1 27 a1.toNatClampNeg) then (am_chk ((a1 * (10 : Int32)) + a2) 30 (some (w.1 26 ((a1 * (10 : Int32)) + a2).toNatClampNeg, w))) else (f_X11_shelf_26 a1 a2 w)))))
set_option maxRecDepth 100000 in
set_option maxHeartbeats 4000000 in
theorem k_X11_shelf {G : am_G} {l : Launch} {a1 : Int32} {a2 : Int32}  {w : am_S} {rr : Int32} {ww : am_S} (hf : f_X11_shelf a1 a2 w = some (rr, ww)) : am_Mi G l yX11_shelf (Cond.code yX11_shelf cX11_shelf 3 (some .int) :: am_T) { frames := 0, cells := 0, slots := 0, locals := 0 } [.ref (G.1 + 0), .int a1, .int a2] w rr ww := by
  refine Met.ofW (cc := cX11_shelf) (maxL := 3) (ret := (some .int)) (by decide) rfl ?_
  intro p e s m args below meth c s₁ B hml hv
  obtain ⟨rfl, hx, hb, hr, hts, hown, hlocks, hK, hE, hH⟩ := am_begin B hv
  have hown : s.vm.findClass RX11 = some m.cls := hown
  show W p l e { frames := 0, cells := 0, slots := 0, locals := 0 } s m _ below meth c s.heap [] 0 0 _ _
  have P26 : ∀ (w : am_S) (H : Heap) (locs : List Loc) (ls : Array Slot), f_X11_shelf_26 a1 a2 w = some (rr, ww) → am_H G w s H locs → lv_has ls 3 [] → W p l e { frames := 0, cells := 0, slots := 0, locals := 0 } s m [.ref (G.1 + 0), .int a1, .int a2].toArray below meth c H locs 0 0 (MQ below (va_Qi (fun (x : Int32) (u : am_S) => x = rr ∧ u = ww) (am_U G) (am_A G)) [.ref (G.1 + 0), .int a1, .int a2].toArray s 0 0 (am_A G)) (F0 m 26 ls []) := by
    intro w H locs ls hf hH hl
    unfold f_X11_shelf_26 at hf
    refine lv_iconst (v := -1) hx hb dX11_shelf_26 (by decide) ?_
    exact am_reti hx hb hr hlocks hH hf dX11_shelf_27
  refine am_enter (lv := [(0, .ref (G.1 + 0)), (1, .int a1), (2, .int a2)]) (Nat.le_of_ble_eq_true rfl) rfl (fun ls hl => ?_)
  unfold f_X11_shelf at hf
  refine am_start hH (fun H locs hH => ?_)
  refine lv_iload_n hx hb dX11_shelf_0 rfl (lv_at hl 1 rfl) ?_
  refine lv_if_lt (tgt := 26) hx hb dX11_shelf_1 (by decide) (fun hc_7 => ?_) (fun hc_7 => ?_)
  · have hf := (if_pos hc_7).symm.trans hf
    exact P26 w H locs ls hf hH (lv_sub hl [] rfl)
  · have hf := (if_neg hc_7).symm.trans hf
    refine lv_iload_n hx hb dX11_shelf_4 rfl (lv_at hl 1 rfl) ?_
    refine lv_iconst (v := 3) hx hb dX11_shelf_5 (by decide) ?_
    refine lv_icmp_ge (tgt := 26) hx hb dX11_shelf_6 (by decide) (fun hc_8 => ?_) (fun hc_8 => ?_)
    · have hf := (if_pos hc_8).symm.trans hf
      exact P26 w H locs ls hf hH (lv_sub hl [] rfl)
    · have hf := (if_neg hc_8).symm.trans hf
      refine lv_iload_n hx hb dX11_shelf_9 rfl (lv_at hl 2 rfl) ?_
      refine lv_if_lt (tgt := 26) hx hb dX11_shelf_10 (by decide) (fun hc_9 => ?_) (fun hc_9 => ?_)
      · have hf := (if_pos hc_9).symm.trans hf
        exact P26 w H locs ls hf hH (lv_sub hl [] rfl)
      · have hf := (if_neg hc_9).symm.trans hf
        refine lv_iload_n hx hb dX11_shelf_13 rfl (lv_at hl 2 rfl) ?_
        refine lv_aload_n hx hb dX11_shelf_14 rfl (lv_at hl 0 rfl) ?_
        refine am_get hx hb hts hK hown hH (am_o11 (p := 0) (by decide +kernel)) rfl am_inX11 5 (by decide) am_q336 (v := .ref (G.1 + 23)) rfl dX11_shelf_15 ?_
        refine am_get hx hb hts hK hown hH (am_o9 (p := 23) (by decide +kernel)) rfl am_inX9 3 (by decide) am_q186 (v := .ref (G.1 + 27)) rfl dX11_shelf_18 ?_
        refine lv_iload_n hx hb dX11_shelf_21 rfl (lv_at hl 1 rfl) ?_
        obtain ⟨hi_10, hf⟩ := am_chk_some hf
        refine am_iald hx hb hK hH (am_ai_of (N := 3) (by decide +kernel)) hi_10 dX11_shelf_22 ?_
        refine lv_icmp_lt (tgt := 28) hx hb dX11_shelf_23 (by decide) (fun hc_11 => ?_) (fun hc_11 => ?_)
        · have hf := (if_pos hc_11).symm.trans hf
          refine lv_aload_n hx hb dX11_shelf_28 rfl (lv_at hl 0 rfl) ?_
          refine am_get hx hb hts hK hown hH (am_o11 (p := 0) (by decide +kernel)) rfl am_inX11 5 (by decide) am_q336 (v := .ref (G.1 + 23)) rfl dX11_shelf_29 ?_
          refine am_get hx hb hts hK hown hH (am_o9 (p := 23) (by decide +kernel)) rfl am_inX9 2 (by decide) am_q183 (v := .ref (G.1 + 26)) rfl dX11_shelf_32 ?_
          refine lv_iload_n hx hb dX11_shelf_35 rfl (lv_at hl 1 rfl) ?_
          refine lv_bipush (v := 10) hx hb dX11_shelf_36 (by decide) ?_
          refine lv_imul hx hb dX11_shelf_38 ?_
          refine lv_iload_n hx hb dX11_shelf_39 rfl (lv_at hl 2 rfl) ?_
          refine lv_iadd hx hb dX11_shelf_40 ?_
          obtain ⟨hi_12, hf⟩ := am_chk_some hf
          refine am_iald hx hb hK hH (am_ai_of (N := 30) (by decide +kernel)) hi_12 dX11_shelf_41 ?_
          exact am_reti hx hb hr hlocks hH hf dX11_shelf_42
        · have hf := (if_neg hc_11).symm.trans hf
          exact P26 w H locs ls hf hH (lv_sub hl [] rfl)

def f_X6_settleInWindow (a1 : Int32) (a2 : Int32) (a3 : Int32) (w : am_S) : Option (Int32 × am_S) :=
  am_b2 (f_X7_settle a1 (a2 * (w.1 11 7)) ((a2 + a3) * (w.1 11 7)) (0 : Int64) w) fun r_6 w_4 => some (r_6, w_4)
set_option maxRecDepth 100000 in
set_option maxHeartbeats 4000000 in
theorem k_X6_settleInWindow {G : am_G} {l : Launch} {a1 : Int32} {a2 : Int32} {a3 : Int32}  {w : am_S} {rr : Int32} {ww : am_S} (hf : f_X6_settleInWindow a1 a2 a3 w = some (rr, ww)) : am_Mi G l yX6_settleInWindow (Cond.code yX6_settleInWindow cX6_settleInWindow 4 (some .int) :: am_T) { frames := 3, cells := 0, slots := 0, locals := 192 } [.ref (G.1 + 257), .int a1, .int a2, .int a3] w rr ww := by
  refine Met.ofW (cc := cX6_settleInWindow) (maxL := 4) (ret := (some .int)) (by decide) rfl ?_
  intro p e s m args below meth c s₁ B hml hv
  obtain ⟨rfl, hx, hb, hr, hts, hown, hlocks, hK, hE, hH⟩ := am_begin B hv
  have hown : s.vm.findClass RX6 = some m.cls := hown
  show W p l e { frames := 3, cells := 0, slots := 0, locals := 192 } s m _ below meth c s.heap [] 0 0 _ _
  refine am_enter (lv := [(0, .ref (G.1 + 257)), (1, .int a1), (2, .int a2), (3, .int a3)]) (Nat.le_of_ble_eq_true rfl) rfl (fun ls hl => ?_)
  unfold f_X6_settleInWindow at hf
  refine am_start hH (fun H locs hH => ?_)
  refine lv_aload_n hx hb dX6_settleInWindow_0 rfl (lv_at hl 0 rfl) ?_
  refine am_get hx hb hts hK hown hH (am_o6 (p := 257) (by decide +kernel)) rfl am_inX6 1 (by decide) am_q315 (v := .ref (G.1 + 250)) rfl dX6_settleInWindow_1 ?_
  refine lv_iload_n hx hb dX6_settleInWindow_4 rfl (lv_at hl 1 rfl) ?_
  refine lv_iload_n hx hb dX6_settleInWindow_5 rfl (lv_at hl 2 rfl) ?_
  refine lv_aload_n hx hb dX6_settleInWindow_6 rfl (lv_at hl 0 rfl) ?_
  refine am_get hx hb hts hK hown hH (am_o6 (p := 257) (by decide +kernel)) rfl am_inX6 0 (by decide) am_q314 (v := .ref (G.1 + 11)) rfl dX6_settleInWindow_7 ?_
  refine am_get hx hb hts hK hown hH (am_o1 (p := 11) (by decide +kernel)) rfl am_inX1 7 (by decide) am_q92 (v := .int (w.1 11 7)) rfl dX6_settleInWindow_10 ?_
  refine lv_imul hx hb dX6_settleInWindow_13 ?_
  refine lv_iload_n hx hb dX6_settleInWindow_14 rfl (lv_at hl 2 rfl) ?_
  refine lv_iload_n hx hb dX6_settleInWindow_15 rfl (lv_at hl 3 rfl) ?_
  refine lv_iadd hx hb dX6_settleInWindow_16 ?_
  refine lv_aload_n hx hb dX6_settleInWindow_17 rfl (lv_at hl 0 rfl) ?_
  refine am_get hx hb hts hK hown hH (am_o6 (p := 257) (by decide +kernel)) rfl am_inX6 0 (by decide) am_q314 (v := .ref (G.1 + 11)) rfl dX6_settleInWindow_18 ?_
  refine am_get hx hb hts hK hown hH (am_o1 (p := 11) (by decide +kernel)) rfl am_inX1 7 (by decide) am_q92 (v := .int (w.1 11 7)) rfl dX6_settleInWindow_21 ?_
  refine lv_imul hx hb dX6_settleInWindow_24 ?_
  refine lv_lconst (v := 0) hx hb dX6_settleInWindow_25 (by decide) ?_
  obtain ⟨r_6, w_4, hq_5, hf⟩ := am_b2_some hf
  refine am_calli (r := r_6) (w' := w_4) (am_runV (n := 4) (As := [.int a1, .int (a2 * (w.1 11 7)), .int ((a2 + a3) * (w.1 11 7)), .long (0 : Int64)]) (rest := []) ⟨hx, hb, hml, hown, hts⟩ hK hE hH (k_X7_settle hq_5) (am_gV am_q1038 am_q954 am_q955 am_q9 am_q956) (am_o7 (p := 250) (by decide +kernel)) rfl ⟨rfl, rfl⟩ (by decide +kernel) ⟨Nat.le_of_ble_eq_true rfl, Nat.le_of_ble_eq_true rfl⟩ rfl hl.1 rfl (Nat.le_of_ble_eq_true rfl) ⟨Nat.zero_le _, Nat.zero_le _⟩ dX6_settleInWindow_26) hH (fun H locs hH => ?_)
  exact am_reti hx hb hr hlocks hH hf dX6_settleInWindow_29

def f_X6_unknownBehindSlide_10b (a1 : Int32) (x2 : Int32) (x3 : Int32) (w : am_S) : Option ((Int32 × am_S) ⊕ (Int32 × Int32 × am_S)) :=
  if (w.1 11 8) < (x3 + a1) then (am_x (some (x2, w))) else (am_b2 (f_X6_settleInWindow x2 x3 a1 w) fun r_11 w_9 => am_v (x3 + (1 : Int32)) fun (x3_12 : Int32) => some (.inr (r_11, x3_12, w_9)))
def f_X6_unknownBehindSlide_10 (a1 : Int32) (x2 : Int32) (x3 : Int32) (w : am_S) : Option (Int32 × am_S) :=
  am_loop (fun (st : (Int32 × Int32 × am_S)) => f_X6_unknownBehindSlide_10b a1 st.1 st.2.1 st.2.2) am_fuel (x2, x3, w)
def f_X6_unknownBehindSlide (a1 : Int32) (w : am_S) : Option (Int32 × am_S) :=
  am_v (w.1 250 6) fun (x2_13 : Int32) => f_X6_unknownBehindSlide_10 a1 x2_13 (0 : Int32) w
set_option maxRecDepth 100000 in
set_option maxHeartbeats 4000000 in
theorem k_X6_unknownBehindSlide {G : am_G} {l : Launch} {a1 : Int32}  {w : am_S} {rr : Int32} {ww : am_S} (hf : f_X6_unknownBehindSlide a1 w = some (rr, ww)) : am_Mi G l yX6_unknownBehindSlide (Cond.code yX6_unknownBehindSlide cX6_unknownBehindSlide 4 (some .int) :: am_T) { frames := 4, cells := 0, slots := 0, locals := 256 } [.ref (G.1 + 257), .int a1] w rr ww := by
  refine Met.ofW (cc := cX6_unknownBehindSlide) (maxL := 4) (ret := (some .int)) (by decide) rfl ?_
  intro p e s m args below meth c s₁ B hml hv
  obtain ⟨rfl, hx, hb, hr, hts, hown, hlocks, hK, hE, hH⟩ := am_begin B hv
  have hown : s.vm.findClass RX6 = some m.cls := hown
  show W p l e { frames := 4, cells := 0, slots := 0, locals := 256 } s m _ below meth c s.heap [] 0 0 _ _
  have P10 : ∀ (n1 : Nat) (x2 : Int32) (x3 : Int32) (w : am_S) (H : Heap) (locs : List Loc) (ls : Array Slot), am_loop (fun (st : (Int32 × Int32 × am_S)) => f_X6_unknownBehindSlide_10b a1 st.1 st.2.1 st.2.2) n1 (x2, x3, w) = some (rr, ww) → am_H G w s H locs → lv_has ls 4 [(0, .ref (G.1 + 257)), (1, .int a1), (2, .int x2), (3, .int x3)] → W p l e { frames := 4, cells := 0, slots := 0, locals := 256 } s m [.ref (G.1 + 257), .int a1].toArray below meth c H locs 0 0 (MQ below (va_Qi (fun (x : Int32) (u : am_S) => x = rr ∧ u = ww) (am_U G) (am_A G)) [.ref (G.1 + 257), .int a1].toArray s 0 0 (am_A G)) (F0 m 10 ls []) := by
    intro n1
    induction n1 with
    | zero =>
      intro x2 x3 w H locs ls hf hH hl
      exact (am_loop_zero hf).elim
    | succ n1 ih1 =>
      intro x2 x3 w H locs ls hf hH hl
      obtain ⟨z1, hf, hk1⟩ := am_loop_succ hf
      have hf : f_X6_unknownBehindSlide_10b a1 x2 x3 w = some z1 := hf
      unfold f_X6_unknownBehindSlide_10b at hf
      refine lv_iload_n hx hb dX6_unknownBehindSlide_10 rfl (lv_at hl 3 rfl) ?_
      refine lv_iload_n hx hb dX6_unknownBehindSlide_11 rfl (lv_at hl 1 rfl) ?_
      refine lv_iadd hx hb dX6_unknownBehindSlide_12 ?_
      refine lv_aload_n hx hb dX6_unknownBehindSlide_13 rfl (lv_at hl 0 rfl) ?_
      refine am_get hx hb hts hK hown hH (am_o6 (p := 257) (by decide +kernel)) rfl am_inX6 0 (by decide) am_q314 (v := .ref (G.1 + 11)) rfl dX6_unknownBehindSlide_14 ?_
      refine am_get hx hb hts hK hown hH (am_o1 (p := 11) (by decide +kernel)) rfl am_inX1 8 (by decide) am_q96 (v := .int (w.1 11 8)) rfl dX6_unknownBehindSlide_17 ?_
      refine lv_icmp_gt (tgt := 37) hx hb dX6_unknownBehindSlide_20 (by decide) (fun hc_7 => ?_) (fun hc_7 => ?_)
      · have hf := (if_pos hc_7).symm.trans hf
        obtain ⟨y_8, hf, hzy_8⟩ := am_x_some hf
        rw [hzy_8] at hk1
        have hf := hf.trans (congrArg some (show y_8 = (rr, ww) from hk1))
        refine lv_iload_n hx hb dX6_unknownBehindSlide_37 rfl (lv_at hl 2 rfl) ?_
        exact am_reti hx hb hr hlocks hH hf dX6_unknownBehindSlide_38
      · have hf := (if_neg hc_7).symm.trans hf
        refine lv_aload_n hx hb dX6_unknownBehindSlide_23 rfl (lv_at hl 0 rfl) ?_
        refine lv_iload_n hx hb dX6_unknownBehindSlide_24 rfl (lv_at hl 2 rfl) ?_
        refine lv_iload_n hx hb dX6_unknownBehindSlide_25 rfl (lv_at hl 3 rfl) ?_
        refine lv_iload_n hx hb dX6_unknownBehindSlide_26 rfl (lv_at hl 1 rfl) ?_
        obtain ⟨r_11, w_9, hq_10, hf⟩ := am_b2_some hf
        refine am_calli (r := r_11) (w' := w_9) (am_runV (n := 3) (As := [.int x2, .int x3, .int a1]) (rest := []) ⟨hx, hb, hml, hown, hts⟩ hK hE hH (k_X6_settleInWindow hq_10) (am_gV am_q1034 am_q1036 am_qs36 am_q11 am_q1037) (am_o6 (p := 257) (by decide +kernel)) rfl ⟨rfl, rfl⟩ (by decide +kernel) ⟨Nat.le_of_ble_eq_true rfl, Nat.le_of_ble_eq_true rfl⟩ rfl hl.1 rfl (Nat.le_of_ble_eq_true rfl) ⟨Nat.zero_le _, Nat.zero_le _⟩ dX6_unknownBehindSlide_27) hH (fun H locs hH => ?_)
        refine lv_istore_n (lv' := [(2, .int r_11), (0, .ref (G.1 + 257)), (1, .int a1), (3, .int x3)]) hx hb dX6_unknownBehindSlide_30 rfl hl (by decide) rfl (fun ls hl => ?_)
        obtain ⟨x3_12, hx3_12, hf⟩ := am_v_some hf
        refine lv_iinc (v := x3_12) (lv' := [(3, .int x3_12), (2, .int r_11), (0, .ref (G.1 + 257)), (1, .int a1)]) hx hb dX6_unknownBehindSlide_31 hl (k := 3) rfl (by rw [hx3_12]; rfl) (by decide) rfl (fun ls hl => ?_)
        refine lv_goto (tgt := 10) hx hb dX6_unknownBehindSlide_34 (by decide) ?_
        obtain rfl := Option.some.inj hf
        exact ih1 r_11 x3_12 w_9 H locs ls hk1 hH (lv_sub hl [2, 3, 1, 0] rfl)
  refine am_enter (lv := [(0, .ref (G.1 + 257)), (1, .int a1)]) (Nat.le_of_ble_eq_true rfl) rfl (fun ls hl => ?_)
  unfold f_X6_unknownBehindSlide at hf
  refine am_start hH (fun H locs hH => ?_)
  refine lv_aload_n hx hb dX6_unknownBehindSlide_0 rfl (lv_at hl 0 rfl) ?_
  refine am_get hx hb hts hK hown hH (am_o6 (p := 257) (by decide +kernel)) rfl am_inX6 1 (by decide) am_q315 (v := .ref (G.1 + 250)) rfl dX6_unknownBehindSlide_1 ?_
  refine am_get hx hb hts hK hown hH (am_o7 (p := 250) (by decide +kernel)) rfl am_inX7 6 (by decide) am_q270 (v := .int (w.1 250 6)) rfl dX6_unknownBehindSlide_4 ?_
  obtain ⟨x2_13, hx2_13, hf⟩ := am_v_some hf
  refine am_topi hx2_13 ?_
  refine lv_istore_n (lv' := [(2, .int x2_13), (0, .ref (G.1 + 257)), (1, .int a1)]) hx hb dX6_unknownBehindSlide_7 rfl hl (by decide) rfl (fun ls hl => ?_)
  refine lv_iconst (v := 0) hx hb dX6_unknownBehindSlide_8 (by decide) ?_
  refine lv_istore_n (lv' := [(3, .int (0 : Int32)), (2, .int x2_13), (0, .ref (G.1 + 257)), (1, .int a1)]) hx hb dX6_unknownBehindSlide_9 rfl hl (by decide) rfl (fun ls hl => ?_)
  exact P10 am_fuel x2_13 (0 : Int32) w H locs ls hf hH (lv_sub hl [2, 3, 1, 0] rfl)

def f_X11_slid_23 (a1 : Int32) (w : am_S) : Option (Int32 × am_S) :=
  some ((-1 : Int32), w)
def f_X11_slid (a1 : Int32) (w : am_S) : Option (Int32 × am_S) :=
  am_b2 (f_X11_noField w) fun r_17 w_15 => if r_17 = 0 then (if a1 < (1 : Int32) then (f_X11_slid_23 a1 w_15) else (if a1 ≤ (w_15.1 11 8) then (am_b1 (f_X7_lookAt 23 w_15) fun w_21 => am_b2 (f_X1_everyone 11 w_21) fun r_25 w_23 => am_b2 (f_X6_unknownBehindSlide a1 w_23) fun r_28 w_26 => some (r_25 &&& (r_28 ^^^ (-1 : Int32)), w_26)) else (f_X11_slid_23 a1 w_15))) else (f_X11_slid_23 a1 w_15)
set_option maxRecDepth 100000 in
set_option maxHeartbeats 4000000 in
theorem k_X11_slid {G : am_G} {l : Launch} {a1 : Int32}  {w : am_S} {rr : Int32} {ww : am_S} (hf : f_X11_slid a1 w = some (rr, ww)) : am_Mi G l yX11_slid (Cond.code yX11_slid cX11_slid 2 (some .int) :: am_T) { frames := 5, cells := 0, slots := 0, locals := 320 } [.ref (G.1 + 0), .int a1] w rr ww := by
  refine Met.ofW (cc := cX11_slid) (maxL := 2) (ret := (some .int)) (by decide) rfl ?_
  intro p e s m args below meth c s₁ B hml hv
  obtain ⟨rfl, hx, hb, hr, hts, hown, hlocks, hK, hE, hH⟩ := am_begin B hv
  have hown : s.vm.findClass RX11 = some m.cls := hown
  show W p l e { frames := 5, cells := 0, slots := 0, locals := 320 } s m _ below meth c s.heap [] 0 0 _ _
  have P23 : ∀ (w : am_S) (H : Heap) (locs : List Loc) (ls : Array Slot), f_X11_slid_23 a1 w = some (rr, ww) → am_H G w s H locs → lv_has ls 2 [] → W p l e { frames := 5, cells := 0, slots := 0, locals := 320 } s m [.ref (G.1 + 0), .int a1].toArray below meth c H locs 0 0 (MQ below (va_Qi (fun (x : Int32) (u : am_S) => x = rr ∧ u = ww) (am_U G) (am_A G)) [.ref (G.1 + 0), .int a1].toArray s 0 0 (am_A G)) (F0 m 23 ls []) := by
    intro w H locs ls hf hH hl
    unfold f_X11_slid_23 at hf
    refine lv_iconst (v := -1) hx hb dX11_slid_23 (by decide) ?_
    exact am_reti hx hb hr hlocks hH hf dX11_slid_24
  refine am_enter (lv := [(0, .ref (G.1 + 0)), (1, .int a1)]) (Nat.le_of_ble_eq_true rfl) rfl (fun ls hl => ?_)
  unfold f_X11_slid at hf
  refine am_start hH (fun H locs hH => ?_)
  refine lv_aload_n hx hb dX11_slid_0 rfl (lv_at hl 0 rfl) ?_
  obtain ⟨r_17, w_15, hq_16, hf⟩ := am_b2_some hf
  refine am_calli (r := r_17) (w' := w_15) (am_runV (n := 0) (As := []) (rest := []) ⟨hx, hb, hml, hown, hts⟩ hK hE hH (k_X11_noField hq_16) (am_gV am_q625 am_q627 am_qs11 am_q1 am_q628) (am_o11 (p := 0) (by decide +kernel)) rfl ⟨rfl, rfl⟩ (by decide +kernel) ⟨Nat.le_of_ble_eq_true rfl, Nat.le_of_ble_eq_true rfl⟩ rfl hl.1 rfl (Nat.le_of_ble_eq_true rfl) ⟨Nat.zero_le _, Nat.zero_le _⟩ dX11_slid_1) hH (fun H locs hH => ?_)
  refine lv_if_ne (tgt := 23) hx hb dX11_slid_4 (by decide) (fun hc_18 => ?_) (fun hc_18 => ?_)
  · have hf := (if_neg hc_18).symm.trans hf
    exact P23 w_15 H locs ls hf hH (lv_sub hl [] rfl)
  · have hf := (if_pos hc_18).symm.trans hf
    refine lv_iload_n hx hb dX11_slid_7 rfl (lv_at hl 1 rfl) ?_
    refine lv_iconst (v := 1) hx hb dX11_slid_8 (by decide) ?_
    refine lv_icmp_lt (tgt := 23) hx hb dX11_slid_9 (by decide) (fun hc_19 => ?_) (fun hc_19 => ?_)
    · have hf := (if_pos hc_19).symm.trans hf
      exact P23 w_15 H locs ls hf hH (lv_sub hl [] rfl)
    · have hf := (if_neg hc_19).symm.trans hf
      refine lv_iload_n hx hb dX11_slid_12 rfl (lv_at hl 1 rfl) ?_
      refine lv_aload_n hx hb dX11_slid_13 rfl (lv_at hl 0 rfl) ?_
      refine am_get hx hb hts hK hown hH (am_o11 (p := 0) (by decide +kernel)) rfl am_inX11 2 (by decide) am_q333 (v := .ref (G.1 + 11)) rfl dX11_slid_14 ?_
      refine am_get hx hb hts hK hown hH (am_o1 (p := 11) (by decide +kernel)) rfl am_inX1 8 (by decide) am_q95 (v := .int (w_15.1 11 8)) rfl dX11_slid_17 ?_
      refine lv_icmp_le (tgt := 25) hx hb dX11_slid_20 (by decide) (fun hc_20 => ?_) (fun hc_20 => ?_)
      · have hf := (if_pos hc_20).symm.trans hf
        refine lv_aload_n hx hb dX11_slid_25 rfl (lv_at hl 0 rfl) ?_
        refine am_get hx hb hts hK hown hH (am_o11 (p := 0) (by decide +kernel)) rfl am_inX11 13 (by decide) am_q344 (v := .ref (G.1 + 250)) rfl dX11_slid_26 ?_
        refine lv_aload_n hx hb dX11_slid_29 rfl (lv_at hl 0 rfl) ?_
        refine am_get hx hb hts hK hown hH (am_o11 (p := 0) (by decide +kernel)) rfl am_inX11 5 (by decide) am_q336 (v := .ref (G.1 + 23)) rfl dX11_slid_30 ?_
        obtain ⟨w_21, hq_22, hf⟩ := am_b1_some hf
        refine am_callv (w' := w_21) (am_runV (n := 1) (As := [.ref (G.1 + 23)]) (rest := []) ⟨hx, hb, hml, hown, hts⟩ hK hE hH (k_X7_lookAt (by decide +kernel) hq_22) (am_gV am_q670 am_q671 am_q672 am_q9 am_q673) (am_o7 (p := 250) (by decide +kernel)) rfl ⟨rfl, rfl⟩ (by decide +kernel) ⟨Nat.le_of_ble_eq_true rfl, Nat.le_of_ble_eq_true rfl⟩ rfl hl.1 rfl (Nat.le_of_ble_eq_true rfl) ⟨Nat.zero_le _, Nat.zero_le _⟩ dX11_slid_33) hH (fun H locs hH => ?_)
        refine lv_aload_n hx hb dX11_slid_36 rfl (lv_at hl 0 rfl) ?_
        refine am_get hx hb hts hK hown hH (am_o11 (p := 0) (by decide +kernel)) rfl am_inX11 2 (by decide) am_q333 (v := .ref (G.1 + 11)) rfl dX11_slid_37 ?_
        obtain ⟨r_25, w_23, hq_24, hf⟩ := am_b2_some hf
        refine am_calli (r := r_25) (w' := w_23) (am_runV (n := 0) (As := []) (rest := []) ⟨hx, hb, hml, hown, hts⟩ hK hE hH (k_X1_everyone (by decide +kernel) hq_24) (am_gV am_q948 am_q610 am_q611 am_q3 am_q612) (am_o1 (p := 11) (by decide +kernel)) rfl ⟨rfl, rfl⟩ (by decide +kernel) ⟨Nat.le_of_ble_eq_true rfl, Nat.le_of_ble_eq_true rfl⟩ rfl hl.1 rfl (Nat.le_of_ble_eq_true rfl) ⟨Nat.zero_le _, Nat.zero_le _⟩ dX11_slid_40) hH (fun H locs hH => ?_)
        refine lv_aload_n hx hb dX11_slid_43 rfl (lv_at hl 0 rfl) ?_
        refine am_get hx hb hts hK hown hH (am_o11 (p := 0) (by decide +kernel)) rfl am_inX11 15 (by decide) am_q346 (v := .ref (G.1 + 257)) rfl dX11_slid_44 ?_
        refine lv_iload_n hx hb dX11_slid_47 rfl (lv_at hl 1 rfl) ?_
        obtain ⟨r_28, w_26, hq_27, hf⟩ := am_b2_some hf
        refine am_calli (r := r_28) (w' := w_26) (am_runV (n := 1) (As := [.int a1]) (rest := [.int r_25]) ⟨hx, hb, hml, hown, hts⟩ hK hE hH (k_X6_unknownBehindSlide hq_27) (am_gV am_q1030 am_q1031 am_q1032 am_q11 am_q1033) (am_o6 (p := 257) (by decide +kernel)) rfl ⟨rfl, rfl⟩ (by decide +kernel) ⟨Nat.le_of_ble_eq_true rfl, Nat.le_of_ble_eq_true rfl⟩ rfl hl.1 rfl (Nat.le_of_ble_eq_true rfl) ⟨Nat.zero_le _, Nat.zero_le _⟩ dX11_slid_48) hH (fun H locs hH => ?_)
        refine lv_iconst (v := -1) hx hb dX11_slid_51 (by decide) ?_
        refine lv_ixor hx hb dX11_slid_52 ?_
        refine lv_iand hx hb dX11_slid_53 ?_
        exact am_reti hx hb hr hlocks hH hf dX11_slid_54
      · have hf := (if_neg hc_20).symm.trans hf
        exact P23 w_15 H locs ls hf hH (lv_sub hl [] rfl)

def f_X6_placeOnSlide_11b (a1 : Int32) (a2 : Int32) (x3 : Int32) (x4 : Int32) (w : am_S) : Option ((Int32 × am_S) ⊕ (Int32 × Int32 × am_S)) :=
  if (w.1 11 8) < (x4 + a2) then (am_x (some ((-1 : Int32), w))) else (am_b2 (f_X6_settleInWindow x3 x4 a2 w) fun r_12 w_10 => if ((r_12 >>> (a1 &&& 31)) &&& (1 : Int32)) = 0 then (am_x (some (x4, w_10))) else (am_v (x4 + (1 : Int32)) fun (x4_14 : Int32) => some (.inr (r_12, x4_14, w_10))))
def f_X6_placeOnSlide_11 (a1 : Int32) (a2 : Int32) (x3 : Int32) (x4 : Int32) (w : am_S) : Option (Int32 × am_S) :=
  am_loop (fun (st : (Int32 × Int32 × am_S)) => f_X6_placeOnSlide_11b a1 a2 st.1 st.2.1 st.2.2) am_fuel (x3, x4, w)
def f_X6_placeOnSlide (a1 : Int32) (a2 : Int32) (w : am_S) : Option (Int32 × am_S) :=
  am_v (w.1 250 6) fun (x3_16 : Int32) => f_X6_placeOnSlide_11 a1 a2 x3_16 (0 : Int32) w
set_option maxRecDepth 100000 in
set_option maxHeartbeats 4000000 in
theorem k_X6_placeOnSlide {G : am_G} {l : Launch} {a1 : Int32} {a2 : Int32}  {w : am_S} {rr : Int32} {ww : am_S} (hf : f_X6_placeOnSlide a1 a2 w = some (rr, ww)) : am_Mi G l yX6_placeOnSlide (Cond.code yX6_placeOnSlide cX6_placeOnSlide 5 (some .int) :: am_T) { frames := 4, cells := 0, slots := 0, locals := 256 } [.ref (G.1 + 257), .int a1, .int a2] w rr ww := by
  refine Met.ofW (cc := cX6_placeOnSlide) (maxL := 5) (ret := (some .int)) (by decide) rfl ?_
  intro p e s m args below meth c s₁ B hml hv
  obtain ⟨rfl, hx, hb, hr, hts, hown, hlocks, hK, hE, hH⟩ := am_begin B hv
  have hown : s.vm.findClass RX6 = some m.cls := hown
  show W p l e { frames := 4, cells := 0, slots := 0, locals := 256 } s m _ below meth c s.heap [] 0 0 _ _
  have P11 : ∀ (n1 : Nat) (x3 : Int32) (x4 : Int32) (w : am_S) (H : Heap) (locs : List Loc) (ls : Array Slot), am_loop (fun (st : (Int32 × Int32 × am_S)) => f_X6_placeOnSlide_11b a1 a2 st.1 st.2.1 st.2.2) n1 (x3, x4, w) = some (rr, ww) → am_H G w s H locs → lv_has ls 5 [(0, .ref (G.1 + 257)), (1, .int a1), (2, .int a2), (3, .int x3), (4, .int x4)] → W p l e { frames := 4, cells := 0, slots := 0, locals := 256 } s m [.ref (G.1 + 257), .int a1, .int a2].toArray below meth c H locs 0 0 (MQ below (va_Qi (fun (x : Int32) (u : am_S) => x = rr ∧ u = ww) (am_U G) (am_A G)) [.ref (G.1 + 257), .int a1, .int a2].toArray s 0 0 (am_A G)) (F0 m 11 ls []) := by
    intro n1
    induction n1 with
    | zero =>
      intro x3 x4 w H locs ls hf hH hl
      exact (am_loop_zero hf).elim
    | succ n1 ih1 =>
      intro x3 x4 w H locs ls hf hH hl
      obtain ⟨z1, hf, hk1⟩ := am_loop_succ hf
      have hf : f_X6_placeOnSlide_11b a1 a2 x3 x4 w = some z1 := hf
      unfold f_X6_placeOnSlide_11b at hf
      refine lv_iload hx hb dX6_placeOnSlide_11 (lv_at hl 4 rfl) ?_
      refine lv_iload_n hx hb dX6_placeOnSlide_13 rfl (lv_at hl 2 rfl) ?_
      refine lv_iadd hx hb dX6_placeOnSlide_14 ?_
      refine lv_aload_n hx hb dX6_placeOnSlide_15 rfl (lv_at hl 0 rfl) ?_
      refine am_get hx hb hts hK hown hH (am_o6 (p := 257) (by decide +kernel)) rfl am_inX6 0 (by decide) am_q314 (v := .ref (G.1 + 11)) rfl dX6_placeOnSlide_16 ?_
      refine am_get hx hb hts hK hown hH (am_o1 (p := 11) (by decide +kernel)) rfl am_inX1 8 (by decide) am_q96 (v := .int (w.1 11 8)) rfl dX6_placeOnSlide_19 ?_
      refine lv_icmp_gt (tgt := 51) hx hb dX6_placeOnSlide_22 (by decide) (fun hc_8 => ?_) (fun hc_8 => ?_)
      · have hf := (if_pos hc_8).symm.trans hf
        obtain ⟨y_9, hf, hzy_9⟩ := am_x_some hf
        rw [hzy_9] at hk1
        have hf := hf.trans (congrArg some (show y_9 = (rr, ww) from hk1))
        refine lv_iconst (v := -1) hx hb dX6_placeOnSlide_51 (by decide) ?_
        exact am_reti hx hb hr hlocks hH hf dX6_placeOnSlide_52
      · have hf := (if_neg hc_8).symm.trans hf
        refine lv_aload_n hx hb dX6_placeOnSlide_25 rfl (lv_at hl 0 rfl) ?_
        refine lv_iload_n hx hb dX6_placeOnSlide_26 rfl (lv_at hl 3 rfl) ?_
        refine lv_iload hx hb dX6_placeOnSlide_27 (lv_at hl 4 rfl) ?_
        refine lv_iload_n hx hb dX6_placeOnSlide_29 rfl (lv_at hl 2 rfl) ?_
        obtain ⟨r_12, w_10, hq_11, hf⟩ := am_b2_some hf
        refine am_calli (r := r_12) (w' := w_10) (am_runV (n := 3) (As := [.int x3, .int x4, .int a2]) (rest := []) ⟨hx, hb, hml, hown, hts⟩ hK hE hH (k_X6_settleInWindow hq_11) (am_gV am_q1034 am_q1036 am_qs36 am_q11 am_q1037) (am_o6 (p := 257) (by decide +kernel)) rfl ⟨rfl, rfl⟩ (by decide +kernel) ⟨Nat.le_of_ble_eq_true rfl, Nat.le_of_ble_eq_true rfl⟩ rfl hl.1 rfl (Nat.le_of_ble_eq_true rfl) ⟨Nat.zero_le _, Nat.zero_le _⟩ dX6_placeOnSlide_30) hH (fun H locs hH => ?_)
        refine lv_istore_n (lv' := [(3, .int r_12), (0, .ref (G.1 + 257)), (1, .int a1), (2, .int a2), (4, .int x4)]) hx hb dX6_placeOnSlide_33 rfl hl (by decide) rfl (fun ls hl => ?_)
        refine lv_iload_n hx hb dX6_placeOnSlide_34 rfl (lv_at hl 0 rfl) ?_
        refine lv_iload_n hx hb dX6_placeOnSlide_35 rfl (lv_at hl 2 rfl) ?_
        refine lv_ishr hx hb dX6_placeOnSlide_36 ?_
        refine lv_iconst (v := 1) hx hb dX6_placeOnSlide_37 (by decide) ?_
        refine lv_iand hx hb dX6_placeOnSlide_38 ?_
        refine lv_if_ne (tgt := 45) hx hb dX6_placeOnSlide_39 (by decide) (fun hc_13 => ?_) (fun hc_13 => ?_)
        · have hf := (if_neg hc_13).symm.trans hf
          obtain ⟨x4_14, hx4_14, hf⟩ := am_v_some hf
          refine lv_iinc (v := x4_14) (lv' := [(4, .int x4_14), (3, .int r_12), (0, .ref (G.1 + 257)), (1, .int a1), (2, .int a2)]) hx hb dX6_placeOnSlide_45 hl (k := 4) rfl (by rw [hx4_14]; rfl) (by decide) rfl (fun ls hl => ?_)
          refine lv_goto (tgt := 11) hx hb dX6_placeOnSlide_48 (by decide) ?_
          obtain rfl := Option.some.inj hf
          exact ih1 r_12 x4_14 w_10 H locs ls hk1 hH (lv_sub hl [2, 3, 4, 1, 0] rfl)
        · have hf := (if_pos hc_13).symm.trans hf
          obtain ⟨y_15, hf, hzy_15⟩ := am_x_some hf
          rw [hzy_15] at hk1
          have hf := hf.trans (congrArg some (show y_15 = (rr, ww) from hk1))
          refine lv_iload hx hb dX6_placeOnSlide_42 (lv_at hl 4 rfl) ?_
          exact am_reti hx hb hr hlocks hH hf dX6_placeOnSlide_44
  refine am_enter (lv := [(0, .ref (G.1 + 257)), (1, .int a1), (2, .int a2)]) (Nat.le_of_ble_eq_true rfl) rfl (fun ls hl => ?_)
  unfold f_X6_placeOnSlide at hf
  refine am_start hH (fun H locs hH => ?_)
  refine lv_aload_n hx hb dX6_placeOnSlide_0 rfl (lv_at hl 0 rfl) ?_
  refine am_get hx hb hts hK hown hH (am_o6 (p := 257) (by decide +kernel)) rfl am_inX6 1 (by decide) am_q315 (v := .ref (G.1 + 250)) rfl dX6_placeOnSlide_1 ?_
  refine am_get hx hb hts hK hown hH (am_o7 (p := 250) (by decide +kernel)) rfl am_inX7 6 (by decide) am_q270 (v := .int (w.1 250 6)) rfl dX6_placeOnSlide_4 ?_
  obtain ⟨x3_16, hx3_16, hf⟩ := am_v_some hf
  refine am_topi hx3_16 ?_
  refine lv_istore_n (lv' := [(3, .int x3_16), (0, .ref (G.1 + 257)), (1, .int a1), (2, .int a2)]) hx hb dX6_placeOnSlide_7 rfl hl (by decide) rfl (fun ls hl => ?_)
  refine lv_iconst (v := 0) hx hb dX6_placeOnSlide_8 (by decide) ?_
  refine lv_istore (lv' := [(4, .int (0 : Int32)), (3, .int x3_16), (0, .ref (G.1 + 257)), (1, .int a1), (2, .int a2)]) hx hb dX6_placeOnSlide_9 hl (by decide) rfl (fun ls hl => ?_)
  exact P11 am_fuel x3_16 (0 : Int32) w H locs ls hf hH (lv_sub hl [2, 3, 4, 1, 0] rfl)

def f_X11_slidAt_24 (a1 : Int32) (a2 : Int32) (w : am_S) : Option (Int32 × am_S) :=
  some ((-1 : Int32), w)
def f_X11_slidAt (a1 : Int32) (a2 : Int32) (w : am_S) : Option (Int32 × am_S) :=
  am_b2 (f_X11_noUser a1 w) fun r_16 w_14 => if r_16 = 0 then (if a2 < (1 : Int32) then (f_X11_slidAt_24 a1 a2 w_14) else (if a2 ≤ (w_14.1 11 8) then (am_chk a1 10 (if (w_14.1 24 a1.toNatClampNeg) = 0 then (am_b1 (f_X7_lookAt 23 w_14) fun w_22 => am_b2 (f_X6_placeOnSlide a1 a2 w_22) fun r_26 w_24 => some (r_26, w_24)) else (some ((-2 : Int32), w_14)))) else (f_X11_slidAt_24 a1 a2 w_14))) else (f_X11_slidAt_24 a1 a2 w_14)
set_option maxRecDepth 100000 in
set_option maxHeartbeats 4000000 in
theorem k_X11_slidAt {G : am_G} {l : Launch} {a1 : Int32} {a2 : Int32}  {w : am_S} {rr : Int32} {ww : am_S} (hf : f_X11_slidAt a1 a2 w = some (rr, ww)) : am_Mi G l yX11_slidAt (Cond.code yX11_slidAt cX11_slidAt 3 (some .int) :: am_T) { frames := 5, cells := 0, slots := 0, locals := 320 } [.ref (G.1 + 0), .int a1, .int a2] w rr ww := by
  refine Met.ofW (cc := cX11_slidAt) (maxL := 3) (ret := (some .int)) (by decide) rfl ?_
  intro p e s m args below meth c s₁ B hml hv
  obtain ⟨rfl, hx, hb, hr, hts, hown, hlocks, hK, hE, hH⟩ := am_begin B hv
  have hown : s.vm.findClass RX11 = some m.cls := hown
  show W p l e { frames := 5, cells := 0, slots := 0, locals := 320 } s m _ below meth c s.heap [] 0 0 _ _
  have P24 : ∀ (w : am_S) (H : Heap) (locs : List Loc) (ls : Array Slot), f_X11_slidAt_24 a1 a2 w = some (rr, ww) → am_H G w s H locs → lv_has ls 3 [] → W p l e { frames := 5, cells := 0, slots := 0, locals := 320 } s m [.ref (G.1 + 0), .int a1, .int a2].toArray below meth c H locs 0 0 (MQ below (va_Qi (fun (x : Int32) (u : am_S) => x = rr ∧ u = ww) (am_U G) (am_A G)) [.ref (G.1 + 0), .int a1, .int a2].toArray s 0 0 (am_A G)) (F0 m 24 ls []) := by
    intro w H locs ls hf hH hl
    unfold f_X11_slidAt_24 at hf
    refine lv_iconst (v := -1) hx hb dX11_slidAt_24 (by decide) ?_
    exact am_reti hx hb hr hlocks hH hf dX11_slidAt_25
  refine am_enter (lv := [(0, .ref (G.1 + 0)), (1, .int a1), (2, .int a2)]) (Nat.le_of_ble_eq_true rfl) rfl (fun ls hl => ?_)
  unfold f_X11_slidAt at hf
  refine am_start hH (fun H locs hH => ?_)
  refine lv_aload_n hx hb dX11_slidAt_0 rfl (lv_at hl 0 rfl) ?_
  refine lv_iload_n hx hb dX11_slidAt_1 rfl (lv_at hl 1 rfl) ?_
  obtain ⟨r_16, w_14, hq_15, hf⟩ := am_b2_some hf
  refine am_calli (r := r_16) (w' := w_14) (am_runV (n := 1) (As := [.int a1]) (rest := []) ⟨hx, hb, hml, hown, hts⟩ hK hE hH (k_X11_noUser hq_15) (am_gV am_q641 am_q643 am_qs12 am_q1 am_q644) (am_o11 (p := 0) (by decide +kernel)) rfl ⟨rfl, rfl⟩ (by decide +kernel) ⟨Nat.le_of_ble_eq_true rfl, Nat.le_of_ble_eq_true rfl⟩ rfl hl.1 rfl (Nat.le_of_ble_eq_true rfl) ⟨Nat.zero_le _, Nat.zero_le _⟩ dX11_slidAt_2) hH (fun H locs hH => ?_)
  refine lv_if_ne (tgt := 24) hx hb dX11_slidAt_5 (by decide) (fun hc_17 => ?_) (fun hc_17 => ?_)
  · have hf := (if_neg hc_17).symm.trans hf
    exact P24 w_14 H locs ls hf hH (lv_sub hl [] rfl)
  · have hf := (if_pos hc_17).symm.trans hf
    refine lv_iload_n hx hb dX11_slidAt_8 rfl (lv_at hl 2 rfl) ?_
    refine lv_iconst (v := 1) hx hb dX11_slidAt_9 (by decide) ?_
    refine lv_icmp_lt (tgt := 24) hx hb dX11_slidAt_10 (by decide) (fun hc_18 => ?_) (fun hc_18 => ?_)
    · have hf := (if_pos hc_18).symm.trans hf
      exact P24 w_14 H locs ls hf hH (lv_sub hl [] rfl)
    · have hf := (if_neg hc_18).symm.trans hf
      refine lv_iload_n hx hb dX11_slidAt_13 rfl (lv_at hl 2 rfl) ?_
      refine lv_aload_n hx hb dX11_slidAt_14 rfl (lv_at hl 0 rfl) ?_
      refine am_get hx hb hts hK hown hH (am_o11 (p := 0) (by decide +kernel)) rfl am_inX11 2 (by decide) am_q333 (v := .ref (G.1 + 11)) rfl dX11_slidAt_15 ?_
      refine am_get hx hb hts hK hown hH (am_o1 (p := 11) (by decide +kernel)) rfl am_inX1 8 (by decide) am_q95 (v := .int (w_14.1 11 8)) rfl dX11_slidAt_18 ?_
      refine lv_icmp_le (tgt := 26) hx hb dX11_slidAt_21 (by decide) (fun hc_19 => ?_) (fun hc_19 => ?_)
      · have hf := (if_pos hc_19).symm.trans hf
        refine lv_aload_n hx hb dX11_slidAt_26 rfl (lv_at hl 0 rfl) ?_
        refine am_get hx hb hts hK hown hH (am_o11 (p := 0) (by decide +kernel)) rfl am_inX11 5 (by decide) am_q336 (v := .ref (G.1 + 23)) rfl dX11_slidAt_27 ?_
        refine am_get hx hb hts hK hown hH (am_o9 (p := 23) (by decide +kernel)) rfl am_inX9 0 (by decide) am_q176 (v := .ref (G.1 + 24)) rfl dX11_slidAt_30 ?_
        refine lv_iload_n hx hb dX11_slidAt_33 rfl (lv_at hl 1 rfl) ?_
        obtain ⟨hi_20, hf⟩ := am_chk_some hf
        refine am_iald hx hb hK hH (am_ai_of (N := 10) (by decide +kernel)) hi_20 dX11_slidAt_34 ?_
        refine lv_if_eq (tgt := 41) hx hb dX11_slidAt_35 (by decide) (fun hc_21 => ?_) (fun hc_21 => ?_)
        · have hf := (if_pos hc_21).symm.trans hf
          refine lv_aload_n hx hb dX11_slidAt_41 rfl (lv_at hl 0 rfl) ?_
          refine am_get hx hb hts hK hown hH (am_o11 (p := 0) (by decide +kernel)) rfl am_inX11 13 (by decide) am_q344 (v := .ref (G.1 + 250)) rfl dX11_slidAt_42 ?_
          refine lv_aload_n hx hb dX11_slidAt_45 rfl (lv_at hl 0 rfl) ?_
          refine am_get hx hb hts hK hown hH (am_o11 (p := 0) (by decide +kernel)) rfl am_inX11 5 (by decide) am_q336 (v := .ref (G.1 + 23)) rfl dX11_slidAt_46 ?_
          obtain ⟨w_22, hq_23, hf⟩ := am_b1_some hf
          refine am_callv (w' := w_22) (am_runV (n := 1) (As := [.ref (G.1 + 23)]) (rest := []) ⟨hx, hb, hml, hown, hts⟩ hK hE hH (k_X7_lookAt (by decide +kernel) hq_23) (am_gV am_q670 am_q671 am_q672 am_q9 am_q673) (am_o7 (p := 250) (by decide +kernel)) rfl ⟨rfl, rfl⟩ (by decide +kernel) ⟨Nat.le_of_ble_eq_true rfl, Nat.le_of_ble_eq_true rfl⟩ rfl hl.1 rfl (Nat.le_of_ble_eq_true rfl) ⟨Nat.zero_le _, Nat.zero_le _⟩ dX11_slidAt_49) hH (fun H locs hH => ?_)
          refine lv_aload_n hx hb dX11_slidAt_52 rfl (lv_at hl 0 rfl) ?_
          refine am_get hx hb hts hK hown hH (am_o11 (p := 0) (by decide +kernel)) rfl am_inX11 15 (by decide) am_q346 (v := .ref (G.1 + 257)) rfl dX11_slidAt_53 ?_
          refine lv_iload_n hx hb dX11_slidAt_56 rfl (lv_at hl 1 rfl) ?_
          refine lv_iload_n hx hb dX11_slidAt_57 rfl (lv_at hl 2 rfl) ?_
          obtain ⟨r_26, w_24, hq_25, hf⟩ := am_b2_some hf
          refine am_calli (r := r_26) (w' := w_24) (am_runV (n := 2) (As := [.int a1, .int a2]) (rest := []) ⟨hx, hb, hml, hown, hts⟩ hK hE hH (k_X6_placeOnSlide hq_25) (am_gV am_q1043 am_q1044 am_q1045 am_q11 am_q1046) (am_o6 (p := 257) (by decide +kernel)) rfl ⟨rfl, rfl⟩ (by decide +kernel) ⟨Nat.le_of_ble_eq_true rfl, Nat.le_of_ble_eq_true rfl⟩ rfl hl.1 rfl (Nat.le_of_ble_eq_true rfl) ⟨Nat.zero_le _, Nat.zero_le _⟩ dX11_slidAt_58) hH (fun H locs hH => ?_)
          exact am_reti hx hb hr hlocks hH hf dX11_slidAt_61
        · have hf := (if_neg hc_21).symm.trans hf
          refine lv_bipush (v := -2) hx hb dX11_slidAt_38 (by decide) ?_
          exact am_reti hx hb hr hlocks hH hf dX11_slidAt_40
      · have hf := (if_neg hc_19).symm.trans hf
        exact P24 w_14 H locs ls hf hH (lv_sub hl [] rfl)

def f_X11_slot_15 (a1 : Int32) (a2 : Int32) (w : am_S) : Option (Int32 × am_S) :=
  some ((-1000000 : Int32), w)
def f_X11_slot (a1 : Int32) (a2 : Int32) (w : am_S) : Option (Int32 × am_S) :=
  am_b2 (f_X11_noField w) fun r_29 w_27 => if r_29 = 0 then (am_b2 (f_X11_noSlot a1 w_27) fun r_33 w_31 => if r_33 = 0 then (am_b1 (f_X7_lookAt 23 w_31) fun w_35 => am_chk a1 48 (am_v ((w_35.1 254 a1.toNatClampNeg) &&& (w_35.1 250 6)) fun (x3_38 : Int32) => (if a2 = (0 : Int32) then (am_chk a1 48 (am_b2 (f_J6_bitCount_0f7a4 (w_35.1 254 a1.toNatClampNeg) w_35) fun r_46 w_44 => some (r_46, w_44))) else (if a2 = (1 : Int32) then (am_b2 (f_J6_bitCount_0f7a4 x3_38 w_35) fun r_49 w_47 => some (r_49, w_47)) else (if a2 = (2 : Int32) then (some (x3_38, w_35)) else (if a2 = (3 : Int32) then (am_b2 (f_X7_clearIn a1 (w_35.1 250 6) w_35) fun r_52 w_50 => some (r_52, w_50)) else (some ((-1000000 : Int32), w_35)))))))) else (f_X11_slot_15 a1 a2 w_31)) else (f_X11_slot_15 a1 a2 w_27)
set_option maxRecDepth 100000 in
set_option maxHeartbeats 4000000 in
theorem k_X11_slot {G : am_G} {l : Launch} {a1 : Int32} {a2 : Int32}  {w : am_S} {rr : Int32} {ww : am_S} (hf : f_X11_slot a1 a2 w = some (rr, ww)) : am_Mi G l yX11_slot (Cond.code yX11_slot cX11_slot 4 (some .int) :: am_T) { frames := 3, cells := 0, slots := 0, locals := 192 } [.ref (G.1 + 0), .int a1, .int a2] w rr ww := by
  refine Met.ofW (cc := cX11_slot) (maxL := 4) (ret := (some .int)) (by decide) rfl ?_
  intro p e s m args below meth c s₁ B hml hv
  obtain ⟨rfl, hx, hb, hr, hts, hown, hlocks, hK, hE, hH⟩ := am_begin B hv
  have hown : s.vm.findClass RX11 = some m.cls := hown
  show W p l e { frames := 3, cells := 0, slots := 0, locals := 192 } s m _ below meth c s.heap [] 0 0 _ _
  have P15 : ∀ (w : am_S) (H : Heap) (locs : List Loc) (ls : Array Slot), f_X11_slot_15 a1 a2 w = some (rr, ww) → am_H G w s H locs → lv_has ls 4 [] → W p l e { frames := 3, cells := 0, slots := 0, locals := 192 } s m [.ref (G.1 + 0), .int a1, .int a2].toArray below meth c H locs 0 0 (MQ below (va_Qi (fun (x : Int32) (u : am_S) => x = rr ∧ u = ww) (am_U G) (am_A G)) [.ref (G.1 + 0), .int a1, .int a2].toArray s 0 0 (am_A G)) (F0 m 15 ls []) := by
    intro w H locs ls hf hH hl
    unfold f_X11_slot_15 at hf
    refine lv_ldc (v := -1000000) hx hb hown (hts _ am_q714) dX11_slot_15 ?_
    exact am_reti hx hb hr hlocks hH hf dX11_slot_17
  refine am_enter (lv := [(0, .ref (G.1 + 0)), (1, .int a1), (2, .int a2)]) (Nat.le_of_ble_eq_true rfl) rfl (fun ls hl => ?_)
  unfold f_X11_slot at hf
  refine am_start hH (fun H locs hH => ?_)
  refine lv_aload_n hx hb dX11_slot_0 rfl (lv_at hl 0 rfl) ?_
  obtain ⟨r_29, w_27, hq_28, hf⟩ := am_b2_some hf
  refine am_calli (r := r_29) (w' := w_27) (am_runV (n := 0) (As := []) (rest := []) ⟨hx, hb, hml, hown, hts⟩ hK hE hH (k_X11_noField hq_28) (am_gV am_q625 am_q627 am_qs11 am_q1 am_q628) (am_o11 (p := 0) (by decide +kernel)) rfl ⟨rfl, rfl⟩ (by decide +kernel) ⟨Nat.le_of_ble_eq_true rfl, Nat.le_of_ble_eq_true rfl⟩ rfl hl.1 rfl (Nat.le_of_ble_eq_true rfl) ⟨Nat.zero_le _, Nat.zero_le _⟩ dX11_slot_1) hH (fun H locs hH => ?_)
  refine lv_if_ne (tgt := 15) hx hb dX11_slot_4 (by decide) (fun hc_30 => ?_) (fun hc_30 => ?_)
  · have hf := (if_neg hc_30).symm.trans hf
    exact P15 w_27 H locs ls hf hH (lv_sub hl [] rfl)
  · have hf := (if_pos hc_30).symm.trans hf
    refine lv_aload_n hx hb dX11_slot_7 rfl (lv_at hl 0 rfl) ?_
    refine lv_iload_n hx hb dX11_slot_8 rfl (lv_at hl 1 rfl) ?_
    obtain ⟨r_33, w_31, hq_32, hf⟩ := am_b2_some hf
    refine am_calli (r := r_33) (w' := w_31) (am_runV (n := 1) (As := [.int a1]) (rest := []) ⟨hx, hb, hml, hown, hts⟩ hK hE hH (k_X11_noSlot hq_32) (am_gV am_q662 am_q664 am_qs14 am_q1 am_q665) (am_o11 (p := 0) (by decide +kernel)) rfl ⟨rfl, rfl⟩ (by decide +kernel) ⟨Nat.le_of_ble_eq_true rfl, Nat.le_of_ble_eq_true rfl⟩ rfl hl.1 rfl (Nat.le_of_ble_eq_true rfl) ⟨Nat.zero_le _, Nat.zero_le _⟩ dX11_slot_9) hH (fun H locs hH => ?_)
    refine lv_if_eq (tgt := 18) hx hb dX11_slot_12 (by decide) (fun hc_34 => ?_) (fun hc_34 => ?_)
    · have hf := (if_pos hc_34).symm.trans hf
      refine lv_aload_n hx hb dX11_slot_18 rfl (lv_at hl 0 rfl) ?_
      refine am_get hx hb hts hK hown hH (am_o11 (p := 0) (by decide +kernel)) rfl am_inX11 13 (by decide) am_q344 (v := .ref (G.1 + 250)) rfl dX11_slot_19 ?_
      refine lv_aload_n hx hb dX11_slot_22 rfl (lv_at hl 0 rfl) ?_
      refine am_get hx hb hts hK hown hH (am_o11 (p := 0) (by decide +kernel)) rfl am_inX11 5 (by decide) am_q336 (v := .ref (G.1 + 23)) rfl dX11_slot_23 ?_
      obtain ⟨w_35, hq_36, hf⟩ := am_b1_some hf
      refine am_callv (w' := w_35) (am_runV (n := 1) (As := [.ref (G.1 + 23)]) (rest := []) ⟨hx, hb, hml, hown, hts⟩ hK hE hH (k_X7_lookAt (by decide +kernel) hq_36) (am_gV am_q670 am_q671 am_q672 am_q9 am_q673) (am_o7 (p := 250) (by decide +kernel)) rfl ⟨rfl, rfl⟩ (by decide +kernel) ⟨Nat.le_of_ble_eq_true rfl, Nat.le_of_ble_eq_true rfl⟩ rfl hl.1 rfl (Nat.le_of_ble_eq_true rfl) ⟨Nat.zero_le _, Nat.zero_le _⟩ dX11_slot_26) hH (fun H locs hH => ?_)
      refine lv_aload_n hx hb dX11_slot_29 rfl (lv_at hl 0 rfl) ?_
      refine am_get hx hb hts hK hown hH (am_o11 (p := 0) (by decide +kernel)) rfl am_inX11 13 (by decide) am_q344 (v := .ref (G.1 + 250)) rfl dX11_slot_30 ?_
      refine am_get hx hb hts hK hown hH (am_o7 (p := 250) (by decide +kernel)) rfl am_inX7 4 (by decide) am_q268 (v := .ref (G.1 + 254)) rfl dX11_slot_33 ?_
      refine lv_iload_n hx hb dX11_slot_36 rfl (lv_at hl 1 rfl) ?_
      obtain ⟨hi_37, hf⟩ := am_chk_some hf
      refine am_iald hx hb hK hH (am_ai_of (N := 48) (by decide +kernel)) hi_37 dX11_slot_37 ?_
      refine lv_aload_n hx hb dX11_slot_38 rfl (lv_at hl 0 rfl) ?_
      refine am_get hx hb hts hK hown hH (am_o11 (p := 0) (by decide +kernel)) rfl am_inX11 13 (by decide) am_q344 (v := .ref (G.1 + 250)) rfl dX11_slot_39 ?_
      refine am_get hx hb hts hK hown hH (am_o7 (p := 250) (by decide +kernel)) rfl am_inX7 6 (by decide) am_q273 (v := .int (w_35.1 250 6)) rfl dX11_slot_42 ?_
      refine lv_iand hx hb dX11_slot_45 ?_
      obtain ⟨x3_38, hx3_38, hf⟩ := am_v_some hf
      refine am_topi hx3_38 ?_
      refine lv_istore_n (lv' := [(3, .int x3_38), (0, .ref (G.1 + 0)), (1, .int a1), (2, .int a2)]) hx hb dX11_slot_46 rfl hl (by decide) rfl (fun ls hl => ?_)
      refine lv_iload_n hx hb dX11_slot_47 rfl (lv_at hl 3 rfl) ?_
      by_cases he_39 : a2 = (0 : Int32)
      · have hf := (if_pos he_39).symm.trans hf
        refine lv_tableIn (off := 32) (tgt := 80) hx hb dX11_slot_48 (by rw [he_39]; decide) (by rw [he_39]; decide) (by rw [he_39]; rfl) (by decide) ?_
        refine lv_aload_n hx hb dX11_slot_80 rfl (lv_at hl 1 rfl) ?_
        refine am_get hx hb hts hK hown hH (am_o11 (p := 0) (by decide +kernel)) rfl am_inX11 13 (by decide) am_q344 (v := .ref (G.1 + 250)) rfl dX11_slot_81 ?_
        refine am_get hx hb hts hK hown hH (am_o7 (p := 250) (by decide +kernel)) rfl am_inX7 4 (by decide) am_q268 (v := .ref (G.1 + 254)) rfl dX11_slot_84 ?_
        refine lv_iload_n hx hb dX11_slot_87 rfl (lv_at hl 2 rfl) ?_
        obtain ⟨hi_43, hf⟩ := am_chk_some hf
        refine am_iald hx hb hK hH (am_ai_of (N := 48) (by decide +kernel)) hi_43 dX11_slot_88 ?_
        obtain ⟨r_46, w_44, hq_45, hf⟩ := am_b2_some hf
        refine am_calli (r := r_46) (w' := w_44) (am_runS (n := 1) (As := [.int (w_35.1 254 a1.toNatClampNeg)]) (rest := []) ⟨hx, hb, hml, hown, hts⟩ hK hE hH (k_J6_bitCount_0f7a4 hq_45) (am_gS am_q715 am_q716 am_q23 am_q717) ⟨rfl, rfl⟩ (by decide +kernel) ⟨Nat.le_of_ble_eq_true rfl, Nat.le_of_ble_eq_true rfl⟩ rfl hl.1 rfl (Nat.le_of_ble_eq_true rfl) ⟨Nat.zero_le _, Nat.zero_le _⟩ dX11_slot_89) hH (fun H locs hH => ?_)
        exact am_reti hx hb hr hlocks hH hf dX11_slot_92
      have hf := (if_neg he_39).symm.trans hf
      by_cases he_40 : a2 = (1 : Int32)
      · have hf := (if_pos he_40).symm.trans hf
        refine lv_tableIn (off := 45) (tgt := 93) hx hb dX11_slot_48 (by rw [he_40]; decide) (by rw [he_40]; decide) (by rw [he_40]; rfl) (by decide) ?_
        refine lv_iload_n hx hb dX11_slot_93 rfl (lv_at hl 0 rfl) ?_
        obtain ⟨r_49, w_47, hq_48, hf⟩ := am_b2_some hf
        refine am_calli (r := r_49) (w' := w_47) (am_runS (n := 1) (As := [.int x3_38]) (rest := []) ⟨hx, hb, hml, hown, hts⟩ hK hE hH (k_J6_bitCount_0f7a4 hq_48) (am_gS am_q715 am_q716 am_q23 am_q717) ⟨rfl, rfl⟩ (by decide +kernel) ⟨Nat.le_of_ble_eq_true rfl, Nat.le_of_ble_eq_true rfl⟩ rfl hl.1 rfl (Nat.le_of_ble_eq_true rfl) ⟨Nat.zero_le _, Nat.zero_le _⟩ dX11_slot_94) hH (fun H locs hH => ?_)
        exact am_reti hx hb hr hlocks hH hf dX11_slot_97
      have hf := (if_neg he_40).symm.trans hf
      by_cases he_41 : a2 = (2 : Int32)
      · have hf := (if_pos he_41).symm.trans hf
        refine lv_tableIn (off := 50) (tgt := 98) hx hb dX11_slot_48 (by rw [he_41]; decide) (by rw [he_41]; decide) (by rw [he_41]; rfl) (by decide) ?_
        refine lv_iload_n hx hb dX11_slot_98 rfl (lv_at hl 0 rfl) ?_
        exact am_reti hx hb hr hlocks hH hf dX11_slot_99
      have hf := (if_neg he_41).symm.trans hf
      by_cases he_42 : a2 = (3 : Int32)
      · have hf := (if_pos he_42).symm.trans hf
        refine lv_tableIn (off := 52) (tgt := 100) hx hb dX11_slot_48 (by rw [he_42]; decide) (by rw [he_42]; decide) (by rw [he_42]; rfl) (by decide) ?_
        refine lv_aload_n hx hb dX11_slot_100 rfl (lv_at hl 1 rfl) ?_
        refine am_get hx hb hts hK hown hH (am_o11 (p := 0) (by decide +kernel)) rfl am_inX11 13 (by decide) am_q344 (v := .ref (G.1 + 250)) rfl dX11_slot_101 ?_
        refine lv_iload_n hx hb dX11_slot_104 rfl (lv_at hl 2 rfl) ?_
        refine lv_aload_n hx hb dX11_slot_105 rfl (lv_at hl 1 rfl) ?_
        refine am_get hx hb hts hK hown hH (am_o11 (p := 0) (by decide +kernel)) rfl am_inX11 13 (by decide) am_q344 (v := .ref (G.1 + 250)) rfl dX11_slot_106 ?_
        refine am_get hx hb hts hK hown hH (am_o7 (p := 250) (by decide +kernel)) rfl am_inX7 6 (by decide) am_q273 (v := .int (w_35.1 250 6)) rfl dX11_slot_109 ?_
        obtain ⟨r_52, w_50, hq_51, hf⟩ := am_b2_some hf
        refine am_calli (r := r_52) (w' := w_50) (am_runV (n := 2) (As := [.int a1, .int (w_35.1 250 6)]) (rest := []) ⟨hx, hb, hml, hown, hts⟩ hK hE hH (k_X7_clearIn hq_51) (am_gV am_q702 am_q703 am_q704 am_q9 am_q705) (am_o7 (p := 250) (by decide +kernel)) rfl ⟨rfl, rfl⟩ (by decide +kernel) ⟨Nat.le_of_ble_eq_true rfl, Nat.le_of_ble_eq_true rfl⟩ rfl hl.1 rfl (Nat.le_of_ble_eq_true rfl) ⟨Nat.zero_le _, Nat.zero_le _⟩ dX11_slot_112) hH (fun H locs hH => ?_)
        exact am_reti hx hb hr hlocks hH hf dX11_slot_115
      have hf := (if_neg he_42).symm.trans hf
      have nhe_39 := am_tne (k := 0) (0 : Int32) (by decide) he_39
      have nhe_40 := am_tne (k := 1) (1 : Int32) (by decide) he_40
      have nhe_41 := am_tne (k := 2) (2 : Int32) (by decide) he_41
      have nhe_42 := am_tne (k := 3) (3 : Int32) (by decide) he_42
      refine lv_tableOut (tgt := 116) hx hb dX11_slot_48 (by omega) (by decide) ?_
      refine lv_ldc (v := -1000000) hx hb hown (hts _ am_q714) dX11_slot_116 ?_
      exact am_reti hx hb hr hlocks hH hf dX11_slot_118
    · have hf := (if_neg hc_34).symm.trans hf
      exact P15 w_31 H locs ls hf hH (lv_sub hl [] rfl)
