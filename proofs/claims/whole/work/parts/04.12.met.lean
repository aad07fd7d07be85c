/-! functions and contracts of methods, by program (wip/whole/gen.py) -/
def f_X12_fault_26 (a1 : Int32) (s0 : Int32) (w : am_S) : Option (Int32 × am_S) :=
  some (s0, w)
def f_X12_fault (a1 : Int32) (w : am_S) : Option (Int32 × am_S) :=
  if a1 = 0 then (am_b2 (f_X12_readField w) fun r_16 w_14 => f_X12_fault_26 a1 r_16 w_14) else (if a1 = (1 : Int32) then (am_b2 (f_X12_readScript (4 : Int32) w) fun r_13 w_11 => f_X12_fault_26 a1 r_13 w_11) else (f_X12_fault_26 a1 (-2 : Int32) w))
set_option maxRecDepth 100000 in
set_option maxHeartbeats 4000000 in
theorem k_X12_fault {G : am_G} {l : Launch} {a1 : Int32}  {w : am_S} {rr : Int32} {ww : am_S} (hf : f_X12_fault a1 w = some (rr, ww)) : am_Mi G l yX12_fault (Cond.code yX12_fault cX12_fault 2 (some .int) :: am_T) { frames := 5, cells := 0, slots := 0, locals := 320 } [.ref (G.1 + 271), .int a1] w rr ww := by
  refine Met.ofW (cc := cX12_fault) (maxL := 2) (ret := (some .int)) (by decide) rfl ?_
  intro p e s m args below meth c s₁ B hml hv
  obtain ⟨rfl, hx, hb, hr, hts, hown, hlocks, hK, hE, hH⟩ := am_begin B hv
  have hown : s.vm.findClass RX12 = some m.cls := hown
  show W p l e { frames := 5, cells := 0, slots := 0, locals := 320 } s m _ below meth c s.heap [] 0 0 _ _
  have P26 : ∀ (s0 : Int32) (w : am_S) (H : Heap) (locs : List Loc) (ls : Array Slot), f_X12_fault_26 a1 s0 w = some (rr, ww) → am_H G w s H locs → lv_has ls 2 [] → W p l e { frames := 5, cells := 0, slots := 0, locals := 320 } s m [.ref (G.1 + 271), .int a1].toArray below meth c H locs 0 0 (MQ below (va_Qi (fun (x : Int32) (u : am_S) => x = rr ∧ u = ww) (am_U G) (am_A G)) [.ref (G.1 + 271), .int a1].toArray s 0 0 (am_A G)) (F0 m 26 ls [.int s0]) := by
    intro s0 w H locs ls hf hH hl
    unfold f_X12_fault_26 at hf
    exact am_reti hx hb hr hlocks hH hf dX12_fault_26
  refine am_enter (lv := [(0, .ref (G.1 + 271)), (1, .int a1)]) (Nat.le_of_ble_eq_true rfl) rfl (fun ls hl => ?_)
  unfold f_X12_fault at hf
  refine am_start hH (fun H locs hH => ?_)
  refine lv_iload_n hx hb dX12_fault_0 rfl (lv_at hl 1 rfl) ?_
  refine lv_if_ne (tgt := 11) hx hb dX12_fault_1 (by decide) (fun hc_9 => ?_) (fun hc_9 => ?_)
  · have hf := (if_neg hc_9).symm.trans hf
    refine lv_iload_n hx hb dX12_fault_11 rfl (lv_at hl 1 rfl) ?_
    refine lv_iconst (v := 1) hx hb dX12_fault_12 (by decide) ?_
    refine lv_icmp_ne (tgt := 24) hx hb dX12_fault_13 (by decide) (fun hc_10 => ?_) (fun hc_10 => ?_)
    · have hf := (if_neg hc_10).symm.trans hf
      refine lv_bipush (v := -2) hx hb dX12_fault_24 (by decide) ?_
      exact P26 (-2 : Int32) w H locs ls hf hH (lv_sub hl [] rfl)
    · have hf := (if_pos hc_10).symm.trans hf
      refine lv_aload_n hx hb dX12_fault_16 rfl (lv_at hl 0 rfl) ?_
      refine lv_iconst (v := 4) hx hb dX12_fault_17 (by decide) ?_
      obtain ⟨r_13, w_11, hq_12, hf⟩ := am_b2_some hf
      refine am_calli (r := r_13) (w' := w_11) (am_runV (n := 1) (As := [.int (4 : Int32)]) (rest := []) ⟨hx, hb, hml, hown, hts⟩ hK hE hH (k_X12_readScript hq_12) (am_gV am_q1478 am_q1480 am_qs53 am_q13 am_q1481) (am_o12 (p := 271) (by decide +kernel)) rfl ⟨rfl, rfl⟩ (by decide +kernel) ⟨Nat.le_of_ble_eq_true rfl, Nat.le_of_ble_eq_true rfl⟩ rfl hl.1 rfl (Nat.le_of_ble_eq_true rfl) ⟨Nat.zero_le _, Nat.zero_le _⟩ dX12_fault_18) hH (fun H locs hH => ?_)
      refine lv_goto (tgt := 26) hx hb dX12_fault_21 (by decide) ?_
      exact P26 r_13 w_11 H locs ls hf hH (lv_sub hl [] rfl)
  · have hf := (if_pos hc_9).symm.trans hf
    refine lv_aload_n hx hb dX12_fault_4 rfl (lv_at hl 0 rfl) ?_
    obtain ⟨r_16, w_14, hq_15, hf⟩ := am_b2_some hf
    refine am_calli (r := r_16) (w' := w_14) (am_runV (n := 0) (As := []) (rest := []) ⟨hx, hb, hml, hown, hts⟩ hK hE hH (k_X12_readField hq_15) (am_gV am_q1432 am_q1434 am_qs46 am_q13 am_q1435) (am_o12 (p := 271) (by decide +kernel)) rfl ⟨rfl, rfl⟩ (by decide +kernel) ⟨Nat.le_of_ble_eq_true rfl, Nat.le_of_ble_eq_true rfl⟩ rfl hl.1 rfl (Nat.le_of_ble_eq_true rfl) ⟨Nat.zero_le _, Nat.zero_le _⟩ dX12_fault_5) hH (fun H locs hH => ?_)
    refine lv_goto (tgt := 26) hx hb dX12_fault_8 (by decide) ?_
    exact P26 r_16 w_14 H locs ls hf hH (lv_sub hl [] rfl)

def f_X12_byteOf_45 (a0 : Int32) (a1 : Int32) (a2 : Int32) (a3 : Int32) (a4 : Int32) (a5 : Int32) (s0 : Int32) (w : am_S) : Option (Int32 × am_S) :=
  some ((s0 >>> (((24 : Int32) - ((8 : Int32) * (a5 - a5 / (4 : Int32) * (4 : Int32)))) &&& 31)) &&& (255 : Int32), w)
def f_X12_byteOf (a0 : Int32) (a1 : Int32) (a2 : Int32) (a3 : Int32) (a4 : Int32) (a5 : Int32) (w : am_S) : Option (Int32 × am_S) :=
  if (4 : Int32) ≤ a5 then (if (8 : Int32) ≤ a5 then (if (12 : Int32) ≤ a5 then (if (16 : Int32) ≤ a5 then (f_X12_byteOf_45 a0 a1 a2 a3 a4 a5 a4 w) else (f_X12_byteOf_45 a0 a1 a2 a3 a4 a5 a3 w)) else (f_X12_byteOf_45 a0 a1 a2 a3 a4 a5 a2 w)) else (f_X12_byteOf_45 a0 a1 a2 a3 a4 a5 a1 w)) else (f_X12_byteOf_45 a0 a1 a2 a3 a4 a5 a0 w)
set_option maxRecDepth 100000 in
set_option maxHeartbeats 4000000 in
theorem k_X12_byteOf {G : am_G} {l : Launch} {a0 : Int32} {a1 : Int32} {a2 : Int32} {a3 : Int32} {a4 : Int32} {a5 : Int32}  {w : am_S} {rr : Int32} {ww : am_S} (hf : f_X12_byteOf a0 a1 a2 a3 a4 a5 w = some (rr, ww)) : am_Mi G l yX12_byteOf (Cond.code yX12_byteOf cX12_byteOf 7 (some .int) :: am_T) { frames := 0, cells := 0, slots := 0, locals := 0 } [.int a0, .int a1, .int a2, .int a3, .int a4, .int a5] w rr ww := by
  refine Met.ofW (cc := cX12_byteOf) (maxL := 7) (ret := (some .int)) (by decide) rfl ?_
  intro p e s m args below meth c s₁ B hml hv
  obtain ⟨rfl, hx, hb, hr, hts, hown, hlocks, hK, hE, hH⟩ := am_begin B hv
  have hown : s.vm.findClass RX12 = some m.cls := hown
  show W p l e { frames := 0, cells := 0, slots := 0, locals := 0 } s m _ below meth c s.heap [] 0 0 _ _
  have P45 : ∀ (s0 : Int32) (w : am_S) (H : Heap) (locs : List Loc) (ls : Array Slot), f_X12_byteOf_45 a0 a1 a2 a3 a4 a5 s0 w = some (rr, ww) → am_H G w s H locs → lv_has ls 7 [(5, .int a5)] → W p l e { frames := 0, cells := 0, slots := 0, locals := 0 } s m [.int a0, .int a1, .int a2, .int a3, .int a4, .int a5].toArray below meth c H locs 0 0 (MQ below (va_Qi (fun (x : Int32) (u : am_S) => x = rr ∧ u = ww) (am_U G) (am_A G)) [.int a0, .int a1, .int a2, .int a3, .int a4, .int a5].toArray s 0 0 (am_A G)) (F0 m 45 ls [.int s0]) := by
    intro s0 w H locs ls hf hH hl
    unfold f_X12_byteOf_45 at hf
    refine lv_istore (lv' := [(6, .int s0), (5, .int a5)]) hx hb dX12_byteOf_45 hl (by decide) rfl (fun ls hl => ?_)
    refine lv_iload hx hb dX12_byteOf_47 (lv_at hl 0 rfl) ?_
    refine lv_bipush (v := 24) hx hb dX12_byteOf_49 (by decide) ?_
    refine lv_bipush (v := 8) hx hb dX12_byteOf_51 (by decide) ?_
    refine lv_iload hx hb dX12_byteOf_53 (lv_at hl 1 rfl) ?_
    refine lv_iconst (v := 4) hx hb dX12_byteOf_55 (by decide) ?_
    refine lv_irem hx hb dX12_byteOf_56 (by decide) ?_
    refine lv_imul hx hb dX12_byteOf_57 ?_
    refine lv_isub hx hb dX12_byteOf_58 ?_
    refine lv_ishr hx hb dX12_byteOf_59 ?_
    refine lv_sipush (v := 255) hx hb dX12_byteOf_60 (by decide) ?_
    refine lv_iand hx hb dX12_byteOf_63 ?_
    exact am_reti hx hb hr hlocks hH hf dX12_byteOf_64
  refine am_enter (lv := [(0, .int a0), (1, .int a1), (2, .int a2), (3, .int a3), (4, .int a4), (5, .int a5)]) (Nat.le_of_ble_eq_true rfl) rfl (fun ls hl => ?_)
  unfold f_X12_byteOf at hf
  refine am_start hH (fun H locs hH => ?_)
  refine lv_iload hx hb dX12_byteOf_0 (lv_at hl 5 rfl) ?_
  refine lv_iconst (v := 4) hx hb dX12_byteOf_2 (by decide) ?_
  refine lv_icmp_ge (tgt := 10) hx hb dX12_byteOf_3 (by decide) (fun hc_5 => ?_) (fun hc_5 => ?_)
  · have hf := (if_pos hc_5).symm.trans hf
    refine lv_iload hx hb dX12_byteOf_10 (lv_at hl 5 rfl) ?_
    refine lv_bipush (v := 8) hx hb dX12_byteOf_12 (by decide) ?_
    refine lv_icmp_ge (tgt := 21) hx hb dX12_byteOf_14 (by decide) (fun hc_6 => ?_) (fun hc_6 => ?_)
    · have hf := (if_pos hc_6).symm.trans hf
      refine lv_iload hx hb dX12_byteOf_21 (lv_at hl 5 rfl) ?_
      refine lv_bipush (v := 12) hx hb dX12_byteOf_23 (by decide) ?_
      refine lv_icmp_ge (tgt := 32) hx hb dX12_byteOf_25 (by decide) (fun hc_7 => ?_) (fun hc_7 => ?_)
      · have hf := (if_pos hc_7).symm.trans hf
        refine lv_iload hx hb dX12_byteOf_32 (lv_at hl 5 rfl) ?_
        refine lv_bipush (v := 16) hx hb dX12_byteOf_34 (by decide) ?_
        refine lv_icmp_ge (tgt := 43) hx hb dX12_byteOf_36 (by decide) (fun hc_8 => ?_) (fun hc_8 => ?_)
        · have hf := (if_pos hc_8).symm.trans hf
          refine lv_iload hx hb dX12_byteOf_43 (lv_at hl 4 rfl) ?_
          exact P45 a4 w H locs ls hf hH (lv_sub hl [5] rfl)
        · have hf := (if_neg hc_8).symm.trans hf
          refine lv_iload_n hx hb dX12_byteOf_39 rfl (lv_at hl 3 rfl) ?_
          refine lv_goto (tgt := 45) hx hb dX12_byteOf_40 (by decide) ?_
          exact P45 a3 w H locs ls hf hH (lv_sub hl [5] rfl)
      · have hf := (if_neg hc_7).symm.trans hf
        refine lv_iload_n hx hb dX12_byteOf_28 rfl (lv_at hl 2 rfl) ?_
        refine lv_goto (tgt := 45) hx hb dX12_byteOf_29 (by decide) ?_
        exact P45 a2 w H locs ls hf hH (lv_sub hl [5] rfl)
    · have hf := (if_neg hc_6).symm.trans hf
      refine lv_iload_n hx hb dX12_byteOf_17 rfl (lv_at hl 1 rfl) ?_
      refine lv_goto (tgt := 45) hx hb dX12_byteOf_18 (by decide) ?_
      exact P45 a1 w H locs ls hf hH (lv_sub hl [5] rfl)
  · have hf := (if_neg hc_5).symm.trans hf
    refine lv_iload_n hx hb dX12_byteOf_6 rfl (lv_at hl 0 rfl) ?_
    refine lv_goto (tgt := 45) hx hb dX12_byteOf_7 (by decide) ?_
    exact P45 a0 w H locs ls hf hH (lv_sub hl [5] rfl)

def f_X12_feed_109 (a1 : Int32) (a2 : Int32) (a3 : Int32) (a4 : Int32) (a5 : Int32) (x7 : Int32) (w : am_S) : Option ((Int32 × am_S) ⊕ (Int32 × am_S)) :=
  am_v (x7 + (1 : Int32)) fun (x7_18 : Int32) => some (.inr (x7_18, w))
def f_X12_feed_62b (a1 : Int32) (a2 : Int32) (a3 : Int32) (a4 : Int32) (a5 : Int32) (x7 : Int32) (w : am_S) : Option ((Int32 × am_S) ⊕ (Int32 × am_S)) :=
  if (20 : Int32) ≤ x7 then (am_x (some (w.1 271 2, w))) else (am_b2 (f_X12_byteOf a1 a2 a3 a4 a5 x7 w) fun r_23 w_21 => if r_23 = 0 then (f_X12_feed_109 a1 a2 a3 a4 a5 x7 w_21) else (am_chk (w_21.1 271 2) 240 (am_v (am_pi w_21 272 (w_21.1 271 2).toNatClampNeg r_23) fun (w_26 : am_S) => am_v (am_pi w_26 271 2 ((w_26.1 271 2) + (1 : Int32))) fun (w_27 : am_S) => f_X12_feed_109 a1 a2 a3 a4 a5 x7 w_27)))
def f_X12_feed_62 (a1 : Int32) (a2 : Int32) (a3 : Int32) (a4 : Int32) (a5 : Int32) (x7 : Int32) (w : am_S) : Option (Int32 × am_S) :=
  am_loop (fun (st : (Int32 × am_S)) => f_X12_feed_62b a1 a2 a3 a4 a5 st.1 st.2) am_fuel (x7, w)
def f_X12_feed_35 (a1 : Int32) (a2 : Int32) (a3 : Int32) (a4 : Int32) (a5 : Int32) (x7 : Int32) (s0 : Int32) (s1 : Int32) (w : am_S) : Option ((Int32 × am_S) ⊕ (Int32 × Int32 × am_S)) :=
  am_v (s1 + s0) fun (x6_28 : Int32) => am_v (x7 + (1 : Int32)) fun (x7_29 : Int32) => some (.inr (x6_28, x7_29, w))
def f_X12_feed_6b (a1 : Int32) (a2 : Int32) (a3 : Int32) (a4 : Int32) (a5 : Int32) (x6 : Int32) (x7 : Int32) (w : am_S) : Option ((Int32 × am_S) ⊕ (Int32 × Int32 × am_S)) :=
  if (20 : Int32) ≤ x7 then (am_x (if ((w.1 271 2) + x6) ≤ (240 : Int32) then (f_X12_feed_62 a1 a2 a3 a4 a5 (0 : Int32) w) else (some ((-1 : Int32), w)))) else (am_b2 (f_X12_byteOf a1 a2 a3 a4 a5 x7 w) fun r_35 w_33 => if r_35 = 0 then (f_X12_feed_35 a1 a2 a3 a4 a5 x7 (0 : Int32) x6 w_33) else (f_X12_feed_35 a1 a2 a3 a4 a5 x7 (1 : Int32) x6 w_33))
def f_X12_feed_6 (a1 : Int32) (a2 : Int32) (a3 : Int32) (a4 : Int32) (a5 : Int32) (x6 : Int32) (x7 : Int32) (w : am_S) : Option (Int32 × am_S) :=
  am_loop (fun (st : (Int32 × Int32 × am_S)) => f_X12_feed_6b a1 a2 a3 a4 a5 st.1 st.2.1 st.2.2) am_fuel (x6, x7, w)
def f_X12_feed (a1 : Int32) (a2 : Int32) (a3 : Int32) (a4 : Int32) (a5 : Int32) (w : am_S) : Option (Int32 × am_S) :=
  f_X12_feed_6 a1 a2 a3 a4 a5 (0 : Int32) (0 : Int32) w
set_option maxRecDepth 100000 in
set_option maxHeartbeats 4000000 in
theorem k_X12_feed {G : am_G} {l : Launch} {a1 : Int32} {a2 : Int32} {a3 : Int32} {a4 : Int32} {a5 : Int32}  {w : am_S} {rr : Int32} {ww : am_S} (hf : f_X12_feed a1 a2 a3 a4 a5 w = some (rr, ww)) : am_Mi G l yX12_feed (Cond.code yX12_feed cX12_feed 9 (some .int) :: am_T) { frames := 1, cells := 0, slots := 0, locals := 64 } [.ref (G.1 + 271), .int a1, .int a2, .int a3, .int a4, .int a5] w rr ww := by
  refine Met.ofW (cc := cX12_feed) (maxL := 9) (ret := (some .int)) (by decide) rfl ?_
  intro p e s m args below meth c s₁ B hml hv
  obtain ⟨rfl, hx, hb, hr, hts, hown, hlocks, hK, hE, hH⟩ := am_begin B hv
  have hown : s.vm.findClass RX12 = some m.cls := hown
  show W p l e { frames := 1, cells := 0, slots := 0, locals := 64 } s m _ below meth c s.heap [] 0 0 _ _
  have P62 : ∀ (n1 : Nat) (x7 : Int32) (w : am_S) (H : Heap) (locs : List Loc) (ls : Array Slot), am_loop (fun (st : (Int32 × am_S)) => f_X12_feed_62b a1 a2 a3 a4 a5 st.1 st.2) n1 (x7, w) = some (rr, ww) → am_H G w s H locs → lv_has ls 9 [(0, .ref (G.1 + 271)), (1, .int a1), (2, .int a2), (3, .int a3), (4, .int a4), (5, .int a5), (7, .int x7)] → W p l e { frames := 1, cells := 0, slots := 0, locals := 64 } s m [.ref (G.1 + 271), .int a1, .int a2, .int a3, .int a4, .int a5].toArray below meth c H locs 0 0 (MQ below (va_Qi (fun (x : Int32) (u : am_S) => x = rr ∧ u = ww) (am_U G) (am_A G)) [.ref (G.1 + 271), .int a1, .int a2, .int a3, .int a4, .int a5].toArray s 0 0 (am_A G)) (F0 m 62 ls []) := by
    intro n1
    induction n1 with
    | zero =>
      intro x7 w H locs ls hf hH hl
      exact (am_loop_zero hf).elim
    | succ n1 ih1 =>
      intro x7 w H locs ls hf hH hl
      obtain ⟨z1, hf, hk1⟩ := am_loop_succ hf
      have hf : f_X12_feed_62b a1 a2 a3 a4 a5 x7 w = some z1 := hf
      have P109 : ∀ (x7 : Int32) (w : am_S) (z1 : ((Int32 × am_S) ⊕ (Int32 × am_S))) (H : Heap) (locs : List Loc) (ls : Array Slot), f_X12_feed_109 a1 a2 a3 a4 a5 x7 w = some z1 → am_lk (fun (st : (Int32 × am_S)) => f_X12_feed_62b a1 a2 a3 a4 a5 st.1 st.2) n1 (rr, ww) z1 → am_H G w s H locs → lv_has ls 9 [(0, .ref (G.1 + 271)), (1, .int a1), (2, .int a2), (3, .int a3), (4, .int a4), (5, .int a5), (7, .int x7)] → W p l e { frames := 1, cells := 0, slots := 0, locals := 64 } s m [.ref (G.1 + 271), .int a1, .int a2, .int a3, .int a4, .int a5].toArray below meth c H locs 0 0 (MQ below (va_Qi (fun (x : Int32) (u : am_S) => x = rr ∧ u = ww) (am_U G) (am_A G)) [.ref (G.1 + 271), .int a1, .int a2, .int a3, .int a4, .int a5].toArray s 0 0 (am_A G)) (F0 m 109 ls []) := by
        intro x7 w z1 H locs ls hf hk1 hH hl
        unfold f_X12_feed_109 at hf
        obtain ⟨x7_18, hx7_18, hf⟩ := am_v_some hf
        refine lv_iinc (v := x7_18) (lv' := [(7, .int x7_18), (0, .ref (G.1 + 271)), (1, .int a1), (2, .int a2), (3, .int a3), (4, .int a4), (5, .int a5)]) hx hb dX12_feed_109 hl (k := 6) rfl (by rw [hx7_18]; rfl) (by decide) rfl (fun ls hl => ?_)
        refine lv_goto (tgt := 62) hx hb dX12_feed_112 (by decide) ?_
        obtain rfl := Option.some.inj hf
        exact ih1 x7_18 w H locs ls hk1 hH (lv_sub hl [1, 2, 3, 4, 5, 6, 0] rfl)
      unfold f_X12_feed_62b at hf
      refine lv_iload hx hb dX12_feed_62 (lv_at hl 6 rfl) ?_
      refine lv_bipush (v := 20) hx hb dX12_feed_64 (by decide) ?_
      refine lv_icmp_ge (tgt := 115) hx hb dX12_feed_66 (by decide) (fun hc_19 => ?_) (fun hc_19 => ?_)
      · have hf := (if_pos hc_19).symm.trans hf
        obtain ⟨y_20, hf, hzy_20⟩ := am_x_some hf
        rw [hzy_20] at hk1
        have hf := hf.trans (congrArg some (show y_20 = (rr, ww) from hk1))
        refine lv_aload_n hx hb dX12_feed_115 rfl (lv_at hl 0 rfl) ?_
        refine am_get hx hb hts hK hown hH (am_o12 (p := 271) (by decide +kernel)) rfl am_inX12 2 (by decide) am_q1321 (v := .int (w.1 271 2)) rfl dX12_feed_116 ?_
        exact am_reti hx hb hr hlocks hH hf dX12_feed_119
      · have hf := (if_neg hc_19).symm.trans hf
        refine lv_iload_n hx hb dX12_feed_69 rfl (lv_at hl 1 rfl) ?_
        refine lv_iload_n hx hb dX12_feed_70 rfl (lv_at hl 2 rfl) ?_
        refine lv_iload_n hx hb dX12_feed_71 rfl (lv_at hl 3 rfl) ?_
        refine lv_iload hx hb dX12_feed_72 (lv_at hl 4 rfl) ?_
        refine lv_iload hx hb dX12_feed_74 (lv_at hl 5 rfl) ?_
        refine lv_iload hx hb dX12_feed_76 (lv_at hl 6 rfl) ?_
        obtain ⟨r_23, w_21, hq_22, hf⟩ := am_b2_some hf
        refine am_calli (r := r_23) (w' := w_21) (am_runS (n := 6) (As := [.int a1, .int a2, .int a3, .int a4, .int a5, .int x7]) (rest := []) ⟨hx, hb, hml, hown, hts⟩ hK hE hH (k_X12_byteOf hq_22) (am_gS am_q1418 am_q1419 am_q13 am_q1420) ⟨rfl, rfl⟩ (by decide +kernel) ⟨Nat.le_of_ble_eq_true rfl, Nat.le_of_ble_eq_true rfl⟩ rfl hl.1 rfl (Nat.le_of_ble_eq_true rfl) ⟨Nat.zero_le _, Nat.zero_le _⟩ dX12_feed_78) hH (fun H locs hH => ?_)
        refine lv_istore (lv' := [(8, .int r_23), (0, .ref (G.1 + 271)), (1, .int a1), (2, .int a2), (3, .int a3), (4, .int a4), (5, .int a5), (7, .int x7)]) hx hb dX12_feed_81 hl (by decide) rfl (fun ls hl => ?_)
        refine lv_iload hx hb dX12_feed_83 (lv_at hl 0 rfl) ?_
        refine lv_if_eq (tgt := 109) hx hb dX12_feed_85 (by decide) (fun hc_24 => ?_) (fun hc_24 => ?_)
        · have hf := (if_pos hc_24).symm.trans hf
          exact P109 x7 w_21 z1 H locs ls hf hk1 hH (lv_sub hl [1, 2, 3, 4, 5, 6, 7] rfl)
        · have hf := (if_neg hc_24).symm.trans hf
          refine lv_aload_n hx hb dX12_feed_88 rfl (lv_at hl 1 rfl) ?_
          refine am_get hx hb hts hK hown hH (am_o12 (p := 271) (by decide +kernel)) rfl am_inX12 1 (by decide) am_q1320 (v := .ref (G.1 + 272)) rfl dX12_feed_89 ?_
          refine lv_aload_n hx hb dX12_feed_92 rfl (lv_at hl 1 rfl) ?_
          refine am_get hx hb hts hK hown hH (am_o12 (p := 271) (by decide +kernel)) rfl am_inX12 2 (by decide) am_q1321 (v := .int (w_21.1 271 2)) rfl dX12_feed_93 ?_
          refine lv_iload hx hb dX12_feed_96 (lv_at hl 0 rfl) ?_
          obtain ⟨hi_25, hf⟩ := am_chk_some hf
          obtain ⟨w_26, hw_26, hf⟩ := am_v_some hf
          refine am_iast hx hb hK hH (am_ai_of (N := 240) (by decide +kernel)) hi_25 dX12_feed_98 (fun H locs hH => ?_)
          rw [← hw_26] at hH
          refine lv_aload_n hx hb dX12_feed_99 rfl (lv_at hl 1 rfl) ?_
          refine lv_dup hx hb dX12_feed_100 rfl ?_
          refine am_get hx hb hts hK hown hH (am_o12 (p := 271) (by decide +kernel)) rfl am_inX12 2 (by decide) am_q1321 (v := .int (w_26.1 271 2)) rfl dX12_feed_101 ?_
          refine lv_iconst (v := 1) hx hb dX12_feed_104 (by decide) ?_
          refine lv_iadd hx hb dX12_feed_105 ?_
          obtain ⟨w_27, hw_27, hf⟩ := am_v_some hf
          refine am_puti hx hb hts hK hown hH (am_o12 (p := 271) (by decide +kernel)) rfl am_inX12 tyX12 tyX12_ok nmX12 2 (by decide) am_q1321 rfl rfl rfl (fun _ _ => Nat.le_of_ble_eq_true rfl) (fun _ _ _ => rfl) dX12_feed_106 (fun H locs hH => ?_)
          rw [← hw_27] at hH
          exact P109 x7 w_27 z1 H locs ls hf hk1 hH (lv_sub hl [1, 2, 3, 4, 5, 6, 7] rfl)
  have P6 : ∀ (n1 : Nat) (x6 : Int32) (x7 : Int32) (w : am_S) (H : Heap) (locs : List Loc) (ls : Array Slot), am_loop (fun (st : (Int32 × Int32 × am_S)) => f_X12_feed_6b a1 a2 a3 a4 a5 st.1 st.2.1 st.2.2) n1 (x6, x7, w) = some (rr, ww) → am_H G w s H locs → lv_has ls 9 [(0, .ref (G.1 + 271)), (1, .int a1), (2, .int a2), (3, .int a3), (4, .int a4), (5, .int a5), (6, .int x6), (7, .int x7)] → W p l e { frames := 1, cells := 0, slots := 0, locals := 64 } s m [.ref (G.1 + 271), .int a1, .int a2, .int a3, .int a4, .int a5].toArray below meth c H locs 0 0 (MQ below (va_Qi (fun (x : Int32) (u : am_S) => x = rr ∧ u = ww) (am_U G) (am_A G)) [.ref (G.1 + 271), .int a1, .int a2, .int a3, .int a4, .int a5].toArray s 0 0 (am_A G)) (F0 m 6 ls []) := by
    intro n1
    induction n1 with
    | zero =>
      intro x6 x7 w H locs ls hf hH hl
      exact (am_loop_zero hf).elim
    | succ n1 ih1 =>
      intro x6 x7 w H locs ls hf hH hl
      obtain ⟨z1, hf, hk1⟩ := am_loop_succ hf
      have hf : f_X12_feed_6b a1 a2 a3 a4 a5 x6 x7 w = some z1 := hf
      have P35 : ∀ (x7 : Int32) (s0 : Int32) (s1 : Int32) (w : am_S) (z1 : ((Int32 × am_S) ⊕ (Int32 × Int32 × am_S))) (H : Heap) (locs : List Loc) (ls : Array Slot), f_X12_feed_35 a1 a2 a3 a4 a5 x7 s0 s1 w = some z1 → am_lk (fun (st : (Int32 × Int32 × am_S)) => f_X12_feed_6b a1 a2 a3 a4 a5 st.1 st.2.1 st.2.2) n1 (rr, ww) z1 → am_H G w s H locs → lv_has ls 9 [(0, .ref (G.1 + 271)), (1, .int a1), (2, .int a2), (3, .int a3), (4, .int a4), (5, .int a5), (7, .int x7)] → W p l e { frames := 1, cells := 0, slots := 0, locals := 64 } s m [.ref (G.1 + 271), .int a1, .int a2, .int a3, .int a4, .int a5].toArray below meth c H locs 0 0 (MQ below (va_Qi (fun (x : Int32) (u : am_S) => x = rr ∧ u = ww) (am_U G) (am_A G)) [.ref (G.1 + 271), .int a1, .int a2, .int a3, .int a4, .int a5].toArray s 0 0 (am_A G)) (F0 m 35 ls [.int s0, .int s1]) := by
        intro x7 s0 s1 w z1 H locs ls hf hk1 hH hl
        unfold f_X12_feed_35 at hf
        refine lv_iadd hx hb dX12_feed_35 ?_
        obtain ⟨x6_28, hx6_28, hf⟩ := am_v_some hf
        refine am_topi hx6_28 ?_
        refine lv_istore (lv' := [(6, .int x6_28), (0, .ref (G.1 + 271)), (1, .int a1), (2, .int a2), (3, .int a3), (4, .int a4), (5, .int a5), (7, .int x7)]) hx hb dX12_feed_36 hl (by decide) rfl (fun ls hl => ?_)
        obtain ⟨x7_29, hx7_29, hf⟩ := am_v_some hf
        refine lv_iinc (v := x7_29) (lv' := [(7, .int x7_29), (6, .int x6_28), (0, .ref (G.1 + 271)), (1, .int a1), (2, .int a2), (3, .int a3), (4, .int a4), (5, .int a5)]) hx hb dX12_feed_38 hl (k := 7) rfl (by rw [hx7_29]; rfl) (by decide) rfl (fun ls hl => ?_)
        refine lv_goto (tgt := 6) hx hb dX12_feed_41 (by decide) ?_
        obtain rfl := Option.some.inj hf
        exact ih1 x6_28 x7_29 w H locs ls hk1 hH (lv_sub hl [2, 3, 4, 5, 6, 7, 1, 0] rfl)
      unfold f_X12_feed_6b at hf
      refine lv_iload hx hb dX12_feed_6 (lv_at hl 7 rfl) ?_
      refine lv_bipush (v := 20) hx hb dX12_feed_8 (by decide) ?_
      refine lv_icmp_ge (tgt := 44) hx hb dX12_feed_10 (by decide) (fun hc_30 => ?_) (fun hc_30 => ?_)
      · have hf := (if_pos hc_30).symm.trans hf
        obtain ⟨y_31, hf, hzy_31⟩ := am_x_some hf
        rw [hzy_31] at hk1
        have hf := hf.trans (congrArg some (show y_31 = (rr, ww) from hk1))
        refine lv_aload_n hx hb dX12_feed_44 rfl (lv_at hl 0 rfl) ?_
        refine am_get hx hb hts hK hown hH (am_o12 (p := 271) (by decide +kernel)) rfl am_inX12 2 (by decide) am_q1321 (v := .int (w.1 271 2)) rfl dX12_feed_45 ?_
        refine lv_iload hx hb dX12_feed_48 (lv_at hl 6 rfl) ?_
        refine lv_iadd hx hb dX12_feed_50 ?_
        refine lv_sipush (v := 240) hx hb dX12_feed_51 (by decide) ?_
        refine lv_icmp_le (tgt := 59) hx hb dX12_feed_54 (by decide) (fun hc_32 => ?_) (fun hc_32 => ?_)
        · have hf := (if_pos hc_32).symm.trans hf
          refine lv_iconst (v := 0) hx hb dX12_feed_59 (by decide) ?_
          refine lv_istore (lv' := [(7, .int (0 : Int32)), (0, .ref (G.1 + 271)), (1, .int a1), (2, .int a2), (3, .int a3), (4, .int a4), (5, .int a5), (6, .int x6)]) hx hb dX12_feed_60 hl (by decide) rfl (fun ls hl => ?_)
          exact P62 am_fuel (0 : Int32) w H locs ls hf hH (lv_sub hl [1, 2, 3, 4, 5, 6, 0] rfl)
        · have hf := (if_neg hc_32).symm.trans hf
          refine lv_iconst (v := -1) hx hb dX12_feed_57 (by decide) ?_
          exact am_reti hx hb hr hlocks hH hf dX12_feed_58
      · have hf := (if_neg hc_30).symm.trans hf
        refine lv_iload hx hb dX12_feed_13 (lv_at hl 6 rfl) ?_
        refine lv_iload_n hx hb dX12_feed_15 rfl (lv_at hl 1 rfl) ?_
        refine lv_iload_n hx hb dX12_feed_16 rfl (lv_at hl 2 rfl) ?_
        refine lv_iload_n hx hb dX12_feed_17 rfl (lv_at hl 3 rfl) ?_
        refine lv_iload hx hb dX12_feed_18 (lv_at hl 4 rfl) ?_
        refine lv_iload hx hb dX12_feed_20 (lv_at hl 5 rfl) ?_
        refine lv_iload hx hb dX12_feed_22 (lv_at hl 7 rfl) ?_
        obtain ⟨r_35, w_33, hq_34, hf⟩ := am_b2_some hf
        refine am_calli (r := r_35) (w' := w_33) (am_runS (n := 6) (As := [.int a1, .int a2, .int a3, .int a4, .int a5, .int x7]) (rest := [.int x6]) ⟨hx, hb, hml, hown, hts⟩ hK hE hH (k_X12_byteOf hq_34) (am_gS am_q1418 am_q1419 am_q13 am_q1420) ⟨rfl, rfl⟩ (by decide +kernel) ⟨Nat.le_of_ble_eq_true rfl, Nat.le_of_ble_eq_true rfl⟩ rfl hl.1 rfl (Nat.le_of_ble_eq_true rfl) ⟨Nat.zero_le _, Nat.zero_le _⟩ dX12_feed_24) hH (fun H locs hH => ?_)
        refine lv_if_eq (tgt := 34) hx hb dX12_feed_27 (by decide) (fun hc_36 => ?_) (fun hc_36 => ?_)
        · have hf := (if_pos hc_36).symm.trans hf
          refine lv_iconst (v := 0) hx hb dX12_feed_34 (by decide) ?_
          exact P35 x7 (0 : Int32) x6 w_33 z1 H locs ls hf hk1 hH (lv_sub hl [0, 1, 2, 3, 4, 5, 7] rfl)
        · have hf := (if_neg hc_36).symm.trans hf
          refine lv_iconst (v := 1) hx hb dX12_feed_30 (by decide) ?_
          refine lv_goto (tgt := 35) hx hb dX12_feed_31 (by decide) ?_
          exact P35 x7 (1 : Int32) x6 w_33 z1 H locs ls hf hk1 hH (lv_sub hl [0, 1, 2, 3, 4, 5, 7] rfl)
  refine am_enter (lv := [(0, .ref (G.1 + 271)), (1, .int a1), (2, .int a2), (3, .int a3), (4, .int a4), (5, .int a5)]) (Nat.le_of_ble_eq_true rfl) rfl (fun ls hl => ?_)
  unfold f_X12_feed at hf
  refine am_start hH (fun H locs hH => ?_)
  refine lv_iconst (v := 0) hx hb dX12_feed_0 (by decide) ?_
  refine lv_istore (lv' := [(6, .int (0 : Int32)), (0, .ref (G.1 + 271)), (1, .int a1), (2, .int a2), (3, .int a3), (4, .int a4), (5, .int a5)]) hx hb dX12_feed_1 hl (by decide) rfl (fun ls hl => ?_)
  refine lv_iconst (v := 0) hx hb dX12_feed_3 (by decide) ?_
  refine lv_istore (lv' := [(7, .int (0 : Int32)), (6, .int (0 : Int32)), (0, .ref (G.1 + 271)), (1, .int a1), (2, .int a2), (3, .int a3), (4, .int a4), (5, .int a5)]) hx hb dX12_feed_4 hl (by decide) rfl (fun ls hl => ?_)
  exact P6 am_fuel (0 : Int32) (0 : Int32) w H locs ls hf hH (lv_sub hl [2, 3, 4, 5, 6, 7, 1, 0] rfl)

def f_X12_fewest_25 (a1 : Int32) (a2 : Int32) (w : am_S) : Option (Int32 × am_S) :=
  some ((-1 : Int32), w)
def f_X12_fewest_132 (a1 : Int32) (a2 : Int32) (s0 : Int32) (w : am_S) : Option (Int32 × am_S) :=
  some (s0, w)
def f_X12_fewest_112 (a1 : Int32) (a2 : Int32) (x3 : Int32) (x4 : Int32) (x5 : Int32) (w : am_S) : Option ((Int32 × am_S) ⊕ (Int32 × Int32 × am_S)) :=
  am_v (x5 + (1 : Int32)) fun (x5_41 : Int32) => some (.inr (x4, x5_41, w))
def f_X12_fewest_95 (a1 : Int32) (a2 : Int32) (x3 : Int32) (x4 : Int32) (x5 : Int32) (s0 : Int32) (s1 : Int32) (w : am_S) : Option ((Int32 × am_S) ⊕ (Int32 × Int32 × am_S)) :=
  am_b2 (f_X12_knownWith s1 s0 w) fun r_44 w_42 => am_b2 (f_X12_everybody w_42) fun r_47 w_45 => if (r_44 ||| x5) = r_47 then (f_X12_fewest_112 a1 a2 x3 x5 x5 w_45) else (f_X12_fewest_112 a1 a2 x3 x4 x5 w_45)
def f_X12_fewest_75 (a1 : Int32) (a2 : Int32) (x3 : Int32) (x4 : Int32) (x5 : Int32) (s0 : Int32) (w : am_S) : Option ((Int32 × am_S) ⊕ (Int32 × Int32 × am_S)) :=
  if s0 = 0 then (f_X12_fewest_112 a1 a2 x3 x4 x5 w) else (if a1 = (1 : Int32) then (f_X12_fewest_95 a1 a2 x3 x4 x5 (1 : Int32) x5 w) else (f_X12_fewest_95 a1 a2 x3 x4 x5 (0 : Int32) x5 w))
def f_X12_fewest_74 (a1 : Int32) (a2 : Int32) (x3 : Int32) (x4 : Int32) (x5 : Int32) (w : am_S) : Option ((Int32 × am_S) ⊕ (Int32 × Int32 × am_S)) :=
  f_X12_fewest_75 a1 a2 x3 x4 x5 (0 : Int32) w
def f_X12_fewest_42b (a1 : Int32) (a2 : Int32) (x3 : Int32) (x4 : Int32) (x5 : Int32) (w : am_S) : Option ((Int32 × am_S) ⊕ (Int32 × Int32 × am_S)) :=
  if x3 < x5 then (am_x (if a2 = 0 then (am_b2 (f_X12_bits x4 w) fun r_56 w_54 => f_X12_fewest_132 a1 a2 r_56 w_54) else (f_X12_fewest_132 a1 a2 x4 w))) else (if (x5 &&& (x3 ^^^ (-1 : Int32))) = 0 then (am_b2 (f_X12_bits x5 w) fun r_60 w_58 => am_b2 (f_X12_bits x4 w_58) fun r_63 w_61 => if r_63 ≤ r_60 then (f_X12_fewest_74 a1 a2 x3 x4 x5 w_61) else (f_X12_fewest_75 a1 a2 x3 x4 x5 (1 : Int32) w_61)) else (f_X12_fewest_74 a1 a2 x3 x4 x5 w))
def f_X12_fewest_42 (a1 : Int32) (a2 : Int32) (x3 : Int32) (x4 : Int32) (x5 : Int32) (w : am_S) : Option (Int32 × am_S) :=
  am_loop (fun (st : (Int32 × Int32 × am_S)) => f_X12_fewest_42b a1 a2 x3 st.1 st.2.1 st.2.2) am_fuel (x4, x5, w)
def f_X12_fewest (a1 : Int32) (a2 : Int32) (w : am_S) : Option (Int32 × am_S) :=
  am_b2 (f_X12_isField w) fun r_67 w_65 => if r_67 = 0 then (f_X12_fewest_25 a1 a2 w_65) else (am_b2 (f_X12_in a1 (0 : Int32) (1 : Int32) w_65) fun r_71 w_69 => if r_71 = 0 then (f_X12_fewest_25 a1 a2 w_69) else (am_b2 (f_X12_in a2 (0 : Int32) (1 : Int32) w_69) fun r_75 w_73 => if r_75 = 0 then (f_X12_fewest_25 a1 a2 w_73) else (am_b1 (f_X12_layOccupied w_73) fun w_77 => am_b2 (f_X12_unknownOnes w_77) fun r_81 w_79 => f_X12_fewest_42 a1 a2 r_81 r_81 (0 : Int32) w_79)))
set_option maxRecDepth 100000 in
set_option maxHeartbeats 4000000 in
theorem k_X12_fewest {G : am_G} {l : Launch} {a1 : Int32} {a2 : Int32}  {w : am_S} {rr : Int32} {ww : am_S} (hf : f_X12_fewest a1 a2 w = some (rr, ww)) : am_Mi G l yX12_fewest (Cond.code yX12_fewest cX12_fewest 7 (some .int) :: am_T) { frames := 4, cells := 0, slots := 0, locals := 256 } [.ref (G.1 + 271), .int a1, .int a2] w rr ww := by
  refine Met.ofW (cc := cX12_fewest) (maxL := 7) (ret := (some .int)) (by decide) rfl ?_
  intro p e s m args below meth c s₁ B hml hv
  obtain ⟨rfl, hx, hb, hr, hts, hown, hlocks, hK, hE, hH⟩ := am_begin B hv
  have hown : s.vm.findClass RX12 = some m.cls := hown
  show W p l e { frames := 4, cells := 0, slots := 0, locals := 256 } s m _ below meth c s.heap [] 0 0 _ _
  have P25 : ∀ (w : am_S) (H : Heap) (locs : List Loc) (ls : Array Slot), f_X12_fewest_25 a1 a2 w = some (rr, ww) → am_H G w s H locs → lv_has ls 7 [] → W p l e { frames := 4, cells := 0, slots := 0, locals := 256 } s m [.ref (G.1 + 271), .int a1, .int a2].toArray below meth c H locs 0 0 (MQ below (va_Qi (fun (x : Int32) (u : am_S) => x = rr ∧ u = ww) (am_U G) (am_A G)) [.ref (G.1 + 271), .int a1, .int a2].toArray s 0 0 (am_A G)) (F0 m 25 ls []) := by
    intro w H locs ls hf hH hl
    unfold f_X12_fewest_25 at hf
    refine lv_iconst (v := -1) hx hb dX12_fewest_25 (by decide) ?_
    exact am_reti hx hb hr hlocks hH hf dX12_fewest_26
  have P132 : ∀ (s0 : Int32) (w : am_S) (H : Heap) (locs : List Loc) (ls : Array Slot), f_X12_fewest_132 a1 a2 s0 w = some (rr, ww) → am_H G w s H locs → lv_has ls 7 [] → W p l e { frames := 4, cells := 0, slots := 0, locals := 256 } s m [.ref (G.1 + 271), .int a1, .int a2].toArray below meth c H locs 0 0 (MQ below (va_Qi (fun (x : Int32) (u : am_S) => x = rr ∧ u = ww) (am_U G) (am_A G)) [.ref (G.1 + 271), .int a1, .int a2].toArray s 0 0 (am_A G)) (F0 m 132 ls [.int s0]) := by
    intro s0 w H locs ls hf hH hl
    unfold f_X12_fewest_132 at hf
    exact am_reti hx hb hr hlocks hH hf dX12_fewest_132
  have P42 : ∀ (x3 : Int32) (n1 : Nat) (x4 : Int32) (x5 : Int32) (w : am_S) (H : Heap) (locs : List Loc) (ls : Array Slot), am_loop (fun (st : (Int32 × Int32 × am_S)) => f_X12_fewest_42b a1 a2 x3 st.1 st.2.1 st.2.2) n1 (x4, x5, w) = some (rr, ww) → am_H G w s H locs → lv_has ls 7 [(0, .ref (G.1 + 271)), (1, .int a1), (2, .int a2), (3, .int x3), (4, .int x4), (5, .int x5)] → W p l e { frames := 4, cells := 0, slots := 0, locals := 256 } s m [.ref (G.1 + 271), .int a1, .int a2].toArray below meth c H locs 0 0 (MQ below (va_Qi (fun (x : Int32) (u : am_S) => x = rr ∧ u = ww) (am_U G) (am_A G)) [.ref (G.1 + 271), .int a1, .int a2].toArray s 0 0 (am_A G)) (F0 m 42 ls []) := by
    intro x3 n1
    induction n1 with
    | zero =>
      intro x4 x5 w H locs ls hf hH hl
      exact (am_loop_zero hf).elim
    | succ n1 ih1 =>
      intro x4 x5 w H locs ls hf hH hl
      obtain ⟨z1, hf, hk1⟩ := am_loop_succ hf
      have hf : f_X12_fewest_42b a1 a2 x3 x4 x5 w = some z1 := hf
      have P112 : ∀ (x4 : Int32) (x5 : Int32) (w : am_S) (z1 : ((Int32 × am_S) ⊕ (Int32 × Int32 × am_S))) (H : Heap) (locs : List Loc) (ls : Array Slot), f_X12_fewest_112 a1 a2 x3 x4 x5 w = some z1 → am_lk (fun (st : (Int32 × Int32 × am_S)) => f_X12_fewest_42b a1 a2 x3 st.1 st.2.1 st.2.2) n1 (rr, ww) z1 → am_H G w s H locs → lv_has ls 7 [(0, .ref (G.1 + 271)), (1, .int a1), (2, .int a2), (3, .int x3), (4, .int x4), (5, .int x5)] → W p l e { frames := 4, cells := 0, slots := 0, locals := 256 } s m [.ref (G.1 + 271), .int a1, .int a2].toArray below meth c H locs 0 0 (MQ below (va_Qi (fun (x : Int32) (u : am_S) => x = rr ∧ u = ww) (am_U G) (am_A G)) [.ref (G.1 + 271), .int a1, .int a2].toArray s 0 0 (am_A G)) (F0 m 112 ls []) := by
        intro x4 x5 w z1 H locs ls hf hk1 hH hl
        unfold f_X12_fewest_112 at hf
        obtain ⟨x5_41, hx5_41, hf⟩ := am_v_some hf
        refine lv_iinc (v := x5_41) (lv' := [(5, .int x5_41), (0, .ref (G.1 + 271)), (1, .int a1), (2, .int a2), (3, .int x3), (4, .int x4)]) hx hb dX12_fewest_112 hl (k := 5) rfl (by rw [hx5_41]; rfl) (by decide) rfl (fun ls hl => ?_)
        refine lv_goto (tgt := 42) hx hb dX12_fewest_115 (by decide) ?_
        obtain rfl := Option.some.inj hf
        exact ih1 x4 x5_41 w H locs ls hk1 hH (lv_sub hl [1, 2, 3, 4, 5, 0] rfl)
      have P95 : ∀ (x4 : Int32) (x5 : Int32) (s0 : Int32) (s1 : Int32) (w : am_S) (z1 : ((Int32 × am_S) ⊕ (Int32 × Int32 × am_S))) (H : Heap) (locs : List Loc) (ls : Array Slot), f_X12_fewest_95 a1 a2 x3 x4 x5 s0 s1 w = some z1 → am_lk (fun (st : (Int32 × Int32 × am_S)) => f_X12_fewest_42b a1 a2 x3 st.1 st.2.1 st.2.2) n1 (rr, ww) z1 → am_H G w s H locs → lv_has ls 7 [(0, .ref (G.1 + 271)), (1, .int a1), (2, .int a2), (3, .int x3), (4, .int x4), (5, .int x5)] → W p l e { frames := 4, cells := 0, slots := 0, locals := 256 } s m [.ref (G.1 + 271), .int a1, .int a2].toArray below meth c H locs 0 0 (MQ below (va_Qi (fun (x : Int32) (u : am_S) => x = rr ∧ u = ww) (am_U G) (am_A G)) [.ref (G.1 + 271), .int a1, .int a2].toArray s 0 0 (am_A G)) (F0 m 95 ls [.int s0, .int s1, .ref (G.1 + 271)]) := by
        intro x4 x5 s0 s1 w z1 H locs ls hf hk1 hH hl
        unfold f_X12_fewest_95 at hf
        obtain ⟨r_44, w_42, hq_43, hf⟩ := am_b2_some hf
        refine am_calli (r := r_44) (w' := w_42) (am_runV (n := 2) (As := [.int s1, .int s0]) (rest := []) ⟨hx, hb, hml, hown, hts⟩ hK hE hH (k_X12_knownWith hq_43) (am_gV am_q1846 am_q1848 am_qs108 am_q13 am_q1849) (am_o12 (p := 271) (by decide +kernel)) rfl ⟨rfl, rfl⟩ (by decide +kernel) ⟨Nat.le_of_ble_eq_true rfl, Nat.le_of_ble_eq_true rfl⟩ rfl hl.1 rfl (Nat.le_of_ble_eq_true rfl) ⟨Nat.zero_le _, Nat.zero_le _⟩ dX12_fewest_95) hH (fun H locs hH => ?_)
        refine lv_iload hx hb dX12_fewest_98 (lv_at hl 5 rfl) ?_
        refine lv_ior hx hb dX12_fewest_100 ?_
        refine lv_aload_n hx hb dX12_fewest_101 rfl (lv_at hl 0 rfl) ?_
        obtain ⟨r_47, w_45, hq_46, hf⟩ := am_b2_some hf
        refine am_calli (r := r_47) (w' := w_45) (am_runV (n := 0) (As := []) (rest := [.int (r_44 ||| x5)]) ⟨hx, hb, hml, hown, hts⟩ hK hE hH (k_X12_everybody hq_46) (am_gV am_q1802 am_q1804 am_qs103 am_q13 am_q1805) (am_o12 (p := 271) (by decide +kernel)) rfl ⟨rfl, rfl⟩ (by decide +kernel) ⟨Nat.le_of_ble_eq_true rfl, Nat.le_of_ble_eq_true rfl⟩ rfl hl.1 rfl (Nat.le_of_ble_eq_true rfl) ⟨Nat.zero_le _, Nat.zero_le _⟩ dX12_fewest_102) hH (fun H locs hH => ?_)
        refine lv_icmp_ne (tgt := 112) hx hb dX12_fewest_105 (by decide) (fun hc_48 => ?_) (fun hc_48 => ?_)
        · have hf := (if_neg hc_48).symm.trans hf
          exact P112 x4 x5 w_45 z1 H locs ls hf hk1 hH (lv_sub hl [0, 1, 2, 3, 4, 5] rfl)
        · have hf := (if_pos hc_48).symm.trans hf
          refine lv_iload hx hb dX12_fewest_108 (lv_at hl 5 rfl) ?_
          refine lv_istore (lv' := [(4, .int x5), (0, .ref (G.1 + 271)), (1, .int a1), (2, .int a2), (3, .int x3), (5, .int x5)]) hx hb dX12_fewest_110 hl (by decide) rfl (fun ls hl => ?_)
          exact P112 x5 x5 w_45 z1 H locs ls hf hk1 hH (lv_sub hl [1, 2, 3, 4, 0, 5] rfl)
      have P75 : ∀ (x4 : Int32) (x5 : Int32) (s0 : Int32) (w : am_S) (z1 : ((Int32 × am_S) ⊕ (Int32 × Int32 × am_S))) (H : Heap) (locs : List Loc) (ls : Array Slot), f_X12_fewest_75 a1 a2 x3 x4 x5 s0 w = some z1 → am_lk (fun (st : (Int32 × Int32 × am_S)) => f_X12_fewest_42b a1 a2 x3 st.1 st.2.1 st.2.2) n1 (rr, ww) z1 → am_H G w s H locs → lv_has ls 7 [(0, .ref (G.1 + 271)), (1, .int a1), (2, .int a2), (3, .int x3), (4, .int x4), (5, .int x5)] → W p l e { frames := 4, cells := 0, slots := 0, locals := 256 } s m [.ref (G.1 + 271), .int a1, .int a2].toArray below meth c H locs 0 0 (MQ below (va_Qi (fun (x : Int32) (u : am_S) => x = rr ∧ u = ww) (am_U G) (am_A G)) [.ref (G.1 + 271), .int a1, .int a2].toArray s 0 0 (am_A G)) (F0 m 75 ls [.int s0]) := by
        intro x4 x5 s0 w z1 H locs ls hf hk1 hH hl
        unfold f_X12_fewest_75 at hf
        refine lv_istore (lv' := [(6, .int s0), (0, .ref (G.1 + 271)), (1, .int a1), (2, .int a2), (3, .int x3), (4, .int x4), (5, .int x5)]) hx hb dX12_fewest_75 hl (by decide) rfl (fun ls hl => ?_)
        refine lv_iload hx hb dX12_fewest_77 (lv_at hl 0 rfl) ?_
        refine lv_if_eq (tgt := 112) hx hb dX12_fewest_79 (by decide) (fun hc_49 => ?_) (fun hc_49 => ?_)
        · have hf := (if_pos hc_49).symm.trans hf
          exact P112 x4 x5 w z1 H locs ls hf hk1 hH (lv_sub hl [1, 2, 3, 4, 5, 6] rfl)
        · have hf := (if_neg hc_49).symm.trans hf
          refine lv_aload_n hx hb dX12_fewest_82 rfl (lv_at hl 1 rfl) ?_
          refine lv_iload hx hb dX12_fewest_83 (lv_at hl 6 rfl) ?_
          refine lv_iload_n hx hb dX12_fewest_85 rfl (lv_at hl 2 rfl) ?_
          refine lv_iconst (v := 1) hx hb dX12_fewest_86 (by decide) ?_
          refine lv_icmp_ne (tgt := 94) hx hb dX12_fewest_87 (by decide) (fun hc_50 => ?_) (fun hc_50 => ?_)
          · have hf := (if_neg hc_50).symm.trans hf
            refine lv_iconst (v := 0) hx hb dX12_fewest_94 (by decide) ?_
            exact P95 x4 x5 (0 : Int32) x5 w z1 H locs ls hf hk1 hH (lv_sub hl [1, 2, 3, 4, 5, 6] rfl)
          · have hf := (if_pos hc_50).symm.trans hf
            refine lv_iconst (v := 1) hx hb dX12_fewest_90 (by decide) ?_
            refine lv_goto (tgt := 95) hx hb dX12_fewest_91 (by decide) ?_
            exact P95 x4 x5 (1 : Int32) x5 w z1 H locs ls hf hk1 hH (lv_sub hl [1, 2, 3, 4, 5, 6] rfl)
      have P74 : ∀ (x4 : Int32) (x5 : Int32) (w : am_S) (z1 : ((Int32 × am_S) ⊕ (Int32 × Int32 × am_S))) (H : Heap) (locs : List Loc) (ls : Array Slot), f_X12_fewest_74 a1 a2 x3 x4 x5 w = some z1 → am_lk (fun (st : (Int32 × Int32 × am_S)) => f_X12_fewest_42b a1 a2 x3 st.1 st.2.1 st.2.2) n1 (rr, ww) z1 → am_H G w s H locs → lv_has ls 7 [(0, .ref (G.1 + 271)), (1, .int a1), (2, .int a2), (3, .int x3), (4, .int x4), (5, .int x5)] → W p l e { frames := 4, cells := 0, slots := 0, locals := 256 } s m [.ref (G.1 + 271), .int a1, .int a2].toArray below meth c H locs 0 0 (MQ below (va_Qi (fun (x : Int32) (u : am_S) => x = rr ∧ u = ww) (am_U G) (am_A G)) [.ref (G.1 + 271), .int a1, .int a2].toArray s 0 0 (am_A G)) (F0 m 74 ls []) := by
        intro x4 x5 w z1 H locs ls hf hk1 hH hl
        unfold f_X12_fewest_74 at hf
        refine lv_iconst (v := 0) hx hb dX12_fewest_74 (by decide) ?_
        exact P75 x4 x5 (0 : Int32) w z1 H locs ls hf hk1 hH (lv_sub hl [0, 1, 2, 3, 4, 5] rfl)
      unfold f_X12_fewest_42b at hf
      refine lv_iload hx hb dX12_fewest_42 (lv_at hl 5 rfl) ?_
      refine lv_iload_n hx hb dX12_fewest_44 rfl (lv_at hl 3 rfl) ?_
      refine lv_icmp_gt (tgt := 118) hx hb dX12_fewest_45 (by decide) (fun hc_51 => ?_) (fun hc_51 => ?_)
      · have hf := (if_pos hc_51).symm.trans hf
        obtain ⟨y_52, hf, hzy_52⟩ := am_x_some hf
        rw [hzy_52] at hk1
        have hf := hf.trans (congrArg some (show y_52 = (rr, ww) from hk1))
        refine lv_iload_n hx hb dX12_fewest_118 rfl (lv_at hl 2 rfl) ?_
        refine lv_if_ne (tgt := 130) hx hb dX12_fewest_119 (by decide) (fun hc_53 => ?_) (fun hc_53 => ?_)
        · have hf := (if_neg hc_53).symm.trans hf
          refine lv_iload hx hb dX12_fewest_130 (lv_at hl 4 rfl) ?_
          exact P132 x4 w H locs ls hf hH (lv_sub hl [] rfl)
        · have hf := (if_pos hc_53).symm.trans hf
          refine lv_iload hx hb dX12_fewest_122 (lv_at hl 4 rfl) ?_
          obtain ⟨r_56, w_54, hq_55, hf⟩ := am_b2_some hf
          refine am_calli (r := r_56) (w' := w_54) (am_runS (n := 1) (As := [.int x4]) (rest := []) ⟨hx, hb, hml, hown, hts⟩ hK hE hH (k_X12_bits hq_55) (am_gS am_q1629 am_q1630 am_q13 am_q1631) ⟨rfl, rfl⟩ (by decide +kernel) ⟨Nat.le_of_ble_eq_true rfl, Nat.le_of_ble_eq_true rfl⟩ rfl hl.1 rfl (Nat.le_of_ble_eq_true rfl) ⟨Nat.zero_le _, Nat.zero_le _⟩ dX12_fewest_124) hH (fun H locs hH => ?_)
          refine lv_goto (tgt := 132) hx hb dX12_fewest_127 (by decide) ?_
          exact P132 r_56 w_54 H locs ls hf hH (lv_sub hl [] rfl)
      · have hf := (if_neg hc_51).symm.trans hf
        refine lv_iload hx hb dX12_fewest_48 (lv_at hl 5 rfl) ?_
        refine lv_iload_n hx hb dX12_fewest_50 rfl (lv_at hl 3 rfl) ?_
        refine lv_iconst (v := -1) hx hb dX12_fewest_51 (by decide) ?_
        refine lv_ixor hx hb dX12_fewest_52 ?_
        refine lv_iand hx hb dX12_fewest_53 ?_
        refine lv_if_ne (tgt := 74) hx hb dX12_fewest_54 (by decide) (fun hc_57 => ?_) (fun hc_57 => ?_)
        · have hf := (if_neg hc_57).symm.trans hf
          exact P74 x4 x5 w z1 H locs ls hf hk1 hH (lv_sub hl [0, 1, 2, 3, 4, 5] rfl)
        · have hf := (if_pos hc_57).symm.trans hf
          refine lv_iload hx hb dX12_fewest_57 (lv_at hl 5 rfl) ?_
          obtain ⟨r_60, w_58, hq_59, hf⟩ := am_b2_some hf
          refine am_calli (r := r_60) (w' := w_58) (am_runS (n := 1) (As := [.int x5]) (rest := []) ⟨hx, hb, hml, hown, hts⟩ hK hE hH (k_X12_bits hq_59) (am_gS am_q1629 am_q1630 am_q13 am_q1631) ⟨rfl, rfl⟩ (by decide +kernel) ⟨Nat.le_of_ble_eq_true rfl, Nat.le_of_ble_eq_true rfl⟩ rfl hl.1 rfl (Nat.le_of_ble_eq_true rfl) ⟨Nat.zero_le _, Nat.zero_le _⟩ dX12_fewest_59) hH (fun H locs hH => ?_)
          refine lv_iload hx hb dX12_fewest_62 (lv_at hl 4 rfl) ?_
          obtain ⟨r_63, w_61, hq_62, hf⟩ := am_b2_some hf
          refine am_calli (r := r_63) (w' := w_61) (am_runS (n := 1) (As := [.int x4]) (rest := [.int r_60]) ⟨hx, hb, hml, hown, hts⟩ hK hE hH (k_X12_bits hq_62) (am_gS am_q1629 am_q1630 am_q13 am_q1631) ⟨rfl, rfl⟩ (by decide +kernel) ⟨Nat.le_of_ble_eq_true rfl, Nat.le_of_ble_eq_true rfl⟩ rfl hl.1 rfl (Nat.le_of_ble_eq_true rfl) ⟨Nat.zero_le _, Nat.zero_le _⟩ dX12_fewest_64) hH (fun H locs hH => ?_)
          refine lv_icmp_ge (tgt := 74) hx hb dX12_fewest_67 (by decide) (fun hc_64 => ?_) (fun hc_64 => ?_)
          · have hf := (if_pos hc_64).symm.trans hf
            exact P74 x4 x5 w_61 z1 H locs ls hf hk1 hH (lv_sub hl [0, 1, 2, 3, 4, 5] rfl)
          · have hf := (if_neg hc_64).symm.trans hf
            refine lv_iconst (v := 1) hx hb dX12_fewest_70 (by decide) ?_
            refine lv_goto (tgt := 75) hx hb dX12_fewest_71 (by decide) ?_
            exact P75 x4 x5 (1 : Int32) w_61 z1 H locs ls hf hk1 hH (lv_sub hl [0, 1, 2, 3, 4, 5] rfl)
  refine am_enter (lv := [(0, .ref (G.1 + 271)), (1, .int a1), (2, .int a2)]) (Nat.le_of_ble_eq_true rfl) rfl (fun ls hl => ?_)
  unfold f_X12_fewest at hf
  refine am_start hH (fun H locs hH => ?_)
  refine lv_aload_n hx hb dX12_fewest_0 rfl (lv_at hl 0 rfl) ?_
  obtain ⟨r_67, w_65, hq_66, hf⟩ := am_b2_some hf
  refine am_calli (r := r_67) (w' := w_65) (am_runV (n := 0) (As := []) (rest := []) ⟨hx, hb, hml, hown, hts⟩ hK hE hH (k_X12_isField hq_66) (am_gV am_q1514 am_q1516 am_qs59 am_q13 am_q1517) (am_o12 (p := 271) (by decide +kernel)) rfl ⟨rfl, rfl⟩ (by decide +kernel) ⟨Nat.le_of_ble_eq_true rfl, Nat.le_of_ble_eq_true rfl⟩ rfl hl.1 rfl (Nat.le_of_ble_eq_true rfl) ⟨Nat.zero_le _, Nat.zero_le _⟩ dX12_fewest_1) hH (fun H locs hH => ?_)
  refine lv_if_eq (tgt := 25) hx hb dX12_fewest_4 (by decide) (fun hc_68 => ?_) (fun hc_68 => ?_)
  · have hf := (if_pos hc_68).symm.trans hf
    exact P25 w_65 H locs ls hf hH (lv_sub hl [] rfl)
  · have hf := (if_neg hc_68).symm.trans hf
    refine lv_iload_n hx hb dX12_fewest_7 rfl (lv_at hl 1 rfl) ?_
    refine lv_iconst (v := 0) hx hb dX12_fewest_8 (by decide) ?_
    refine lv_iconst (v := 1) hx hb dX12_fewest_9 (by decide) ?_
    obtain ⟨r_71, w_69, hq_70, hf⟩ := am_b2_some hf
    refine am_calli (r := r_71) (w' := w_69) (am_runS (n := 3) (As := [.int a1, .int (0 : Int32), .int (1 : Int32)]) (rest := []) ⟨hx, hb, hml, hown, hts⟩ hK hE hH (k_X12_in hq_70) (am_gS am_q1425 am_q1426 am_q13 am_q1427) ⟨rfl, rfl⟩ (by decide +kernel) ⟨Nat.le_of_ble_eq_true rfl, Nat.le_of_ble_eq_true rfl⟩ rfl hl.1 rfl (Nat.le_of_ble_eq_true rfl) ⟨Nat.zero_le _, Nat.zero_le _⟩ dX12_fewest_10) hH (fun H locs hH => ?_)
    refine lv_if_eq (tgt := 25) hx hb dX12_fewest_13 (by decide) (fun hc_72 => ?_) (fun hc_72 => ?_)
    · have hf := (if_pos hc_72).symm.trans hf
      exact P25 w_69 H locs ls hf hH (lv_sub hl [] rfl)
    · have hf := (if_neg hc_72).symm.trans hf
      refine lv_iload_n hx hb dX12_fewest_16 rfl (lv_at hl 2 rfl) ?_
      refine lv_iconst (v := 0) hx hb dX12_fewest_17 (by decide) ?_
      refine lv_iconst (v := 1) hx hb dX12_fewest_18 (by decide) ?_
      obtain ⟨r_75, w_73, hq_74, hf⟩ := am_b2_some hf
      refine am_calli (r := r_75) (w' := w_73) (am_runS (n := 3) (As := [.int a2, .int (0 : Int32), .int (1 : Int32)]) (rest := []) ⟨hx, hb, hml, hown, hts⟩ hK hE hH (k_X12_in hq_74) (am_gS am_q1425 am_q1426 am_q13 am_q1427) ⟨rfl, rfl⟩ (by decide +kernel) ⟨Nat.le_of_ble_eq_true rfl, Nat.le_of_ble_eq_true rfl⟩ rfl hl.1 rfl (Nat.le_of_ble_eq_true rfl) ⟨Nat.zero_le _, Nat.zero_le _⟩ dX12_fewest_19) hH (fun H locs hH => ?_)
      refine lv_if_ne (tgt := 27) hx hb dX12_fewest_22 (by decide) (fun hc_76 => ?_) (fun hc_76 => ?_)
      · have hf := (if_neg hc_76).symm.trans hf
        refine lv_aload_n hx hb dX12_fewest_27 rfl (lv_at hl 0 rfl) ?_
        obtain ⟨w_77, hq_78, hf⟩ := am_b1_some hf
        refine am_callv (w' := w_77) (am_runV (n := 0) (As := []) (rest := []) ⟨hx, hb, hml, hown, hts⟩ hK hE hH (k_X12_layOccupied hq_78) (am_gV am_q1794 am_q1796 am_qs101 am_q13 am_q1797) (am_o12 (p := 271) (by decide +kernel)) rfl ⟨rfl, rfl⟩ (by decide +kernel) ⟨Nat.le_of_ble_eq_true rfl, Nat.le_of_ble_eq_true rfl⟩ rfl hl.1 rfl (Nat.le_of_ble_eq_true rfl) ⟨Nat.zero_le _, Nat.zero_le _⟩ dX12_fewest_28) hH (fun H locs hH => ?_)
        refine lv_aload_n hx hb dX12_fewest_31 rfl (lv_at hl 0 rfl) ?_
        obtain ⟨r_81, w_79, hq_80, hf⟩ := am_b2_some hf
        refine am_calli (r := r_81) (w' := w_79) (am_runV (n := 0) (As := []) (rest := []) ⟨hx, hb, hml, hown, hts⟩ hK hE hH (k_X12_unknownOnes hq_80) (am_gV am_q1798 am_q1800 am_qs102 am_q13 am_q1801) (am_o12 (p := 271) (by decide +kernel)) rfl ⟨rfl, rfl⟩ (by decide +kernel) ⟨Nat.le_of_ble_eq_true rfl, Nat.le_of_ble_eq_true rfl⟩ rfl hl.1 rfl (Nat.le_of_ble_eq_true rfl) ⟨Nat.zero_le _, Nat.zero_le _⟩ dX12_fewest_32) hH (fun H locs hH => ?_)
        refine lv_istore_n (lv' := [(3, .int r_81), (0, .ref (G.1 + 271)), (1, .int a1), (2, .int a2)]) hx hb dX12_fewest_35 rfl hl (by decide) rfl (fun ls hl => ?_)
        refine lv_iload_n hx hb dX12_fewest_36 rfl (lv_at hl 0 rfl) ?_
        refine lv_istore (lv' := [(4, .int r_81), (3, .int r_81), (0, .ref (G.1 + 271)), (1, .int a1), (2, .int a2)]) hx hb dX12_fewest_37 hl (by decide) rfl (fun ls hl => ?_)
        refine lv_iconst (v := 0) hx hb dX12_fewest_39 (by decide) ?_
        refine lv_istore (lv' := [(5, .int (0 : Int32)), (4, .int r_81), (3, .int r_81), (0, .ref (G.1 + 271)), (1, .int a1), (2, .int a2)]) hx hb dX12_fewest_40 hl (by decide) rfl (fun ls hl => ?_)
        exact P42 r_81 am_fuel r_81 (0 : Int32) w_79 H locs ls hf hH (lv_sub hl [3, 4, 5, 2, 1, 0] rfl)
      · have hf := (if_pos hc_76).symm.trans hf
        exact P25 w_73 H locs ls hf hH (lv_sub hl [] rfl)

def f_X12_file (a1 : Int32) (a2 : Int32) (w : am_S) : Option (Int32 × am_S) :=
  am_b2 (f_X12_hand (7 : Int32) a1 a2 (0 : Int64) w) fun r_6 w_4 => some (r_6, w_4)
set_option maxRecDepth 100000 in
set_option maxHeartbeats 4000000 in
theorem k_X12_file {G : am_G} {l : Launch} {a1 : Int32} {a2 : Int32}  {w : am_S} {rr : Int32} {ww : am_S} (hf : f_X12_file a1 a2 w = some (rr, ww)) : am_Mi G l yX12_file (Cond.code yX12_file cX12_file 3 (some .int) :: am_T) { frames := 11, cells := 0, slots := 0, locals := 704 } [.ref (G.1 + 271), .int a1, .int a2] w rr ww := by
  refine Met.ofW (cc := cX12_file) (maxL := 3) (ret := (some .int)) (by decide) rfl ?_
  intro p e s m args below meth c s₁ B hml hv
  obtain ⟨rfl, hx, hb, hr, hts, hown, hlocks, hK, hE, hH⟩ := am_begin B hv
  have hown : s.vm.findClass RX12 = some m.cls := hown
  show W p l e { frames := 11, cells := 0, slots := 0, locals := 704 } s m _ below meth c s.heap [] 0 0 _ _
  refine am_enter (lv := [(0, .ref (G.1 + 271)), (1, .int a1), (2, .int a2)]) (Nat.le_of_ble_eq_true rfl) rfl (fun ls hl => ?_)
  unfold f_X12_file at hf
  refine am_start hH (fun H locs hH => ?_)
  refine lv_aload_n hx hb dX12_file_0 rfl (lv_at hl 0 rfl) ?_
  refine lv_bipush (v := 7) hx hb dX12_file_1 (by decide) ?_
  refine lv_iload_n hx hb dX12_file_3 rfl (lv_at hl 1 rfl) ?_
  refine lv_iload_n hx hb dX12_file_4 rfl (lv_at hl 2 rfl) ?_
  refine lv_lconst (v := 0) hx hb dX12_file_5 (by decide) ?_
  obtain ⟨r_6, w_4, hq_5, hf⟩ := am_b2_some hf
  refine am_calli (r := r_6) (w' := w_4) (am_runV (n := 4) (As := [.int (7 : Int32), .int a1, .int a2, .long (0 : Int64)]) (rest := []) ⟨hx, hb, hml, hown, hts⟩ hK hE hH (k_X12_hand hq_5) (am_gV am_q1506 am_q1508 am_qs57 am_q13 am_q1509) (am_o12 (p := 271) (by decide +kernel)) rfl ⟨rfl, rfl⟩ (by decide +kernel) ⟨Nat.le_of_ble_eq_true rfl, Nat.le_of_ble_eq_true rfl⟩ rfl hl.1 rfl (Nat.le_of_ble_eq_true rfl) ⟨Nat.zero_le _, Nat.zero_le _⟩ dX12_file_6) hH (fun H locs hH => ?_)
  exact am_reti hx hb hr hlocks hH hf dX12_file_9

def f_X12_forget (a1 : Int32) (w : am_S) : Option (Int32 × am_S) :=
  am_b2 (f_X12_hand (3 : Int32) a1 (0 : Int32) (0 : Int64) w) fun r_6 w_4 => some (r_6, w_4)
set_option maxRecDepth 100000 in
set_option maxHeartbeats 4000000 in
theorem k_X12_forget {G : am_G} {l : Launch} {a1 : Int32}  {w : am_S} {rr : Int32} {ww : am_S} (hf : f_X12_forget a1 w = some (rr, ww)) : am_Mi G l yX12_forget (Cond.code yX12_forget cX12_forget 2 (some .int) :: am_T) { frames := 11, cells := 0, slots := 0, locals := 704 } [.ref (G.1 + 271), .int a1] w rr ww := by
  refine Met.ofW (cc := cX12_forget) (maxL := 2) (ret := (some .int)) (by decide) rfl ?_
  intro p e s m args below meth c s₁ B hml hv
  obtain ⟨rfl, hx, hb, hr, hts, hown, hlocks, hK, hE, hH⟩ := am_begin B hv
  have hown : s.vm.findClass RX12 = some m.cls := hown
  show W p l e { frames := 11, cells := 0, slots := 0, locals := 704 } s m _ below meth c s.heap [] 0 0 _ _
  refine am_enter (lv := [(0, .ref (G.1 + 271)), (1, .int a1)]) (Nat.le_of_ble_eq_true rfl) rfl (fun ls hl => ?_)
  unfold f_X12_forget at hf
  refine am_start hH (fun H locs hH => ?_)
  refine lv_aload_n hx hb dX12_forget_0 rfl (lv_at hl 0 rfl) ?_
  refine lv_iconst (v := 3) hx hb dX12_forget_1 (by decide) ?_
  refine lv_iload_n hx hb dX12_forget_2 rfl (lv_at hl 1 rfl) ?_
  refine lv_iconst (v := 0) hx hb dX12_forget_3 (by decide) ?_
  refine lv_lconst (v := 0) hx hb dX12_forget_4 (by decide) ?_
  obtain ⟨r_6, w_4, hq_5, hf⟩ := am_b2_some hf
  refine am_calli (r := r_6) (w' := w_4) (am_runV (n := 4) (As := [.int (3 : Int32), .int a1, .int (0 : Int32), .long (0 : Int64)]) (rest := []) ⟨hx, hb, hml, hown, hts⟩ hK hE hH (k_X12_hand hq_5) (am_gV am_q1506 am_q1508 am_qs57 am_q13 am_q1509) (am_o12 (p := 271) (by decide +kernel)) rfl ⟨rfl, rfl⟩ (by decide +kernel) ⟨Nat.le_of_ble_eq_true rfl, Nat.le_of_ble_eq_true rfl⟩ rfl hl.1 rfl (Nat.le_of_ble_eq_true rfl) ⟨Nat.zero_le _, Nat.zero_le _⟩ dX12_forget_5) hH (fun H locs hH => ?_)
  exact am_reti hx hb hr hlocks hH hf dX12_forget_8

def f_X12_copiesIn_27 (a1 : Int32) (x3 : Int32) (s0 : Int32) (s1 : Int32) (w : am_S) : Option ((Int32 × am_S) ⊕ (Int32 × Int32 × am_S)) :=
  am_v (s1 + s0) fun (x2_8 : Int32) => am_v (x3 + (1 : Int32)) fun (x3_9 : Int32) => some (.inr (x2_8, x3_9, w))
def f_X12_copiesIn_4b (a1 : Int32) (x2 : Int32) (x3 : Int32) (w : am_S) : Option ((Int32 × am_S) ⊕ (Int32 × Int32 × am_S)) :=
  if (w.1 271 13) ≤ x3 then (am_x (some (x2, w))) else (am_b2 (f_X12_hasCopy x3 a1 w) fun r_14 w_12 => if r_14 = 0 then (f_X12_copiesIn_27 a1 x3 (0 : Int32) x2 w_12) else (f_X12_copiesIn_27 a1 x3 (1 : Int32) x2 w_12))
def f_X12_copiesIn_4 (a1 : Int32) (x2 : Int32) (x3 : Int32) (w : am_S) : Option (Int32 × am_S) :=
  am_loop (fun (st : (Int32 × Int32 × am_S)) => f_X12_copiesIn_4b a1 st.1 st.2.1 st.2.2) am_fuel (x2, x3, w)
def f_X12_copiesIn (a1 : Int32) (w : am_S) : Option (Int32 × am_S) :=
  f_X12_copiesIn_4 a1 (0 : Int32) (0 : Int32) w
set_option maxRecDepth 100000 in
set_option maxHeartbeats 4000000 in
theorem k_X12_copiesIn {G : am_G} {l : Launch} {a1 : Int32}  {w : am_S} {rr : Int32} {ww : am_S} (hf : f_X12_copiesIn a1 w = some (rr, ww)) : am_Mi G l yX12_copiesIn (Cond.code yX12_copiesIn cX12_copiesIn 4 (some .int) :: am_T) { frames := 2, cells := 0, slots := 0, locals := 128 } [.ref (G.1 + 271), .int a1] w rr ww := by
  refine Met.ofW (cc := cX12_copiesIn) (maxL := 4) (ret := (some .int)) (by decide) rfl ?_
  intro p e s m args below meth c s₁ B hml hv
  obtain ⟨rfl, hx, hb, hr, hts, hown, hlocks, hK, hE, hH⟩ := am_begin B hv
  have hown : s.vm.findClass RX12 = some m.cls := hown
  show W p l e { frames := 2, cells := 0, slots := 0, locals := 128 } s m _ below meth c s.heap [] 0 0 _ _
  have P4 : ∀ (n1 : Nat) (x2 : Int32) (x3 : Int32) (w : am_S) (H : Heap) (locs : List Loc) (ls : Array Slot), am_loop (fun (st : (Int32 × Int32 × am_S)) => f_X12_copiesIn_4b a1 st.1 st.2.1 st.2.2) n1 (x2, x3, w) = some (rr, ww) → am_H G w s H locs → lv_has ls 4 [(0, .ref (G.1 + 271)), (1, .int a1), (2, .int x2), (3, .int x3)] → W p l e { frames := 2, cells := 0, slots := 0, locals := 128 } s m [.ref (G.1 + 271), .int a1].toArray below meth c H locs 0 0 (MQ below (va_Qi (fun (x : Int32) (u : am_S) => x = rr ∧ u = ww) (am_U G) (am_A G)) [.ref (G.1 + 271), .int a1].toArray s 0 0 (am_A G)) (F0 m 4 ls []) := by
    intro n1
    induction n1 with
    | zero =>
      intro x2 x3 w H locs ls hf hH hl
      exact (am_loop_zero hf).elim
    | succ n1 ih1 =>
      intro x2 x3 w H locs ls hf hH hl
      obtain ⟨z1, hf, hk1⟩ := am_loop_succ hf
      have hf : f_X12_copiesIn_4b a1 x2 x3 w = some z1 := hf
      have P27 : ∀ (x3 : Int32) (s0 : Int32) (s1 : Int32) (w : am_S) (z1 : ((Int32 × am_S) ⊕ (Int32 × Int32 × am_S))) (H : Heap) (locs : List Loc) (ls : Array Slot), f_X12_copiesIn_27 a1 x3 s0 s1 w = some z1 → am_lk (fun (st : (Int32 × Int32 × am_S)) => f_X12_copiesIn_4b a1 st.1 st.2.1 st.2.2) n1 (rr, ww) z1 → am_H G w s H locs → lv_has ls 4 [(0, .ref (G.1 + 271)), (1, .int a1), (3, .int x3)] → W p l e { frames := 2, cells := 0, slots := 0, locals := 128 } s m [.ref (G.1 + 271), .int a1].toArray below meth c H locs 0 0 (MQ below (va_Qi (fun (x : Int32) (u : am_S) => x = rr ∧ u = ww) (am_U G) (am_A G)) [.ref (G.1 + 271), .int a1].toArray s 0 0 (am_A G)) (F0 m 27 ls [.int s0, .int s1]) := by
        intro x3 s0 s1 w z1 H locs ls hf hk1 hH hl
        unfold f_X12_copiesIn_27 at hf
        refine lv_iadd hx hb dX12_copiesIn_27 ?_
        obtain ⟨x2_8, hx2_8, hf⟩ := am_v_some hf
        refine am_topi hx2_8 ?_
        refine lv_istore_n (lv' := [(2, .int x2_8), (0, .ref (G.1 + 271)), (1, .int a1), (3, .int x3)]) hx hb dX12_copiesIn_28 rfl hl (by decide) rfl (fun ls hl => ?_)
        obtain ⟨x3_9, hx3_9, hf⟩ := am_v_some hf
        refine lv_iinc (v := x3_9) (lv' := [(3, .int x3_9), (2, .int x2_8), (0, .ref (G.1 + 271)), (1, .int a1)]) hx hb dX12_copiesIn_29 hl (k := 3) rfl (by rw [hx3_9]; rfl) (by decide) rfl (fun ls hl => ?_)
        refine lv_goto (tgt := 4) hx hb dX12_copiesIn_32 (by decide) ?_
        obtain rfl := Option.some.inj hf
        exact ih1 x2_8 x3_9 w H locs ls hk1 hH (lv_sub hl [2, 3, 1, 0] rfl)
      unfold f_X12_copiesIn_4b at hf
      refine lv_iload_n hx hb dX12_copiesIn_4 rfl (lv_at hl 3 rfl) ?_
      refine lv_aload_n hx hb dX12_copiesIn_5 rfl (lv_at hl 0 rfl) ?_
      refine am_get hx hb hts hK hown hH (am_o12 (p := 271) (by decide +kernel)) rfl am_inX12 13 (by decide) am_q1332 (v := .int (w.1 271 13)) rfl dX12_copiesIn_6 ?_
      refine lv_icmp_ge (tgt := 35) hx hb dX12_copiesIn_9 (by decide) (fun hc_10 => ?_) (fun hc_10 => ?_)
      · have hf := (if_pos hc_10).symm.trans hf
        obtain ⟨y_11, hf, hzy_11⟩ := am_x_some hf
        rw [hzy_11] at hk1
        have hf := hf.trans (congrArg some (show y_11 = (rr, ww) from hk1))
        refine lv_iload_n hx hb dX12_copiesIn_35 rfl (lv_at hl 2 rfl) ?_
        exact am_reti hx hb hr hlocks hH hf dX12_copiesIn_36
      · have hf := (if_neg hc_10).symm.trans hf
        refine lv_iload_n hx hb dX12_copiesIn_12 rfl (lv_at hl 2 rfl) ?_
        refine lv_aload_n hx hb dX12_copiesIn_13 rfl (lv_at hl 0 rfl) ?_
        refine lv_iload_n hx hb dX12_copiesIn_14 rfl (lv_at hl 3 rfl) ?_
        refine lv_iload_n hx hb dX12_copiesIn_15 rfl (lv_at hl 1 rfl) ?_
        obtain ⟨r_14, w_12, hq_13, hf⟩ := am_b2_some hf
        refine am_calli (r := r_14) (w' := w_12) (am_runV (n := 2) (As := [.int x3, .int a1]) (rest := [.int x2]) ⟨hx, hb, hml, hown, hts⟩ hK hE hH (k_X12_hasCopy hq_13) (am_gV am_q1538 am_q1540 am_qs65 am_q13 am_q1541) (am_o12 (p := 271) (by decide +kernel)) rfl ⟨rfl, rfl⟩ (by decide +kernel) ⟨Nat.le_of_ble_eq_true rfl, Nat.le_of_ble_eq_true rfl⟩ rfl hl.1 rfl (Nat.le_of_ble_eq_true rfl) ⟨Nat.zero_le _, Nat.zero_le _⟩ dX12_copiesIn_16) hH (fun H locs hH => ?_)
        refine lv_if_eq (tgt := 26) hx hb dX12_copiesIn_19 (by decide) (fun hc_15 => ?_) (fun hc_15 => ?_)
        · have hf := (if_pos hc_15).symm.trans hf
          refine lv_iconst (v := 0) hx hb dX12_copiesIn_26 (by decide) ?_
          exact P27 x3 (0 : Int32) x2 w_12 z1 H locs ls hf hk1 hH (lv_sub hl [0, 1, 3] rfl)
        · have hf := (if_neg hc_15).symm.trans hf
          refine lv_iconst (v := 1) hx hb dX12_copiesIn_22 (by decide) ?_
          refine lv_goto (tgt := 27) hx hb dX12_copiesIn_23 (by decide) ?_
          exact P27 x3 (1 : Int32) x2 w_12 z1 H locs ls hf hk1 hH (lv_sub hl [0, 1, 3] rfl)
  refine am_enter (lv := [(0, .ref (G.1 + 271)), (1, .int a1)]) (Nat.le_of_ble_eq_true rfl) rfl (fun ls hl => ?_)
  unfold f_X12_copiesIn at hf
  refine am_start hH (fun H locs hH => ?_)
  refine lv_iconst (v := 0) hx hb dX12_copiesIn_0 (by decide) ?_
  refine lv_istore_n (lv' := [(2, .int (0 : Int32)), (0, .ref (G.1 + 271)), (1, .int a1)]) hx hb dX12_copiesIn_1 rfl hl (by decide) rfl (fun ls hl => ?_)
  refine lv_iconst (v := 0) hx hb dX12_copiesIn_2 (by decide) ?_
  refine lv_istore_n (lv' := [(3, .int (0 : Int32)), (2, .int (0 : Int32)), (0, .ref (G.1 + 271)), (1, .int a1)]) hx hb dX12_copiesIn_3 rfl hl (by decide) rfl (fun ls hl => ?_)
  exact P4 am_fuel (0 : Int32) (0 : Int32) w H locs ls hf hH (lv_sub hl [2, 3, 1, 0] rfl)

def f_X12_frame_32 (a1 : Int32) (a2 : Int32) (w : am_S) : Option (Int32 × am_S) :=
  some ((-1 : Int32), w)
def f_X12_frame_234 (a1 : Int32) (a2 : Int32) (x3 : Int32) (w : am_S) : Option (Int32 × am_S) :=
  some (x3, w)
def f_X12_frame_226 (a1 : Int32) (a2 : Int32) (x4 : Int32) (s0 : Int32) (s1 : Int32) (w : am_S) : Option ((Int32 × am_S) ⊕ (Int32 × Int32 × am_S)) :=
  am_v (s1 + s0) fun (x3_58 : Int32) => am_v (x4 + (1 : Int32)) fun (x4_59 : Int32) => some (.inr (x3_58, x4_59, w))
def f_X12_frame_177b (a1 : Int32) (a2 : Int32) (x3 : Int32) (x4 : Int32) (w : am_S) : Option ((Int32 × am_S) ⊕ (Int32 × Int32 × am_S)) :=
  am_chk (0 : Int32) 4 (if ((w.1 276 (0 : Int32).toNatClampNeg) * (a1 + (1 : Int32))) ≤ x4 then (am_x (f_X12_frame_234 a1 a2 x3 w)) else (if a2 ≤ (1 : Int32) then (am_x (f_X12_frame_234 a1 a2 x3 w)) else (if a2 = (2 : Int32) then (am_b2 (f_X12_copiesIn x4 w) fun r_72 w_70 => f_X12_frame_226 a1 a2 x4 r_72 x3 w_70) else (am_b2 (f_X12_clearIn x4 w) fun r_68 w_66 => if r_68 = 0 then (f_X12_frame_226 a1 a2 x4 (0 : Int32) x3 w_66) else (f_X12_frame_226 a1 a2 x4 (1 : Int32) x3 w_66)))))
def f_X12_frame_177 (a1 : Int32) (a2 : Int32) (x3 : Int32) (x4 : Int32) (w : am_S) : Option (Int32 × am_S) :=
  am_loop (fun (st : (Int32 × Int32 × am_S)) => f_X12_frame_177b a1 a2 st.1 st.2.1 st.2.2) am_fuel (x3, x4, w)
def f_X12_frame_167 (a1 : Int32) (a2 : Int32) (x3 : Int32) (w : am_S) : Option (Int32 × am_S) :=
  am_chk (0 : Int32) 4 (am_v ((w.1 276 (0 : Int32).toNatClampNeg) * a1) fun (x4_74 : Int32) => f_X12_frame_177 a1 a2 x3 x4_74 w)
def f_X12_frame_159 (a1 : Int32) (a2 : Int32) (x4 : Int32) (s0 : Int32) (s1 : Int32) (w : am_S) : Option ((Int32 × am_S) ⊕ (Int32 × Int32 × am_S)) :=
  am_v (s1 + s0) fun (x3_75 : Int32) => am_v (x4 + (1 : Int32)) fun (x4_76 : Int32) => some (.inr (x3_75, x4_76, w))
def f_X12_frame_158 (a1 : Int32) (a2 : Int32) (x4 : Int32) (s0 : Int32) (w : am_S) : Option ((Int32 × am_S) ⊕ (Int32 × Int32 × am_S)) :=
  f_X12_frame_159 a1 a2 x4 (0 : Int32) s0 w
def f_X12_frame_154 (a1 : Int32) (a2 : Int32) (x4 : Int32) (s0 : Int32) (w : am_S) : Option ((Int32 × am_S) ⊕ (Int32 × Int32 × am_S)) :=
  f_X12_frame_159 a1 a2 x4 (1 : Int32) s0 w
def f_X12_frame_111b (a1 : Int32) (a2 : Int32) (x3 : Int32) (x4 : Int32) (w : am_S) : Option ((Int32 × am_S) ⊕ (Int32 × Int32 × am_S)) :=
  if (w.1 271 13) ≤ x4 then (am_x (f_X12_frame_167 a1 a2 x3 w)) else (if (2 : Int32) ≤ a2 then (am_x (f_X12_frame_167 a1 a2 x3 w)) else (am_chk (((5 : Int32) * x4) + (2 : Int32)) 50 (if (w.1 277 (((5 : Int32) * x4) + (2 : Int32)).toNatClampNeg) = a1 then (if a2 = 0 then (f_X12_frame_154 a1 a2 x4 x3 w) else (am_b2 (f_X12_isUnknown x4 w) fun r_86 w_84 => if r_86 = 0 then (f_X12_frame_154 a1 a2 x4 x3 w_84) else (f_X12_frame_158 a1 a2 x4 x3 w_84))) else (f_X12_frame_158 a1 a2 x4 x3 w))))
def f_X12_frame_111 (a1 : Int32) (a2 : Int32) (x3 : Int32) (x4 : Int32) (w : am_S) : Option (Int32 × am_S) :=
  am_loop (fun (st : (Int32 × Int32 × am_S)) => f_X12_frame_111b a1 a2 st.1 st.2.1 st.2.2) am_fuel (x3, x4, w)
def f_X12_frame_98 (a1 : Int32) (a2 : Int32) (x4 : Int32) (x5 : Int32) (s0 : Int32) (s1 : Int32) (w : am_S) : Option ((Int32 × am_S) ⊕ (Int32 × Int32 × am_S)) :=
  am_v (s1 + s0) fun (x3_88 : Int32) => am_v (x5 + (1 : Int32)) fun (x5_89 : Int32) => some (.inr (x3_88, x5_89, w))
def f_X12_frame_97 (a1 : Int32) (a2 : Int32) (x4 : Int32) (x5 : Int32) (s0 : Int32) (w : am_S) : Option ((Int32 × am_S) ⊕ (Int32 × Int32 × am_S)) :=
  f_X12_frame_98 a1 a2 x4 x5 (0 : Int32) s0 w
def f_X12_frame_58b (a1 : Int32) (a2 : Int32) (x4 : Int32) (x3 : Int32) (x5 : Int32) (w : am_S) : Option ((Int32 × am_S) ⊕ (Int32 × Int32 × am_S)) :=
  if (w.1 271 13) ≤ x5 then (am_x (some (x3, w))) else (am_chk (((5 : Int32) * x5) + (2 : Int32)) 50 (if (w.1 277 (((5 : Int32) * x5) + (2 : Int32)).toNatClampNeg) = a1 then (am_b2 (f_X12_has x4 x5 w) fun r_96 w_94 => if r_96 = 0 then (f_X12_frame_97 a1 a2 x4 x5 x3 w_94) else (f_X12_frame_98 a1 a2 x4 x5 (1 : Int32) x3 w_94)) else (f_X12_frame_97 a1 a2 x4 x5 x3 w)))
def f_X12_frame_58 (a1 : Int32) (a2 : Int32) (x3 : Int32) (x4 : Int32) (x5 : Int32) (w : am_S) : Option (Int32 × am_S) :=
  am_loop (fun (st : (Int32 × Int32 × am_S)) => f_X12_frame_58b a1 a2 x4 st.1 st.2.1 st.2.2) am_fuel (x3, x5, w)
def f_X12_frame (a1 : Int32) (a2 : Int32) (w : am_S) : Option (Int32 × am_S) :=
  am_b2 (f_X12_isField w) fun r_100 w_98 => if r_100 = 0 then (f_X12_frame_32 a1 a2 w_98) else (am_chk (1 : Int32) 4 (am_b2 (f_X12_in a1 (0 : Int32) ((w_98.1 276 (1 : Int32).toNatClampNeg) - (1 : Int32)) w_98) fun r_105 w_103 => if r_105 = 0 then (f_X12_frame_32 a1 a2 w_103) else (am_b2 (f_X12_in a2 (0 : Int32) (4 : Int32) w_103) fun r_109 w_107 => if r_109 = 0 then (f_X12_frame_32 a1 a2 w_107) else (if a2 = (4 : Int32) then (am_b1 (f_X12_layOccupied w_107) fun w_112 => am_b2 (f_X12_unknownOnes w_112) fun r_116 w_114 => am_b2 (f_X12_remaining r_116 w_114) fun r_119 w_117 => f_X12_frame_58 a1 a2 (0 : Int32) r_119 (0 : Int32) w_117) else (f_X12_frame_111 a1 a2 (0 : Int32) (0 : Int32) w_107)))))
set_option maxRecDepth 100000 in
set_option maxHeartbeats 4000000 in
theorem k_X12_frame {G : am_G} {l : Launch} {a1 : Int32} {a2 : Int32}  {w : am_S} {rr : Int32} {ww : am_S} (hf : f_X12_frame a1 a2 w = some (rr, ww)) : am_Mi G l yX12_frame (Cond.code yX12_frame cX12_frame 6 (some .int) :: am_T) { frames := 6, cells := 0, slots := 0, locals := 384 } [.ref (G.1 + 271), .int a1, .int a2] w rr ww := by
  refine Met.ofW (cc := cX12_frame) (maxL := 6) (ret := (some .int)) (by decide) rfl ?_
  intro p e s m args below meth c s₁ B hml hv
  obtain ⟨rfl, hx, hb, hr, hts, hown, hlocks, hK, hE, hH⟩ := am_begin B hv
  have hown : s.vm.findClass RX12 = some m.cls := hown
  show W p l e { frames := 6, cells := 0, slots := 0, locals := 384 } s m _ below meth c s.heap [] 0 0 _ _
  have P32 : ∀ (w : am_S) (H : Heap) (locs : List Loc) (ls : Array Slot), f_X12_frame_32 a1 a2 w = some (rr, ww) → am_H G w s H locs → lv_has ls 6 [] → W p l e { frames := 6, cells := 0, slots := 0, locals := 384 } s m [.ref (G.1 + 271), .int a1, .int a2].toArray below meth c H locs 0 0 (MQ below (va_Qi (fun (x : Int32) (u : am_S) => x = rr ∧ u = ww) (am_U G) (am_A G)) [.ref (G.1 + 271), .int a1, .int a2].toArray s 0 0 (am_A G)) (F0 m 32 ls []) := by
    intro w H locs ls hf hH hl
    unfold f_X12_frame_32 at hf
    refine lv_iconst (v := -1) hx hb dX12_frame_32 (by decide) ?_
    exact am_reti hx hb hr hlocks hH hf dX12_frame_33
  have P234 : ∀ (x3 : Int32) (w : am_S) (H : Heap) (locs : List Loc) (ls : Array Slot), f_X12_frame_234 a1 a2 x3 w = some (rr, ww) → am_H G w s H locs → lv_has ls 6 [(3, .int x3)] → W p l e { frames := 6, cells := 0, slots := 0, locals := 384 } s m [.ref (G.1 + 271), .int a1, .int a2].toArray below meth c H locs 0 0 (MQ below (va_Qi (fun (x : Int32) (u : am_S) => x = rr ∧ u = ww) (am_U G) (am_A G)) [.ref (G.1 + 271), .int a1, .int a2].toArray s 0 0 (am_A G)) (F0 m 234 ls []) := by
    intro x3 w H locs ls hf hH hl
    unfold f_X12_frame_234 at hf
    refine lv_iload_n hx hb dX12_frame_234 rfl (lv_at hl 0 rfl) ?_
    exact am_reti hx hb hr hlocks hH hf dX12_frame_235
  have P177 : ∀ (n1 : Nat) (x3 : Int32) (x4 : Int32) (w : am_S) (H : Heap) (locs : List Loc) (ls : Array Slot), am_loop (fun (st : (Int32 × Int32 × am_S)) => f_X12_frame_177b a1 a2 st.1 st.2.1 st.2.2) n1 (x3, x4, w) = some (rr, ww) → am_H G w s H locs → lv_has ls 6 [(0, .ref (G.1 + 271)), (1, .int a1), (2, .int a2), (3, .int x3), (4, .int x4)] → W p l e { frames := 6, cells := 0, slots := 0, locals := 384 } s m [.ref (G.1 + 271), .int a1, .int a2].toArray below meth c H locs 0 0 (MQ below (va_Qi (fun (x : Int32) (u : am_S) => x = rr ∧ u = ww) (am_U G) (am_A G)) [.ref (G.1 + 271), .int a1, .int a2].toArray s 0 0 (am_A G)) (F0 m 177 ls []) := by
    intro n1
    induction n1 with
    | zero =>
      intro x3 x4 w H locs ls hf hH hl
      exact (am_loop_zero hf).elim
    | succ n1 ih1 =>
      intro x3 x4 w H locs ls hf hH hl
      obtain ⟨z1, hf, hk1⟩ := am_loop_succ hf
      have hf : f_X12_frame_177b a1 a2 x3 x4 w = some z1 := hf
      have P226 : ∀ (x4 : Int32) (s0 : Int32) (s1 : Int32) (w : am_S) (z1 : ((Int32 × am_S) ⊕ (Int32 × Int32 × am_S))) (H : Heap) (locs : List Loc) (ls : Array Slot), f_X12_frame_226 a1 a2 x4 s0 s1 w = some z1 → am_lk (fun (st : (Int32 × Int32 × am_S)) => f_X12_frame_177b a1 a2 st.1 st.2.1 st.2.2) n1 (rr, ww) z1 → am_H G w s H locs → lv_has ls 6 [(0, .ref (G.1 + 271)), (1, .int a1), (2, .int a2), (4, .int x4)] → W p l e { frames := 6, cells := 0, slots := 0, locals := 384 } s m [.ref (G.1 + 271), .int a1, .int a2].toArray below meth c H locs 0 0 (MQ below (va_Qi (fun (x : Int32) (u : am_S) => x = rr ∧ u = ww) (am_U G) (am_A G)) [.ref (G.1 + 271), .int a1, .int a2].toArray s 0 0 (am_A G)) (F0 m 226 ls [.int s0, .int s1]) := by
        intro x4 s0 s1 w z1 H locs ls hf hk1 hH hl
        unfold f_X12_frame_226 at hf
        refine lv_iadd hx hb dX12_frame_226 ?_
        obtain ⟨x3_58, hx3_58, hf⟩ := am_v_some hf
        refine am_topi hx3_58 ?_
        refine lv_istore_n (lv' := [(3, .int x3_58), (0, .ref (G.1 + 271)), (1, .int a1), (2, .int a2), (4, .int x4)]) hx hb dX12_frame_227 rfl hl (by decide) rfl (fun ls hl => ?_)
        obtain ⟨x4_59, hx4_59, hf⟩ := am_v_some hf
        refine lv_iinc (v := x4_59) (lv' := [(4, .int x4_59), (3, .int x3_58), (0, .ref (G.1 + 271)), (1, .int a1), (2, .int a2)]) hx hb dX12_frame_228 hl (k := 4) rfl (by rw [hx4_59]; rfl) (by decide) rfl (fun ls hl => ?_)
        refine lv_goto (tgt := 177) hx hb dX12_frame_231 (by decide) ?_
        obtain rfl := Option.some.inj hf
        exact ih1 x3_58 x4_59 w H locs ls hk1 hH (lv_sub hl [2, 3, 4, 1, 0] rfl)
      unfold f_X12_frame_177b at hf
      refine lv_iload hx hb dX12_frame_177 (lv_at hl 4 rfl) ?_
      refine lv_aload_n hx hb dX12_frame_179 rfl (lv_at hl 0 rfl) ?_
      refine am_get hx hb hts hK hown hH (am_o12 (p := 271) (by decide +kernel)) rfl am_inX12 10 (by decide) am_q1329 (v := .ref (G.1 + 276)) rfl dX12_frame_180 ?_
      refine lv_iconst (v := 0) hx hb dX12_frame_183 (by decide) ?_
      obtain ⟨hi_60, hf⟩ := am_chk_some hf
      refine am_iald hx hb hK hH (am_ai_of (N := 4) (by decide +kernel)) hi_60 dX12_frame_184 ?_
      refine lv_iload_n hx hb dX12_frame_185 rfl (lv_at hl 1 rfl) ?_
      refine lv_iconst (v := 1) hx hb dX12_frame_186 (by decide) ?_
      refine lv_iadd hx hb dX12_frame_187 ?_
      refine lv_imul hx hb dX12_frame_188 ?_
      refine lv_icmp_ge (tgt := 234) hx hb dX12_frame_189 (by decide) (fun hc_61 => ?_) (fun hc_61 => ?_)
      · have hf := (if_pos hc_61).symm.trans hf
        obtain ⟨y_62, hf, hzy_62⟩ := am_x_some hf
        rw [hzy_62] at hk1
        have hf := hf.trans (congrArg some (show y_62 = (rr, ww) from hk1))
        exact P234 x3 w H locs ls hf hH (lv_sub hl [3] rfl)
      · have hf := (if_neg hc_61).symm.trans hf
        refine lv_iload_n hx hb dX12_frame_192 rfl (lv_at hl 2 rfl) ?_
        refine lv_iconst (v := 1) hx hb dX12_frame_193 (by decide) ?_
        refine lv_icmp_le (tgt := 234) hx hb dX12_frame_194 (by decide) (fun hc_63 => ?_) (fun hc_63 => ?_)
        · have hf := (if_pos hc_63).symm.trans hf
          obtain ⟨y_64, hf, hzy_64⟩ := am_x_some hf
          rw [hzy_64] at hk1
          have hf := hf.trans (congrArg some (show y_64 = (rr, ww) from hk1))
          exact P234 x3 w H locs ls hf hH (lv_sub hl [3] rfl)
        · have hf := (if_neg hc_63).symm.trans hf
          refine lv_iload_n hx hb dX12_frame_197 rfl (lv_at hl 3 rfl) ?_
          refine lv_iload_n hx hb dX12_frame_198 rfl (lv_at hl 2 rfl) ?_
          refine lv_iconst (v := 2) hx hb dX12_frame_199 (by decide) ?_
          refine lv_icmp_ne (tgt := 212) hx hb dX12_frame_200 (by decide) (fun hc_65 => ?_) (fun hc_65 => ?_)
          · have hf := (if_neg hc_65).symm.trans hf
            refine lv_aload_n hx hb dX12_frame_212 rfl (lv_at hl 0 rfl) ?_
            refine lv_iload hx hb dX12_frame_213 (lv_at hl 4 rfl) ?_
            obtain ⟨r_68, w_66, hq_67, hf⟩ := am_b2_some hf
            refine am_calli (r := r_68) (w' := w_66) (am_runV (n := 1) (As := [.int x4]) (rest := [.int x3]) ⟨hx, hb, hml, hown, hts⟩ hK hE hH (k_X12_clearIn hq_67) (am_gV am_q1526 am_q1528 am_qs62 am_q13 am_q1529) (am_o12 (p := 271) (by decide +kernel)) rfl ⟨rfl, rfl⟩ (by decide +kernel) ⟨Nat.le_of_ble_eq_true rfl, Nat.le_of_ble_eq_true rfl⟩ rfl hl.1 rfl (Nat.le_of_ble_eq_true rfl) ⟨Nat.zero_le _, Nat.zero_le _⟩ dX12_frame_215) hH (fun H locs hH => ?_)
            refine lv_if_eq (tgt := 225) hx hb dX12_frame_218 (by decide) (fun hc_69 => ?_) (fun hc_69 => ?_)
            · have hf := (if_pos hc_69).symm.trans hf
              refine lv_iconst (v := 0) hx hb dX12_frame_225 (by decide) ?_
              exact P226 x4 (0 : Int32) x3 w_66 z1 H locs ls hf hk1 hH (lv_sub hl [0, 1, 2, 4] rfl)
            · have hf := (if_neg hc_69).symm.trans hf
              refine lv_iconst (v := 1) hx hb dX12_frame_221 (by decide) ?_
              refine lv_goto (tgt := 226) hx hb dX12_frame_222 (by decide) ?_
              exact P226 x4 (1 : Int32) x3 w_66 z1 H locs ls hf hk1 hH (lv_sub hl [0, 1, 2, 4] rfl)
          · have hf := (if_pos hc_65).symm.trans hf
            refine lv_aload_n hx hb dX12_frame_203 rfl (lv_at hl 0 rfl) ?_
            refine lv_iload hx hb dX12_frame_204 (lv_at hl 4 rfl) ?_
            obtain ⟨r_72, w_70, hq_71, hf⟩ := am_b2_some hf
            refine am_calli (r := r_72) (w' := w_70) (am_runV (n := 1) (As := [.int x4]) (rest := [.int x3]) ⟨hx, hb, hml, hown, hts⟩ hK hE hH (k_X12_copiesIn hq_71) (am_gV am_q1786 am_q1788 am_qs100 am_q13 am_q1789) (am_o12 (p := 271) (by decide +kernel)) rfl ⟨rfl, rfl⟩ (by decide +kernel) ⟨Nat.le_of_ble_eq_true rfl, Nat.le_of_ble_eq_true rfl⟩ rfl hl.1 rfl (Nat.le_of_ble_eq_true rfl) ⟨Nat.zero_le _, Nat.zero_le _⟩ dX12_frame_206) hH (fun H locs hH => ?_)
            refine lv_goto (tgt := 226) hx hb dX12_frame_209 (by decide) ?_
            exact P226 x4 r_72 x3 w_70 z1 H locs ls hf hk1 hH (lv_sub hl [0, 1, 2, 4] rfl)
  have P167 : ∀ (x3 : Int32) (w : am_S) (H : Heap) (locs : List Loc) (ls : Array Slot), f_X12_frame_167 a1 a2 x3 w = some (rr, ww) → am_H G w s H locs → lv_has ls 6 [(0, .ref (G.1 + 271)), (1, .int a1), (2, .int a2), (3, .int x3)] → W p l e { frames := 6, cells := 0, slots := 0, locals := 384 } s m [.ref (G.1 + 271), .int a1, .int a2].toArray below meth c H locs 0 0 (MQ below (va_Qi (fun (x : Int32) (u : am_S) => x = rr ∧ u = ww) (am_U G) (am_A G)) [.ref (G.1 + 271), .int a1, .int a2].toArray s 0 0 (am_A G)) (F0 m 167 ls []) := by
    intro x3 w H locs ls hf hH hl
    unfold f_X12_frame_167 at hf
    refine lv_aload_n hx hb dX12_frame_167 rfl (lv_at hl 0 rfl) ?_
    refine am_get hx hb hts hK hown hH (am_o12 (p := 271) (by decide +kernel)) rfl am_inX12 10 (by decide) am_q1329 (v := .ref (G.1 + 276)) rfl dX12_frame_168 ?_
    refine lv_iconst (v := 0) hx hb dX12_frame_171 (by decide) ?_
    obtain ⟨hi_73, hf⟩ := am_chk_some hf
    refine am_iald hx hb hK hH (am_ai_of (N := 4) (by decide +kernel)) hi_73 dX12_frame_172 ?_
    refine lv_iload_n hx hb dX12_frame_173 rfl (lv_at hl 1 rfl) ?_
    refine lv_imul hx hb dX12_frame_174 ?_
    obtain ⟨x4_74, hx4_74, hf⟩ := am_v_some hf
    refine am_topi hx4_74 ?_
    refine lv_istore (lv' := [(4, .int x4_74), (0, .ref (G.1 + 271)), (1, .int a1), (2, .int a2), (3, .int x3)]) hx hb dX12_frame_175 hl (by decide) rfl (fun ls hl => ?_)
    exact P177 am_fuel x3 x4_74 w H locs ls hf hH (lv_sub hl [1, 2, 3, 4, 0] rfl)
  have P111 : ∀ (n1 : Nat) (x3 : Int32) (x4 : Int32) (w : am_S) (H : Heap) (locs : List Loc) (ls : Array Slot), am_loop (fun (st : (Int32 × Int32 × am_S)) => f_X12_frame_111b a1 a2 st.1 st.2.1 st.2.2) n1 (x3, x4, w) = some (rr, ww) → am_H G w s H locs → lv_has ls 6 [(0, .ref (G.1 + 271)), (1, .int a1), (2, .int a2), (3, .int x3), (4, .int x4)] → W p l e { frames := 6, cells := 0, slots := 0, locals := 384 } s m [.ref (G.1 + 271), .int a1, .int a2].toArray below meth c H locs 0 0 (MQ below (va_Qi (fun (x : Int32) (u : am_S) => x = rr ∧ u = ww) (am_U G) (am_A G)) [.ref (G.1 + 271), .int a1, .int a2].toArray s 0 0 (am_A G)) (F0 m 111 ls []) := by
    intro n1
    induction n1 with
    | zero =>
      intro x3 x4 w H locs ls hf hH hl
      exact (am_loop_zero hf).elim
    | succ n1 ih1 =>
      intro x3 x4 w H locs ls hf hH hl
      obtain ⟨z1, hf, hk1⟩ := am_loop_succ hf
      have hf : f_X12_frame_111b a1 a2 x3 x4 w = some z1 := hf
      have P159 : ∀ (x4 : Int32) (s0 : Int32) (s1 : Int32) (w : am_S) (z1 : ((Int32 × am_S) ⊕ (Int32 × Int32 × am_S))) (H : Heap) (locs : List Loc) (ls : Array Slot), f_X12_frame_159 a1 a2 x4 s0 s1 w = some z1 → am_lk (fun (st : (Int32 × Int32 × am_S)) => f_X12_frame_111b a1 a2 st.1 st.2.1 st.2.2) n1 (rr, ww) z1 → am_H G w s H locs → lv_has ls 6 [(0, .ref (G.1 + 271)), (1, .int a1), (2, .int a2), (4, .int x4)] → W p l e { frames := 6, cells := 0, slots := 0, locals := 384 } s m [.ref (G.1 + 271), .int a1, .int a2].toArray below meth c H locs 0 0 (MQ below (va_Qi (fun (x : Int32) (u : am_S) => x = rr ∧ u = ww) (am_U G) (am_A G)) [.ref (G.1 + 271), .int a1, .int a2].toArray s 0 0 (am_A G)) (F0 m 159 ls [.int s0, .int s1]) := by
        intro x4 s0 s1 w z1 H locs ls hf hk1 hH hl
        unfold f_X12_frame_159 at hf
        refine lv_iadd hx hb dX12_frame_159 ?_
        obtain ⟨x3_75, hx3_75, hf⟩ := am_v_some hf
        refine am_topi hx3_75 ?_
        refine lv_istore_n (lv' := [(3, .int x3_75), (0, .ref (G.1 + 271)), (1, .int a1), (2, .int a2), (4, .int x4)]) hx hb dX12_frame_160 rfl hl (by decide) rfl (fun ls hl => ?_)
        obtain ⟨x4_76, hx4_76, hf⟩ := am_v_some hf
        refine lv_iinc (v := x4_76) (lv' := [(4, .int x4_76), (3, .int x3_75), (0, .ref (G.1 + 271)), (1, .int a1), (2, .int a2)]) hx hb dX12_frame_161 hl (k := 4) rfl (by rw [hx4_76]; rfl) (by decide) rfl (fun ls hl => ?_)
        refine lv_goto (tgt := 111) hx hb dX12_frame_164 (by decide) ?_
        obtain rfl := Option.some.inj hf
        exact ih1 x3_75 x4_76 w H locs ls hk1 hH (lv_sub hl [2, 3, 4, 1, 0] rfl)
      have P158 : ∀ (x4 : Int32) (s0 : Int32) (w : am_S) (z1 : ((Int32 × am_S) ⊕ (Int32 × Int32 × am_S))) (H : Heap) (locs : List Loc) (ls : Array Slot), f_X12_frame_158 a1 a2 x4 s0 w = some z1 → am_lk (fun (st : (Int32 × Int32 × am_S)) => f_X12_frame_111b a1 a2 st.1 st.2.1 st.2.2) n1 (rr, ww) z1 → am_H G w s H locs → lv_has ls 6 [(0, .ref (G.1 + 271)), (1, .int a1), (2, .int a2), (4, .int x4)] → W p l e { frames := 6, cells := 0, slots := 0, locals := 384 } s m [.ref (G.1 + 271), .int a1, .int a2].toArray below meth c H locs 0 0 (MQ below (va_Qi (fun (x : Int32) (u : am_S) => x = rr ∧ u = ww) (am_U G) (am_A G)) [.ref (G.1 + 271), .int a1, .int a2].toArray s 0 0 (am_A G)) (F0 m 158 ls [.int s0]) := by
        intro x4 s0 w z1 H locs ls hf hk1 hH hl
        unfold f_X12_frame_158 at hf
        refine lv_iconst (v := 0) hx hb dX12_frame_158 (by decide) ?_
        exact P159 x4 (0 : Int32) s0 w z1 H locs ls hf hk1 hH (lv_sub hl [0, 1, 2, 3] rfl)
      have P154 : ∀ (x4 : Int32) (s0 : Int32) (w : am_S) (z1 : ((Int32 × am_S) ⊕ (Int32 × Int32 × am_S))) (H : Heap) (locs : List Loc) (ls : Array Slot), f_X12_frame_154 a1 a2 x4 s0 w = some z1 → am_lk (fun (st : (Int32 × Int32 × am_S)) => f_X12_frame_111b a1 a2 st.1 st.2.1 st.2.2) n1 (rr, ww) z1 → am_H G w s H locs → lv_has ls 6 [(0, .ref (G.1 + 271)), (1, .int a1), (2, .int a2), (4, .int x4)] → W p l e { frames := 6, cells := 0, slots := 0, locals := 384 } s m [.ref (G.1 + 271), .int a1, .int a2].toArray below meth c H locs 0 0 (MQ below (va_Qi (fun (x : Int32) (u : am_S) => x = rr ∧ u = ww) (am_U G) (am_A G)) [.ref (G.1 + 271), .int a1, .int a2].toArray s 0 0 (am_A G)) (F0 m 154 ls [.int s0]) := by
        intro x4 s0 w z1 H locs ls hf hk1 hH hl
        unfold f_X12_frame_154 at hf
        refine lv_iconst (v := 1) hx hb dX12_frame_154 (by decide) ?_
        refine lv_goto (tgt := 159) hx hb dX12_frame_155 (by decide) ?_
        exact P159 x4 (1 : Int32) s0 w z1 H locs ls hf hk1 hH (lv_sub hl [0, 1, 2, 3] rfl)
      unfold f_X12_frame_111b at hf
      refine lv_iload hx hb dX12_frame_111 (lv_at hl 4 rfl) ?_
      refine lv_aload_n hx hb dX12_frame_113 rfl (lv_at hl 0 rfl) ?_
      refine am_get hx hb hts hK hown hH (am_o12 (p := 271) (by decide +kernel)) rfl am_inX12 13 (by decide) am_q1332 (v := .int (w.1 271 13)) rfl dX12_frame_114 ?_
      refine lv_icmp_ge (tgt := 167) hx hb dX12_frame_117 (by decide) (fun hc_77 => ?_) (fun hc_77 => ?_)
      · have hf := (if_pos hc_77).symm.trans hf
        obtain ⟨y_78, hf, hzy_78⟩ := am_x_some hf
        rw [hzy_78] at hk1
        have hf := hf.trans (congrArg some (show y_78 = (rr, ww) from hk1))
        exact P167 x3 w H locs ls hf hH (lv_sub hl [0, 1, 2, 3] rfl)
      · have hf := (if_neg hc_77).symm.trans hf
        refine lv_iload_n hx hb dX12_frame_120 rfl (lv_at hl 2 rfl) ?_
        refine lv_iconst (v := 2) hx hb dX12_frame_121 (by decide) ?_
        refine lv_icmp_ge (tgt := 167) hx hb dX12_frame_122 (by decide) (fun hc_79 => ?_) (fun hc_79 => ?_)
        · have hf := (if_pos hc_79).symm.trans hf
          obtain ⟨y_80, hf, hzy_80⟩ := am_x_some hf
          rw [hzy_80] at hk1
          have hf := hf.trans (congrArg some (show y_80 = (rr, ww) from hk1))
          exact P167 x3 w H locs ls hf hH (lv_sub hl [0, 1, 2, 3] rfl)
        · have hf := (if_neg hc_79).symm.trans hf
          refine lv_iload_n hx hb dX12_frame_125 rfl (lv_at hl 3 rfl) ?_
          refine lv_aload_n hx hb dX12_frame_126 rfl (lv_at hl 0 rfl) ?_
          refine am_get hx hb hts hK hown hH (am_o12 (p := 271) (by decide +kernel)) rfl am_inX12 11 (by decide) am_q1330 (v := .ref (G.1 + 277)) rfl dX12_frame_127 ?_
          refine lv_iconst (v := 5) hx hb dX12_frame_130 (by decide) ?_
          refine lv_iload hx hb dX12_frame_131 (lv_at hl 4 rfl) ?_
          refine lv_imul hx hb dX12_frame_133 ?_
          refine lv_iconst (v := 2) hx hb dX12_frame_134 (by decide) ?_
          refine lv_iadd hx hb dX12_frame_135 ?_
          obtain ⟨hi_81, hf⟩ := am_chk_some hf
          refine am_iald hx hb hK hH (am_ai_of (N := 50) (by decide +kernel)) hi_81 dX12_frame_136 ?_
          refine lv_iload_n hx hb dX12_frame_137 rfl (lv_at hl 1 rfl) ?_
          refine lv_icmp_ne (tgt := 158) hx hb dX12_frame_138 (by decide) (fun hc_82 => ?_) (fun hc_82 => ?_)
          · have hf := (if_neg hc_82).symm.trans hf
            exact P158 x4 x3 w z1 H locs ls hf hk1 hH (lv_sub hl [0, 1, 2, 4] rfl)
          · have hf := (if_pos hc_82).symm.trans hf
            refine lv_iload_n hx hb dX12_frame_141 rfl (lv_at hl 2 rfl) ?_
            refine lv_if_eq (tgt := 154) hx hb dX12_frame_142 (by decide) (fun hc_83 => ?_) (fun hc_83 => ?_)
            · have hf := (if_pos hc_83).symm.trans hf
              exact P154 x4 x3 w z1 H locs ls hf hk1 hH (lv_sub hl [0, 1, 2, 4] rfl)
            · have hf := (if_neg hc_83).symm.trans hf
              refine lv_aload_n hx hb dX12_frame_145 rfl (lv_at hl 0 rfl) ?_
              refine lv_iload hx hb dX12_frame_146 (lv_at hl 4 rfl) ?_
              obtain ⟨r_86, w_84, hq_85, hf⟩ := am_b2_some hf
              refine am_calli (r := r_86) (w' := w_84) (am_runV (n := 1) (As := [.int x4]) (rest := [.int x3]) ⟨hx, hb, hml, hown, hts⟩ hK hE hH (k_X12_isUnknown hq_85) (am_gV am_q1534 am_q1536 am_qs64 am_q13 am_q1537) (am_o12 (p := 271) (by decide +kernel)) rfl ⟨rfl, rfl⟩ (by decide +kernel) ⟨Nat.le_of_ble_eq_true rfl, Nat.le_of_ble_eq_true rfl⟩ rfl hl.1 rfl (Nat.le_of_ble_eq_true rfl) ⟨Nat.zero_le _, Nat.zero_le _⟩ dX12_frame_148) hH (fun H locs hH => ?_)
              refine lv_if_ne (tgt := 158) hx hb dX12_frame_151 (by decide) (fun hc_87 => ?_) (fun hc_87 => ?_)
              · have hf := (if_neg hc_87).symm.trans hf
                exact P158 x4 x3 w_84 z1 H locs ls hf hk1 hH (lv_sub hl [0, 1, 2, 4] rfl)
              · have hf := (if_pos hc_87).symm.trans hf
                exact P154 x4 x3 w_84 z1 H locs ls hf hk1 hH (lv_sub hl [0, 1, 2, 4] rfl)
  have P58 : ∀ (x4 : Int32) (n1 : Nat) (x3 : Int32) (x5 : Int32) (w : am_S) (H : Heap) (locs : List Loc) (ls : Array Slot), am_loop (fun (st : (Int32 × Int32 × am_S)) => f_X12_frame_58b a1 a2 x4 st.1 st.2.1 st.2.2) n1 (x3, x5, w) = some (rr, ww) → am_H G w s H locs → lv_has ls 6 [(0, .ref (G.1 + 271)), (1, .int a1), (3, .int x3), (4, .int x4), (5, .int x5)] → W p l e { frames := 6, cells := 0, slots := 0, locals := 384 } s m [.ref (G.1 + 271), .int a1, .int a2].toArray below meth c H locs 0 0 (MQ below (va_Qi (fun (x : Int32) (u : am_S) => x = rr ∧ u = ww) (am_U G) (am_A G)) [.ref (G.1 + 271), .int a1, .int a2].toArray s 0 0 (am_A G)) (F0 m 58 ls []) := by
    intro x4 n1
    induction n1 with
    | zero =>
      intro x3 x5 w H locs ls hf hH hl
      exact (am_loop_zero hf).elim
    | succ n1 ih1 =>
      intro x3 x5 w H locs ls hf hH hl
      obtain ⟨z1, hf, hk1⟩ := am_loop_succ hf
      have hf : f_X12_frame_58b a1 a2 x4 x3 x5 w = some z1 := hf
      have P98 : ∀ (x5 : Int32) (s0 : Int32) (s1 : Int32) (w : am_S) (z1 : ((Int32 × am_S) ⊕ (Int32 × Int32 × am_S))) (H : Heap) (locs : List Loc) (ls : Array Slot), f_X12_frame_98 a1 a2 x4 x5 s0 s1 w = some z1 → am_lk (fun (st : (Int32 × Int32 × am_S)) => f_X12_frame_58b a1 a2 x4 st.1 st.2.1 st.2.2) n1 (rr, ww) z1 → am_H G w s H locs → lv_has ls 6 [(0, .ref (G.1 + 271)), (1, .int a1), (4, .int x4), (5, .int x5)] → W p l e { frames := 6, cells := 0, slots := 0, locals := 384 } s m [.ref (G.1 + 271), .int a1, .int a2].toArray below meth c H locs 0 0 (MQ below (va_Qi (fun (x : Int32) (u : am_S) => x = rr ∧ u = ww) (am_U G) (am_A G)) [.ref (G.1 + 271), .int a1, .int a2].toArray s 0 0 (am_A G)) (F0 m 98 ls [.int s0, .int s1]) := by
        intro x5 s0 s1 w z1 H locs ls hf hk1 hH hl
        unfold f_X12_frame_98 at hf
        refine lv_iadd hx hb dX12_frame_98 ?_
        obtain ⟨x3_88, hx3_88, hf⟩ := am_v_some hf
        refine am_topi hx3_88 ?_
        refine lv_istore_n (lv' := [(3, .int x3_88), (0, .ref (G.1 + 271)), (1, .int a1), (4, .int x4), (5, .int x5)]) hx hb dX12_frame_99 rfl hl (by decide) rfl (fun ls hl => ?_)
        obtain ⟨x5_89, hx5_89, hf⟩ := am_v_some hf
        refine lv_iinc (v := x5_89) (lv' := [(5, .int x5_89), (3, .int x3_88), (0, .ref (G.1 + 271)), (1, .int a1), (4, .int x4)]) hx hb dX12_frame_100 hl (k := 4) rfl (by rw [hx5_89]; rfl) (by decide) rfl (fun ls hl => ?_)
        refine lv_goto (tgt := 58) hx hb dX12_frame_103 (by decide) ?_
        obtain rfl := Option.some.inj hf
        exact ih1 x3_88 x5_89 w H locs ls hk1 hH (lv_sub hl [2, 3, 1, 4, 0] rfl)
      have P97 : ∀ (x5 : Int32) (s0 : Int32) (w : am_S) (z1 : ((Int32 × am_S) ⊕ (Int32 × Int32 × am_S))) (H : Heap) (locs : List Loc) (ls : Array Slot), f_X12_frame_97 a1 a2 x4 x5 s0 w = some z1 → am_lk (fun (st : (Int32 × Int32 × am_S)) => f_X12_frame_58b a1 a2 x4 st.1 st.2.1 st.2.2) n1 (rr, ww) z1 → am_H G w s H locs → lv_has ls 6 [(0, .ref (G.1 + 271)), (1, .int a1), (4, .int x4), (5, .int x5)] → W p l e { frames := 6, cells := 0, slots := 0, locals := 384 } s m [.ref (G.1 + 271), .int a1, .int a2].toArray below meth c H locs 0 0 (MQ below (va_Qi (fun (x : Int32) (u : am_S) => x = rr ∧ u = ww) (am_U G) (am_A G)) [.ref (G.1 + 271), .int a1, .int a2].toArray s 0 0 (am_A G)) (F0 m 97 ls [.int s0]) := by
        intro x5 s0 w z1 H locs ls hf hk1 hH hl
        unfold f_X12_frame_97 at hf
        refine lv_iconst (v := 0) hx hb dX12_frame_97 (by decide) ?_
        exact P98 x5 (0 : Int32) s0 w z1 H locs ls hf hk1 hH (lv_sub hl [0, 1, 2, 3] rfl)
      unfold f_X12_frame_58b at hf
      refine lv_iload hx hb dX12_frame_58 (lv_at hl 4 rfl) ?_
      refine lv_aload_n hx hb dX12_frame_60 rfl (lv_at hl 0 rfl) ?_
      refine am_get hx hb hts hK hown hH (am_o12 (p := 271) (by decide +kernel)) rfl am_inX12 13 (by decide) am_q1332 (v := .int (w.1 271 13)) rfl dX12_frame_61 ?_
      refine lv_icmp_ge (tgt := 106) hx hb dX12_frame_64 (by decide) (fun hc_90 => ?_) (fun hc_90 => ?_)
      · have hf := (if_pos hc_90).symm.trans hf
        obtain ⟨y_91, hf, hzy_91⟩ := am_x_some hf
        rw [hzy_91] at hk1
        have hf := hf.trans (congrArg some (show y_91 = (rr, ww) from hk1))
        refine lv_iload_n hx hb dX12_frame_106 rfl (lv_at hl 2 rfl) ?_
        exact am_reti hx hb hr hlocks hH hf dX12_frame_107
      · have hf := (if_neg hc_90).symm.trans hf
        refine lv_iload_n hx hb dX12_frame_67 rfl (lv_at hl 2 rfl) ?_
        refine lv_aload_n hx hb dX12_frame_68 rfl (lv_at hl 0 rfl) ?_
        refine am_get hx hb hts hK hown hH (am_o12 (p := 271) (by decide +kernel)) rfl am_inX12 11 (by decide) am_q1330 (v := .ref (G.1 + 277)) rfl dX12_frame_69 ?_
        refine lv_iconst (v := 5) hx hb dX12_frame_72 (by decide) ?_
        refine lv_iload hx hb dX12_frame_73 (lv_at hl 4 rfl) ?_
        refine lv_imul hx hb dX12_frame_75 ?_
        refine lv_iconst (v := 2) hx hb dX12_frame_76 (by decide) ?_
        refine lv_iadd hx hb dX12_frame_77 ?_
        obtain ⟨hi_92, hf⟩ := am_chk_some hf
        refine am_iald hx hb hK hH (am_ai_of (N := 50) (by decide +kernel)) hi_92 dX12_frame_78 ?_
        refine lv_iload_n hx hb dX12_frame_79 rfl (lv_at hl 1 rfl) ?_
        refine lv_icmp_ne (tgt := 97) hx hb dX12_frame_80 (by decide) (fun hc_93 => ?_) (fun hc_93 => ?_)
        · have hf := (if_neg hc_93).symm.trans hf
          exact P97 x5 x3 w z1 H locs ls hf hk1 hH (lv_sub hl [0, 1, 3, 4] rfl)
        · have hf := (if_pos hc_93).symm.trans hf
          refine lv_iload hx hb dX12_frame_83 (lv_at hl 3 rfl) ?_
          refine lv_iload hx hb dX12_frame_85 (lv_at hl 4 rfl) ?_
          obtain ⟨r_96, w_94, hq_95, hf⟩ := am_b2_some hf
          refine am_calli (r := r_96) (w' := w_94) (am_runS (n := 2) (As := [.int x4, .int x5]) (rest := [.int x3]) ⟨hx, hb, hml, hown, hts⟩ hK hE hH (k_X12_has hq_95) (am_gS am_q1454 am_q1455 am_q13 am_q1456) ⟨rfl, rfl⟩ (by decide +kernel) ⟨Nat.le_of_ble_eq_true rfl, Nat.le_of_ble_eq_true rfl⟩ rfl hl.1 rfl (Nat.le_of_ble_eq_true rfl) ⟨Nat.zero_le _, Nat.zero_le _⟩ dX12_frame_87) hH (fun H locs hH => ?_)
          refine lv_if_eq (tgt := 97) hx hb dX12_frame_90 (by decide) (fun hc_97 => ?_) (fun hc_97 => ?_)
          · have hf := (if_pos hc_97).symm.trans hf
            exact P97 x5 x3 w_94 z1 H locs ls hf hk1 hH (lv_sub hl [0, 1, 3, 4] rfl)
          · have hf := (if_neg hc_97).symm.trans hf
            refine lv_iconst (v := 1) hx hb dX12_frame_93 (by decide) ?_
            refine lv_goto (tgt := 98) hx hb dX12_frame_94 (by decide) ?_
            exact P98 x5 (1 : Int32) x3 w_94 z1 H locs ls hf hk1 hH (lv_sub hl [0, 1, 3, 4] rfl)
  refine am_enter (lv := [(0, .ref (G.1 + 271)), (1, .int a1), (2, .int a2)]) (Nat.le_of_ble_eq_true rfl) rfl (fun ls hl => ?_)
  unfold f_X12_frame at hf
  refine am_start hH (fun H locs hH => ?_)
  refine lv_aload_n hx hb dX12_frame_0 rfl (lv_at hl 0 rfl) ?_
  obtain ⟨r_100, w_98, hq_99, hf⟩ := am_b2_some hf
  refine am_calli (r := r_100) (w' := w_98) (am_runV (n := 0) (As := []) (rest := []) ⟨hx, hb, hml, hown, hts⟩ hK hE hH (k_X12_isField hq_99) (am_gV am_q1514 am_q1516 am_qs59 am_q13 am_q1517) (am_o12 (p := 271) (by decide +kernel)) rfl ⟨rfl, rfl⟩ (by decide +kernel) ⟨Nat.le_of_ble_eq_true rfl, Nat.le_of_ble_eq_true rfl⟩ rfl hl.1 rfl (Nat.le_of_ble_eq_true rfl) ⟨Nat.zero_le _, Nat.zero_le _⟩ dX12_frame_1) hH (fun H locs hH => ?_)
  refine lv_if_eq (tgt := 32) hx hb dX12_frame_4 (by decide) (fun hc_101 => ?_) (fun hc_101 => ?_)
  · have hf := (if_pos hc_101).symm.trans hf
    exact P32 w_98 H locs ls hf hH (lv_sub hl [] rfl)
  · have hf := (if_neg hc_101).symm.trans hf
    refine lv_iload_n hx hb dX12_frame_7 rfl (lv_at hl 1 rfl) ?_
    refine lv_iconst (v := 0) hx hb dX12_frame_8 (by decide) ?_
    refine lv_aload_n hx hb dX12_frame_9 rfl (lv_at hl 0 rfl) ?_
    refine am_get hx hb hts hK hown hH (am_o12 (p := 271) (by decide +kernel)) rfl am_inX12 10 (by decide) am_q1329 (v := .ref (G.1 + 276)) rfl dX12_frame_10 ?_
    refine lv_iconst (v := 1) hx hb dX12_frame_13 (by decide) ?_
    obtain ⟨hi_102, hf⟩ := am_chk_some hf
    refine am_iald hx hb hK hH (am_ai_of (N := 4) (by decide +kernel)) hi_102 dX12_frame_14 ?_
    refine lv_iconst (v := 1) hx hb dX12_frame_15 (by decide) ?_
    refine lv_isub hx hb dX12_frame_16 ?_
    obtain ⟨r_105, w_103, hq_104, hf⟩ := am_b2_some hf
    refine am_calli (r := r_105) (w' := w_103) (am_runS (n := 3) (As := [.int a1, .int (0 : Int32), .int ((w_98.1 276 (1 : Int32).toNatClampNeg) - (1 : Int32))]) (rest := []) ⟨hx, hb, hml, hown, hts⟩ hK hE hH (k_X12_in hq_104) (am_gS am_q1425 am_q1426 am_q13 am_q1427) ⟨rfl, rfl⟩ (by decide +kernel) ⟨Nat.le_of_ble_eq_true rfl, Nat.le_of_ble_eq_true rfl⟩ rfl hl.1 rfl (Nat.le_of_ble_eq_true rfl) ⟨Nat.zero_le _, Nat.zero_le _⟩ dX12_frame_17) hH (fun H locs hH => ?_)
    refine lv_if_eq (tgt := 32) hx hb dX12_frame_20 (by decide) (fun hc_106 => ?_) (fun hc_106 => ?_)
    · have hf := (if_pos hc_106).symm.trans hf
      exact P32 w_103 H locs ls hf hH (lv_sub hl [] rfl)
    · have hf := (if_neg hc_106).symm.trans hf
      refine lv_iload_n hx hb dX12_frame_23 rfl (lv_at hl 2 rfl) ?_
      refine lv_iconst (v := 0) hx hb dX12_frame_24 (by decide) ?_
      refine lv_iconst (v := 4) hx hb dX12_frame_25 (by decide) ?_
      obtain ⟨r_109, w_107, hq_108, hf⟩ := am_b2_some hf
      refine am_calli (r := r_109) (w' := w_107) (am_runS (n := 3) (As := [.int a2, .int (0 : Int32), .int (4 : Int32)]) (rest := []) ⟨hx, hb, hml, hown, hts⟩ hK hE hH (k_X12_in hq_108) (am_gS am_q1425 am_q1426 am_q13 am_q1427) ⟨rfl, rfl⟩ (by decide +kernel) ⟨Nat.le_of_ble_eq_true rfl, Nat.le_of_ble_eq_true rfl⟩ rfl hl.1 rfl (Nat.le_of_ble_eq_true rfl) ⟨Nat.zero_le _, Nat.zero_le _⟩ dX12_frame_26) hH (fun H locs hH => ?_)
      refine lv_if_ne (tgt := 34) hx hb dX12_frame_29 (by decide) (fun hc_110 => ?_) (fun hc_110 => ?_)
      · have hf := (if_neg hc_110).symm.trans hf
        refine lv_iconst (v := 0) hx hb dX12_frame_34 (by decide) ?_
        refine lv_istore_n (lv' := [(3, .int (0 : Int32)), (0, .ref (G.1 + 271)), (1, .int a1), (2, .int a2)]) hx hb dX12_frame_35 rfl hl (by decide) rfl (fun ls hl => ?_)
        refine lv_iload_n hx hb dX12_frame_36 rfl (lv_at hl 3 rfl) ?_
        refine lv_iconst (v := 4) hx hb dX12_frame_37 (by decide) ?_
        refine lv_icmp_ne (tgt := 108) hx hb dX12_frame_38 (by decide) (fun hc_111 => ?_) (fun hc_111 => ?_)
        · have hf := (if_neg hc_111).symm.trans hf
          refine lv_iconst (v := 0) hx hb dX12_frame_108 (by decide) ?_
          refine lv_istore (lv' := [(4, .int (0 : Int32)), (3, .int (0 : Int32)), (0, .ref (G.1 + 271)), (1, .int a1), (2, .int a2)]) hx hb dX12_frame_109 hl (by decide) rfl (fun ls hl => ?_)
          exact P111 am_fuel (0 : Int32) (0 : Int32) w_107 H locs ls hf hH (lv_sub hl [2, 3, 4, 1, 0] rfl)
        · have hf := (if_pos hc_111).symm.trans hf
          refine lv_aload_n hx hb dX12_frame_41 rfl (lv_at hl 1 rfl) ?_
          obtain ⟨w_112, hq_113, hf⟩ := am_b1_some hf
          refine am_callv (w' := w_112) (am_runV (n := 0) (As := []) (rest := []) ⟨hx, hb, hml, hown, hts⟩ hK hE hH (k_X12_layOccupied hq_113) (am_gV am_q1794 am_q1796 am_qs101 am_q13 am_q1797) (am_o12 (p := 271) (by decide +kernel)) rfl ⟨rfl, rfl⟩ (by decide +kernel) ⟨Nat.le_of_ble_eq_true rfl, Nat.le_of_ble_eq_true rfl⟩ rfl hl.1 rfl (Nat.le_of_ble_eq_true rfl) ⟨Nat.zero_le _, Nat.zero_le _⟩ dX12_frame_42) hH (fun H locs hH => ?_)
          refine lv_aload_n hx hb dX12_frame_45 rfl (lv_at hl 1 rfl) ?_
          refine lv_aload_n hx hb dX12_frame_46 rfl (lv_at hl 1 rfl) ?_
          obtain ⟨r_116, w_114, hq_115, hf⟩ := am_b2_some hf
          refine am_calli (r := r_116) (w' := w_114) (am_runV (n := 0) (As := []) (rest := [.ref (G.1 + 271)]) ⟨hx, hb, hml, hown, hts⟩ hK hE hH (k_X12_unknownOnes hq_115) (am_gV am_q1798 am_q1800 am_qs102 am_q13 am_q1801) (am_o12 (p := 271) (by decide +kernel)) rfl ⟨rfl, rfl⟩ (by decide +kernel) ⟨Nat.le_of_ble_eq_true rfl, Nat.le_of_ble_eq_true rfl⟩ rfl hl.1 rfl (Nat.le_of_ble_eq_true rfl) ⟨Nat.zero_le _, Nat.zero_le _⟩ dX12_frame_47) hH (fun H locs hH => ?_)
          obtain ⟨r_119, w_117, hq_118, hf⟩ := am_b2_some hf
          refine am_calli (r := r_119) (w' := w_117) (am_runV (n := 1) (As := [.int r_116]) (rest := []) ⟨hx, hb, hml, hown, hts⟩ hK hE hH (k_X12_remaining hq_118) (am_gV am_q1806 am_q1808 am_qs104 am_q13 am_q1809) (am_o12 (p := 271) (by decide +kernel)) rfl ⟨rfl, rfl⟩ (by decide +kernel) ⟨Nat.le_of_ble_eq_true rfl, Nat.le_of_ble_eq_true rfl⟩ rfl hl.1 rfl (Nat.le_of_ble_eq_true rfl) ⟨Nat.zero_le _, Nat.zero_le _⟩ dX12_frame_50) hH (fun H locs hH => ?_)
          refine lv_istore (lv' := [(4, .int r_119), (3, .int (0 : Int32)), (0, .ref (G.1 + 271)), (1, .int a1), (2, .int a2)]) hx hb dX12_frame_53 hl (by decide) rfl (fun ls hl => ?_)
          refine lv_iconst (v := 0) hx hb dX12_frame_55 (by decide) ?_
          refine lv_istore (lv' := [(5, .int (0 : Int32)), (4, .int r_119), (3, .int (0 : Int32)), (0, .ref (G.1 + 271)), (1, .int a1), (2, .int a2)]) hx hb dX12_frame_56 hl (by decide) rfl (fun ls hl => ?_)
          exact P58 r_119 am_fuel (0 : Int32) (0 : Int32) w_117 H locs ls hf hH (lv_sub hl [3, 4, 2, 1, 0] rfl)
      · have hf := (if_pos hc_110).symm.trans hf
        exact P32 w_107 H locs ls hf hH (lv_sub hl [] rfl)

def f_X12_image_11b  (x1 : Int32) (w : am_S) : Option ((Int32 × am_S) ⊕ (Int32 × am_S)) :=
  if (245 : Int32) ≤ x1 then (am_x (am_v (am_pi w 271 29 (1 : Int32)) fun (w_16 : am_S) => am_b2 (f_X12_knownMany w_16) fun r_19 w_17 => some (r_19, w_17))) else (am_chk x1 245 (am_chk x1 245 (am_v (am_pi w 289 x1.toNatClampNeg (w.1 281 x1.toNatClampNeg)) fun (w_22 : am_S) => am_v (x1 + (1 : Int32)) fun (x1_23 : Int32) => some (.inr (x1_23, w_22)))))
def f_X12_image_11  (x1 : Int32) (w : am_S) : Option (Int32 × am_S) :=
  am_loop (fun (st : (Int32 × am_S)) => f_X12_image_11b st.1 st.2) am_fuel (x1, w)
def f_X12_image  (w : am_S) : Option (Int32 × am_S) :=
  am_b2 (f_X12_isField w) fun r_26 w_24 => if r_26 = 0 then (some ((-1 : Int32), w_24)) else (f_X12_image_11 (0 : Int32) w_24)
set_option maxRecDepth 100000 in
set_option maxHeartbeats 4000000 in
theorem k_X12_image {G : am_G} {l : Launch}   {w : am_S} {rr : Int32} {ww : am_S} (hf : f_X12_image  w = some (rr, ww)) : am_Mi G l yX12_image (Cond.code yX12_image cX12_image 2 (some .int) :: am_T) { frames := 3, cells := 0, slots := 0, locals := 192 } [.ref (G.1 + 271)] w rr ww := by
  refine Met.ofW (cc := cX12_image) (maxL := 2) (ret := (some .int)) (by decide) rfl ?_
  intro p e s m args below meth c s₁ B hml hv
  obtain ⟨rfl, hx, hb, hr, hts, hown, hlocks, hK, hE, hH⟩ := am_begin B hv
  have hown : s.vm.findClass RX12 = some m.cls := hown
  show W p l e { frames := 3, cells := 0, slots := 0, locals := 192 } s m _ below meth c s.heap [] 0 0 _ _
  have P11 : ∀ (n1 : Nat) (x1 : Int32) (w : am_S) (H : Heap) (locs : List Loc) (ls : Array Slot), am_loop (fun (st : (Int32 × am_S)) => f_X12_image_11b st.1 st.2) n1 (x1, w) = some (rr, ww) → am_H G w s H locs → lv_has ls 2 [(0, .ref (G.1 + 271)), (1, .int x1)] → W p l e { frames := 3, cells := 0, slots := 0, locals := 192 } s m [.ref (G.1 + 271)].toArray below meth c H locs 0 0 (MQ below (va_Qi (fun (x : Int32) (u : am_S) => x = rr ∧ u = ww) (am_U G) (am_A G)) [.ref (G.1 + 271)].toArray s 0 0 (am_A G)) (F0 m 11 ls []) := by
    intro n1
    induction n1 with
    | zero =>
      intro x1 w H locs ls hf hH hl
      exact (am_loop_zero hf).elim
    | succ n1 ih1 =>
      intro x1 w H locs ls hf hH hl
      obtain ⟨z1, hf, hk1⟩ := am_loop_succ hf
      have hf : f_X12_image_11b x1 w = some z1 := hf
      unfold f_X12_image_11b at hf
      refine lv_iload_n hx hb dX12_image_11 rfl (lv_at hl 1 rfl) ?_
      refine lv_sipush (v := 245) hx hb dX12_image_12 (by decide) ?_
      refine lv_icmp_ge (tgt := 36) hx hb dX12_image_15 (by decide) (fun hc_14 => ?_) (fun hc_14 => ?_)
      · have hf := (if_pos hc_14).symm.trans hf
        obtain ⟨y_15, hf, hzy_15⟩ := am_x_some hf
        rw [hzy_15] at hk1
        have hf := hf.trans (congrArg some (show y_15 = (rr, ww) from hk1))
        refine lv_aload_n hx hb dX12_image_36 rfl (lv_at hl 0 rfl) ?_
        refine lv_iconst (v := 1) hx hb dX12_image_37 (by decide) ?_
        obtain ⟨w_16, hw_16, hf⟩ := am_v_some hf
        refine am_puti hx hb hts hK hown hH (am_o12 (p := 271) (by decide +kernel)) rfl am_inX12 tyX12 tyX12_ok nmX12 29 (by decide) am_q1348 rfl rfl rfl (fun _ _ => Nat.le_of_ble_eq_true rfl) (fun _ _ _ => rfl) dX12_image_38 (fun H locs hH => ?_)
        rw [← hw_16] at hH
        refine lv_aload_n hx hb dX12_image_41 rfl (lv_at hl 0 rfl) ?_
        obtain ⟨r_19, w_17, hq_18, hf⟩ := am_b2_some hf
        refine am_calli (r := r_19) (w' := w_17) (am_runV (n := 0) (As := []) (rest := []) ⟨hx, hb, hml, hown, hts⟩ hK hE hH (k_X12_knownMany hq_18) (am_gV am_q1621 am_q1623 am_qs85 am_q13 am_q1624) (am_o12 (p := 271) (by decide +kernel)) rfl ⟨rfl, rfl⟩ (by decide +kernel) ⟨Nat.le_of_ble_eq_true rfl, Nat.le_of_ble_eq_true rfl⟩ rfl hl.1 rfl (Nat.le_of_ble_eq_true rfl) ⟨Nat.zero_le _, Nat.zero_le _⟩ dX12_image_42) hH (fun H locs hH => ?_)
        exact am_reti hx hb hr hlocks hH hf dX12_image_45
      · have hf := (if_neg hc_14).symm.trans hf
        refine lv_aload_n hx hb dX12_image_18 rfl (lv_at hl 0 rfl) ?_
        refine am_get hx hb hts hK hown hH (am_o12 (p := 271) (by decide +kernel)) rfl am_inX12 28 (by decide) am_q1347 (v := .ref (G.1 + 289)) rfl dX12_image_19 ?_
        refine lv_iload_n hx hb dX12_image_22 rfl (lv_at hl 1 rfl) ?_
        refine lv_aload_n hx hb dX12_image_23 rfl (lv_at hl 0 rfl) ?_
        refine am_get hx hb hts hK hown hH (am_o12 (p := 271) (by decide +kernel)) rfl am_inX12 17 (by decide) am_q1336 (v := .ref (G.1 + 281)) rfl dX12_image_24 ?_
        refine lv_iload_n hx hb dX12_image_27 rfl (lv_at hl 1 rfl) ?_
        obtain ⟨hi_20, hf⟩ := am_chk_some hf
        refine am_iald hx hb hK hH (am_ai_of (N := 245) (by decide +kernel)) hi_20 dX12_image_28 ?_
        obtain ⟨hi_21, hf⟩ := am_chk_some hf
        obtain ⟨w_22, hw_22, hf⟩ := am_v_some hf
        refine am_iast hx hb hK hH (am_ai_of (N := 245) (by decide +kernel)) hi_21 dX12_image_29 (fun H locs hH => ?_)
        rw [← hw_22] at hH
        obtain ⟨x1_23, hx1_23, hf⟩ := am_v_some hf
        refine lv_iinc (v := x1_23) (lv' := [(1, .int x1_23), (0, .ref (G.1 + 271))]) hx hb dX12_image_30 hl (k := 1) rfl (by rw [hx1_23]; rfl) (by decide) rfl (fun ls hl => ?_)
        refine lv_goto (tgt := 11) hx hb dX12_image_33 (by decide) ?_
        obtain rfl := Option.some.inj hf
        exact ih1 x1_23 w_22 H locs ls hk1 hH (lv_sub hl [1, 0] rfl)
  refine am_enter (lv := [(0, .ref (G.1 + 271))]) (Nat.le_of_ble_eq_true rfl) rfl (fun ls hl => ?_)
  unfold f_X12_image at hf
  refine am_start hH (fun H locs hH => ?_)
  refine lv_aload_n hx hb dX12_image_0 rfl (lv_at hl 0 rfl) ?_
  obtain ⟨r_26, w_24, hq_25, hf⟩ := am_b2_some hf
  refine am_calli (r := r_26) (w' := w_24) (am_runV (n := 0) (As := []) (rest := []) ⟨hx, hb, hml, hown, hts⟩ hK hE hH (k_X12_isField hq_25) (am_gV am_q1514 am_q1516 am_qs59 am_q13 am_q1517) (am_o12 (p := 271) (by decide +kernel)) rfl ⟨rfl, rfl⟩ (by decide +kernel) ⟨Nat.le_of_ble_eq_true rfl, Nat.le_of_ble_eq_true rfl⟩ rfl hl.1 rfl (Nat.le_of_ble_eq_true rfl) ⟨Nat.zero_le _, Nat.zero_le _⟩ dX12_image_1) hH (fun H locs hH => ?_)
  refine lv_if_ne (tgt := 9) hx hb dX12_image_4 (by decide) (fun hc_27 => ?_) (fun hc_27 => ?_)
  · have hf := (if_neg hc_27).symm.trans hf
    refine lv_iconst (v := 0) hx hb dX12_image_9 (by decide) ?_
    refine lv_istore_n (lv' := [(1, .int (0 : Int32)), (0, .ref (G.1 + 271))]) hx hb dX12_image_10 rfl hl (by decide) rfl (fun ls hl => ?_)
    exact P11 am_fuel (0 : Int32) w_24 H locs ls hf hH (lv_sub hl [1, 0] rfl)
  · have hf := (if_pos hc_27).symm.trans hf
    refine lv_iconst (v := -1) hx hb dX12_image_7 (by decide) ?_
    exact am_reti hx hb hr hlocks hH hf dX12_image_8

def f_X12_jamFromB_33 (rec : Int32 → Int32 → Int32 → Int32 → Int32 → am_S → Option (Int32 × am_S)) (a1 : Int32) (a2 : Int32) (a3 : Int32) (a4 : Int32) (a5 : Int32) (s0 : Int32) (w : am_S) : Option (Int32 × am_S) :=
  some (s0, w)
def f_X12_jamFromB (rec : Int32 → Int32 → Int32 → Int32 → Int32 → am_S → Option (Int32 × am_S)) (a1 : Int32) (a2 : Int32) (a3 : Int32) (a4 : Int32) (a5 : Int32) (w : am_S) : Option (Int32 × am_S) :=
  if a5 = 0 then (some ((0 : Int32), w)) else (if a2 = a3 then (am_b2 (f_X12_unknownOnes w) fun r_35 w_33 => am_b2 (f_X12_remaining r_35 w_33) fun r_38 w_36 => am_b2 (f_X12_has r_38 a1 w_36) fun r_41 w_39 => if r_41 = 0 then (f_X12_jamFromB_33 rec a1 a2 a3 a4 a5 a5 w_39) else (f_X12_jamFromB_33 rec a1 a2 a3 a4 a5 (0 : Int32) w_39)) else (am_v ((((a5.toInt64) * (a4.toInt64)) / (100 : Int64)).toInt32) fun (x6_24 : Int32) => am_v (am_pl w 271 20 ((w.2.1 271 20) ||| (am_lshl (1 : Int64) a2))) fun (w_25 : am_S) => am_b2 (rec a1 (a2 + (1 : Int32)) a3 a4 x6_24 w_25) fun r_28 w_26 => am_v (am_pl w_26 271 20 ((w_26.2.1 271 20) &&& ((am_lshl (1 : Int64) a2) ^^^ (-1 : Int64)))) fun (w_29 : am_S) => am_b2 (rec a1 (a2 + (1 : Int32)) a3 a4 (a5 - x6_24) w_29) fun r_32 w_30 => some (r_28 + r_32, w_30)))
def f_X12_jamFrom : Nat → Int32 → Int32 → Int32 → Int32 → Int32 → am_S → Option (Int32 × am_S)
  | 0 => fun _ _ _ _ _ _ => none
  | dd + 1 => fun a1 a2 a3 a4 a5 w => f_X12_jamFromB (f_X12_jamFrom dd) a1 a2 a3 a4 a5 w
set_option maxRecDepth 100000 in
set_option maxHeartbeats 4000000 in
theorem k_X12_jamFromB {G : am_G} {l : Launch} {dd : Nat} {rec : Int32 → Int32 → Int32 → Int32 → Int32 → am_S → Option (Int32 × am_S)} {a1 : Int32} {a2 : Int32} {a3 : Int32} {a4 : Int32} {a5 : Int32} (hrec : ∀ {a1 : Int32} {a2 : Int32} {a3 : Int32} {a4 : Int32} {a5 : Int32} {w : am_S} {rr : Int32} {ww : am_S}, rec a1 a2 a3 a4 a5 w = some (rr, ww) → am_Mi G l yX12_jamFrom (Cond.code yX12_jamFrom cX12_jamFrom 8 (some .int) :: am_T) { frames := dd + 3, cells := 0, slots := 0, locals := 64 * (dd + 3) } [.ref (G.1 + 271), .int a1, .int a2, .int a3, .int a4, .int a5] w rr ww) {w : am_S} {rr : Int32} {ww : am_S} (hf : f_X12_jamFromB rec a1 a2 a3 a4 a5 w = some (rr, ww)) : am_Mi G l yX12_jamFrom (Cond.code yX12_jamFrom cX12_jamFrom 8 (some .int) :: am_T) { frames := dd + 1 + 3, cells := 0, slots := 0, locals := 64 * (dd + 1 + 3) } [.ref (G.1 + 271), .int a1, .int a2, .int a3, .int a4, .int a5] w rr ww := by
  refine Met.ofW (cc := cX12_jamFrom) (maxL := 8) (ret := (some .int)) (by decide) rfl ?_
  intro p e s m args below meth c s₁ B hml hv
  obtain ⟨rfl, hx, hb, hr, hts, hown, hlocks, hK, hE, hH⟩ := am_begin B hv
  have hown : s.vm.findClass RX12 = some m.cls := hown
  show W p l e { frames := dd + 1 + 3, cells := 0, slots := 0, locals := 64 * (dd + 1 + 3) } s m _ below meth c s.heap [] 0 0 _ _
  have P33 : ∀ (s0 : Int32) (w : am_S) (H : Heap) (locs : List Loc) (ls : Array Slot), f_X12_jamFromB_33 rec a1 a2 a3 a4 a5 s0 w = some (rr, ww) → am_H G w s H locs → lv_has ls 8 [] → W p l e { frames := dd + 1 + 3, cells := 0, slots := 0, locals := 64 * (dd + 1 + 3) } s m [.ref (G.1 + 271), .int a1, .int a2, .int a3, .int a4, .int a5].toArray below meth c H locs 0 0 (MQ below (va_Qi (fun (x : Int32) (u : am_S) => x = rr ∧ u = ww) (am_U G) (am_A G)) [.ref (G.1 + 271), .int a1, .int a2, .int a3, .int a4, .int a5].toArray s 0 0 (am_A G)) (F0 m 33 ls [.int s0]) := by
    intro s0 w H locs ls hf hH hl
    unfold f_X12_jamFromB_33 at hf
    exact am_reti hx hb hr hlocks hH hf dX12_jamFrom_33
  refine am_enter (lv := [(0, .ref (G.1 + 271)), (1, .int a1), (2, .int a2), (3, .int a3), (4, .int a4), (5, .int a5)]) (Nat.le_of_ble_eq_true rfl) rfl (fun ls hl => ?_)
  unfold f_X12_jamFromB at hf
  refine am_start hH (fun H locs hH => ?_)
  refine lv_iload hx hb dX12_jamFrom_0 (lv_at hl 5 rfl) ?_
  refine lv_if_ne (tgt := 7) hx hb dX12_jamFrom_2 (by decide) (fun hc_22 => ?_) (fun hc_22 => ?_)
  · have hf := (if_neg hc_22).symm.trans hf
    refine lv_iload_n hx hb dX12_jamFrom_7 rfl (lv_at hl 2 rfl) ?_
    refine lv_iload_n hx hb dX12_jamFrom_8 rfl (lv_at hl 3 rfl) ?_
    refine lv_icmp_ne (tgt := 34) hx hb dX12_jamFrom_9 (by decide) (fun hc_23 => ?_) (fun hc_23 => ?_)
    · have hf := (if_neg hc_23).symm.trans hf
      refine lv_iload hx hb dX12_jamFrom_34 (lv_at hl 5 rfl) ?_
      refine lv_i2l hx hb dX12_jamFrom_36 rfl ?_
      refine lv_iload hx hb dX12_jamFrom_37 (lv_at hl 4 rfl) ?_
      refine lv_i2l hx hb dX12_jamFrom_39 rfl ?_
      refine lv_lmul hx hb dX12_jamFrom_40 ?_
      refine lv_ldc2 (v := 100) hx hb hown (hts _ am_q1903) dX12_jamFrom_41 ?_
      refine lv_ldiv hx hb dX12_jamFrom_44 (by decide) ?_
      refine lv_l2i hx hb dX12_jamFrom_45 rfl ?_
      obtain ⟨x6_24, hx6_24, hf⟩ := am_v_some hf
      refine am_topi hx6_24 ?_
      refine lv_istore (lv' := [(6, .int x6_24), (0, .ref (G.1 + 271)), (1, .int a1), (2, .int a2), (3, .int a3), (4, .int a4), (5, .int a5)]) hx hb dX12_jamFrom_46 hl (by decide) rfl (fun ls hl => ?_)
      refine lv_aload_n hx hb dX12_jamFrom_48 rfl (lv_at hl 1 rfl) ?_
      refine lv_dup hx hb dX12_jamFrom_49 rfl ?_
      refine am_get hx hb hts hK hown hH (am_o12 (p := 271) (by decide +kernel)) rfl am_inX12 20 (by decide) am_q1339 (v := .long (w.2.1 271 20)) rfl dX12_jamFrom_50 ?_
      refine lv_lconst (v := 1) hx hb dX12_jamFrom_53 (by decide) ?_
      refine lv_iload_n hx hb dX12_jamFrom_54 rfl (lv_at hl 3 rfl) ?_
      refine lv_lshl (v := am_lshl (1 : Int64) a2) hx hb dX12_jamFrom_55 rfl ?_
      refine lv_lor hx hb dX12_jamFrom_56 ?_
      obtain ⟨w_25, hw_25, hf⟩ := am_v_some hf
      refine am_putl hx hb hts hK hown hH (am_o12 (p := 271) (by decide +kernel)) rfl am_inX12 tyX12 tyX12_ok nmX12 20 (by decide) am_q1339 rfl rfl rfl (fun _ _ => Nat.le_of_ble_eq_true rfl) (fun _ _ _ => rfl) dX12_jamFrom_57 (fun H locs hH => ?_)
      rw [← hw_25] at hH
      refine lv_aload_n hx hb dX12_jamFrom_60 rfl (lv_at hl 1 rfl) ?_
      refine lv_iload_n hx hb dX12_jamFrom_61 rfl (lv_at hl 2 rfl) ?_
      refine lv_iload_n hx hb dX12_jamFrom_62 rfl (lv_at hl 3 rfl) ?_
      refine lv_iconst (v := 1) hx hb dX12_jamFrom_63 (by decide) ?_
      refine lv_iadd hx hb dX12_jamFrom_64 ?_
      refine lv_iload_n hx hb dX12_jamFrom_65 rfl (lv_at hl 4 rfl) ?_
      refine lv_iload hx hb dX12_jamFrom_66 (lv_at hl 5 rfl) ?_
      refine lv_iload hx hb dX12_jamFrom_68 (lv_at hl 0 rfl) ?_
      obtain ⟨r_28, w_26, hq_27, hf⟩ := am_b2_some hf
      refine am_calli (r := r_28) (w' := w_26) (am_runV (n := 5) (As := [.int a1, .int (a2 + (1 : Int32)), .int a3, .int a4, .int x6_24]) (rest := []) ⟨hx, hb, hml, hown, hts⟩ hK hE hH (hrec hq_27) (am_gV am_q1899 am_q1901 am_qs112 am_q13 am_q1902) (am_o12 (p := 271) (by decide +kernel)) rfl ⟨rfl, rfl⟩ (by decide +kernel) ⟨(show dd + 3 + 1 ≤ dd + 1 + 3 by omega), (show 8 + (8 + 11) + 64 * (dd + 3) ≤ 64 * (dd + 1 + 3) by omega)⟩ rfl hl.1 rfl (Nat.le_of_ble_eq_true rfl) ⟨Nat.zero_le _, Nat.zero_le _⟩ dX12_jamFrom_70) hH (fun H locs hH => ?_)
      refine lv_istore (lv' := [(7, .int r_28), (6, .int x6_24), (0, .ref (G.1 + 271)), (1, .int a1), (2, .int a2), (3, .int a3), (4, .int a4), (5, .int a5)]) hx hb dX12_jamFrom_73 hl (by decide) rfl (fun ls hl => ?_)
      refine lv_aload_n hx hb dX12_jamFrom_75 rfl (lv_at hl 2 rfl) ?_
      refine lv_dup hx hb dX12_jamFrom_76 rfl ?_
      refine am_get hx hb hts hK hown hH (am_o12 (p := 271) (by decide +kernel)) rfl am_inX12 20 (by decide) am_q1339 (v := .long (w_26.2.1 271 20)) rfl dX12_jamFrom_77 ?_
      refine lv_lconst (v := 1) hx hb dX12_jamFrom_80 (by decide) ?_
      refine lv_iload_n hx hb dX12_jamFrom_81 rfl (lv_at hl 4 rfl) ?_
      refine lv_lshl (v := am_lshl (1 : Int64) a2) hx hb dX12_jamFrom_82 rfl ?_
      refine lv_ldc2 (v := -1) hx hb hown (hts _ am_q1904) dX12_jamFrom_83 ?_
      refine lv_lxor hx hb dX12_jamFrom_86 ?_
      refine lv_land hx hb dX12_jamFrom_87 ?_
      obtain ⟨w_29, hw_29, hf⟩ := am_v_some hf
      refine am_putl hx hb hts hK hown hH (am_o12 (p := 271) (by decide +kernel)) rfl am_inX12 tyX12 tyX12_ok nmX12 20 (by decide) am_q1339 rfl rfl rfl (fun _ _ => Nat.le_of_ble_eq_true rfl) (fun _ _ _ => rfl) dX12_jamFrom_88 (fun H locs hH => ?_)
      rw [← hw_29] at hH
      refine lv_iload hx hb dX12_jamFrom_91 (lv_at hl 0 rfl) ?_
      refine lv_aload_n hx hb dX12_jamFrom_93 rfl (lv_at hl 2 rfl) ?_
      refine lv_iload_n hx hb dX12_jamFrom_94 rfl (lv_at hl 3 rfl) ?_
      refine lv_iload_n hx hb dX12_jamFrom_95 rfl (lv_at hl 4 rfl) ?_
      refine lv_iconst (v := 1) hx hb dX12_jamFrom_96 (by decide) ?_
      refine lv_iadd hx hb dX12_jamFrom_97 ?_
      refine lv_iload_n hx hb dX12_jamFrom_98 rfl (lv_at hl 5 rfl) ?_
      refine lv_iload hx hb dX12_jamFrom_99 (lv_at hl 6 rfl) ?_
      refine lv_iload hx hb dX12_jamFrom_101 (lv_at hl 7 rfl) ?_
      refine lv_iload hx hb dX12_jamFrom_103 (lv_at hl 1 rfl) ?_
      refine lv_isub hx hb dX12_jamFrom_105 ?_
      obtain ⟨r_32, w_30, hq_31, hf⟩ := am_b2_some hf
      refine am_calli (r := r_32) (w' := w_30) (am_runV (n := 5) (As := [.int a1, .int (a2 + (1 : Int32)), .int a3, .int a4, .int (a5 - x6_24)]) (rest := [.int r_28]) ⟨hx, hb, hml, hown, hts⟩ hK hE hH (hrec hq_31) (am_gV am_q1899 am_q1901 am_qs112 am_q13 am_q1902) (am_o12 (p := 271) (by decide +kernel)) rfl ⟨rfl, rfl⟩ (by decide +kernel) ⟨(show dd + 3 + 1 ≤ dd + 1 + 3 by omega), (show 8 + (8 + 11) + 64 * (dd + 3) ≤ 64 * (dd + 1 + 3) by omega)⟩ rfl hl.1 rfl (Nat.le_of_ble_eq_true rfl) ⟨Nat.zero_le _, Nat.zero_le _⟩ dX12_jamFrom_106) hH (fun H locs hH => ?_)
      refine lv_iadd hx hb dX12_jamFrom_109 ?_
      exact am_reti hx hb hr hlocks hH hf dX12_jamFrom_110
    · have hf := (if_pos hc_23).symm.trans hf
      refine lv_aload_n hx hb dX12_jamFrom_12 rfl (lv_at hl 0 rfl) ?_
      refine lv_aload_n hx hb dX12_jamFrom_13 rfl (lv_at hl 0 rfl) ?_
      obtain ⟨r_35, w_33, hq_34, hf⟩ := am_b2_some hf
      refine am_calli (r := r_35) (w' := w_33) (am_runV (n := 0) (As := []) (rest := [.ref (G.1 + 271)]) ⟨hx, hb, hml, hown, hts⟩ hK hE hH (k_X12_unknownOnes hq_34) (am_gV am_q1798 am_q1800 am_qs102 am_q13 am_q1801) (am_o12 (p := 271) (by decide +kernel)) rfl ⟨rfl, rfl⟩ (by decide +kernel) ⟨(show 2 + 1 ≤ dd + 1 + 3 by omega), (show 8 + (1 + 11) + 128 ≤ 64 * (dd + 1 + 3) by omega)⟩ rfl hl.1 rfl (Nat.le_of_ble_eq_true rfl) ⟨Nat.zero_le _, Nat.zero_le _⟩ dX12_jamFrom_14) hH (fun H locs hH => ?_)
      obtain ⟨r_38, w_36, hq_37, hf⟩ := am_b2_some hf
      refine am_calli (r := r_38) (w' := w_36) (am_runV (n := 1) (As := [.int r_35]) (rest := []) ⟨hx, hb, hml, hown, hts⟩ hK hE hH (k_X12_remaining hq_37) (am_gV am_q1806 am_q1808 am_qs104 am_q13 am_q1809) (am_o12 (p := 271) (by decide +kernel)) rfl ⟨rfl, rfl⟩ (by decide +kernel) ⟨(show 2 + 1 ≤ dd + 1 + 3 by omega), (show 8 + (5 + 11) + 128 ≤ 64 * (dd + 1 + 3) by omega)⟩ rfl hl.1 rfl (Nat.le_of_ble_eq_true rfl) ⟨Nat.zero_le _, Nat.zero_le _⟩ dX12_jamFrom_17) hH (fun H locs hH => ?_)
      refine lv_iload_n hx hb dX12_jamFrom_20 rfl (lv_at hl 1 rfl) ?_
      obtain ⟨r_41, w_39, hq_40, hf⟩ := am_b2_some hf
      refine am_calli (r := r_41) (w' := w_39) (am_runS (n := 2) (As := [.int r_38, .int a1]) (rest := []) ⟨hx, hb, hml, hown, hts⟩ hK hE hH (k_X12_has hq_40) (am_gS am_q1454 am_q1455 am_q13 am_q1456) ⟨rfl, rfl⟩ (by decide +kernel) ⟨(show 0 + 1 ≤ dd + 1 + 3 by omega), (show 8 + (2 + 11) + 0 ≤ 64 * (dd + 1 + 3) by omega)⟩ rfl hl.1 rfl (Nat.le_of_ble_eq_true rfl) ⟨Nat.zero_le _, Nat.zero_le _⟩ dX12_jamFrom_21) hH (fun H locs hH => ?_)
      refine lv_if_eq (tgt := 31) hx hb dX12_jamFrom_24 (by decide) (fun hc_42 => ?_) (fun hc_42 => ?_)
      · have hf := (if_pos hc_42).symm.trans hf
        refine lv_iload hx hb dX12_jamFrom_31 (lv_at hl 5 rfl) ?_
        exact P33 a5 w_39 H locs ls hf hH (lv_sub hl [] rfl)
      · have hf := (if_neg hc_42).symm.trans hf
        refine lv_iconst (v := 0) hx hb dX12_jamFrom_27 (by decide) ?_
        refine lv_goto (tgt := 33) hx hb dX12_jamFrom_28 (by decide) ?_
        exact P33 (0 : Int32) w_39 H locs ls hf hH (lv_sub hl [] rfl)
  · have hf := (if_pos hc_22).symm.trans hf
    refine lv_iconst (v := 0) hx hb dX12_jamFrom_5 (by decide) ?_
    exact am_reti hx hb hr hlocks hH hf dX12_jamFrom_6
theorem k_X12_jamFrom {G : am_G} {l : Launch} : ∀ (dd : Nat) {a1 : Int32} {a2 : Int32} {a3 : Int32} {a4 : Int32} {a5 : Int32} {w : am_S} {rr : Int32} {ww : am_S}, f_X12_jamFrom dd a1 a2 a3 a4 a5 w = some (rr, ww) → am_Mi G l yX12_jamFrom (Cond.code yX12_jamFrom cX12_jamFrom 8 (some .int) :: am_T) { frames := dd + 3, cells := 0, slots := 0, locals := 64 * (dd + 3) } [.ref (G.1 + 271), .int a1, .int a2, .int a3, .int a4, .int a5] w rr ww := by
  intro dd
  induction dd with
  | zero => intro a1 a2 a3 a4 a5 w rr ww h; cases h
  | succ dd ih => intro a1 a2 a3 a4 a5 w rr ww h; exact k_X12_jamFromB ih h

def f_X12_jam_34 (a1 : Int32) (a2 : Int32) (a3 : Int32) (w : am_S) : Option (Int32 × am_S) :=
  some ((-1 : Int32), w)
def f_X12_jam (a1 : Int32) (a2 : Int32) (a3 : Int32) (w : am_S) : Option (Int32 × am_S) :=
  am_b2 (f_X12_isUser a1 w) fun r_23 w_21 => if r_23 = 0 then (f_X12_jam_34 a1 a2 a3 w_21) else (am_chk (1 : Int32) 4 (am_b2 (f_X12_in a2 (0 : Int32) ((w_21.1 276 (1 : Int32).toNatClampNeg) - (1 : Int32)) w_21) fun r_28 w_26 => if r_28 = 0 then (f_X12_jam_34 a1 a2 a3 w_26) else (am_b2 (f_X12_in a3 (0 : Int32) (100 : Int32) w_26) fun r_32 w_30 => if r_32 = 0 then (f_X12_jam_34 a1 a2 a3 w_30) else (am_b1 (f_X12_layOccupied w_30) fun w_34 => am_chk (0 : Int32) 4 (am_chk (0 : Int32) 4 (am_b2 (f_X12_jamFrom 14 a1 ((w_34.1 276 (0 : Int32).toNatClampNeg) * a2) ((w_34.1 276 (0 : Int32).toNatClampNeg) * (a2 + (1 : Int32))) a3 (1000000000 : Int32) w_34) fun r_40 w_38 => some (r_40, w_38)))))))
set_option maxRecDepth 100000 in
set_option maxHeartbeats 4000000 in
theorem k_X12_jam {G : am_G} {l : Launch} {a1 : Int32} {a2 : Int32} {a3 : Int32}  {w : am_S} {rr : Int32} {ww : am_S} (hf : f_X12_jam a1 a2 a3 w = some (rr, ww)) : am_Mi G l yX12_jam (Cond.code yX12_jam cX12_jam 4 (some .int) :: am_T) { frames := 18, cells := 0, slots := 0, locals := 1152 } [.ref (G.1 + 271), .int a1, .int a2, .int a3] w rr ww := by
  refine Met.ofW (cc := cX12_jam) (maxL := 4) (ret := (some .int)) (by decide) rfl ?_
  intro p e s m args below meth c s₁ B hml hv
  obtain ⟨rfl, hx, hb, hr, hts, hown, hlocks, hK, hE, hH⟩ := am_begin B hv
  have hown : s.vm.findClass RX12 = some m.cls := hown
  show W p l e { frames := 18, cells := 0, slots := 0, locals := 1152 } s m _ below meth c s.heap [] 0 0 _ _
  have P34 : ∀ (w : am_S) (H : Heap) (locs : List Loc) (ls : Array Slot), f_X12_jam_34 a1 a2 a3 w = some (rr, ww) → am_H G w s H locs → lv_has ls 4 [] → W p l e { frames := 18, cells := 0, slots := 0, locals := 1152 } s m [.ref (G.1 + 271), .int a1, .int a2, .int a3].toArray below meth c H locs 0 0 (MQ below (va_Qi (fun (x : Int32) (u : am_S) => x = rr ∧ u = ww) (am_U G) (am_A G)) [.ref (G.1 + 271), .int a1, .int a2, .int a3].toArray s 0 0 (am_A G)) (F0 m 34 ls []) := by
    intro w H locs ls hf hH hl
    unfold f_X12_jam_34 at hf
    refine lv_iconst (v := -1) hx hb dX12_jam_34 (by decide) ?_
    exact am_reti hx hb hr hlocks hH hf dX12_jam_35
  refine am_enter (lv := [(0, .ref (G.1 + 271)), (1, .int a1), (2, .int a2), (3, .int a3)]) (Nat.le_of_ble_eq_true rfl) rfl (fun ls hl => ?_)
  unfold f_X12_jam at hf
  refine am_start hH (fun H locs hH => ?_)
  refine lv_aload_n hx hb dX12_jam_0 rfl (lv_at hl 0 rfl) ?_
  refine lv_iload_n hx hb dX12_jam_1 rfl (lv_at hl 1 rfl) ?_
  obtain ⟨r_23, w_21, hq_22, hf⟩ := am_b2_some hf
  refine am_calli (r := r_23) (w' := w_21) (am_runV (n := 1) (As := [.int a1]) (rest := []) ⟨hx, hb, hml, hown, hts⟩ hK hE hH (k_X12_isUser hq_22) (am_gV am_q1554 am_q1556 am_qs69 am_q13 am_q1557) (am_o12 (p := 271) (by decide +kernel)) rfl ⟨rfl, rfl⟩ (by decide +kernel) ⟨Nat.le_of_ble_eq_true rfl, Nat.le_of_ble_eq_true rfl⟩ rfl hl.1 rfl (Nat.le_of_ble_eq_true rfl) ⟨Nat.zero_le _, Nat.zero_le _⟩ dX12_jam_2) hH (fun H locs hH => ?_)
  refine lv_if_eq (tgt := 34) hx hb dX12_jam_5 (by decide) (fun hc_24 => ?_) (fun hc_24 => ?_)
  · have hf := (if_pos hc_24).symm.trans hf
    exact P34 w_21 H locs ls hf hH (lv_sub hl [] rfl)
  · have hf := (if_neg hc_24).symm.trans hf
    refine lv_iload_n hx hb dX12_jam_8 rfl (lv_at hl 2 rfl) ?_
    refine lv_iconst (v := 0) hx hb dX12_jam_9 (by decide) ?_
    refine lv_aload_n hx hb dX12_jam_10 rfl (lv_at hl 0 rfl) ?_
    refine am_get hx hb hts hK hown hH (am_o12 (p := 271) (by decide +kernel)) rfl am_inX12 10 (by decide) am_q1329 (v := .ref (G.1 + 276)) rfl dX12_jam_11 ?_
    refine lv_iconst (v := 1) hx hb dX12_jam_14 (by decide) ?_
    obtain ⟨hi_25, hf⟩ := am_chk_some hf
    refine am_iald hx hb hK hH (am_ai_of (N := 4) (by decide +kernel)) hi_25 dX12_jam_15 ?_
    refine lv_iconst (v := 1) hx hb dX12_jam_16 (by decide) ?_
    refine lv_isub hx hb dX12_jam_17 ?_
    obtain ⟨r_28, w_26, hq_27, hf⟩ := am_b2_some hf
    refine am_calli (r := r_28) (w' := w_26) (am_runS (n := 3) (As := [.int a2, .int (0 : Int32), .int ((w_21.1 276 (1 : Int32).toNatClampNeg) - (1 : Int32))]) (rest := []) ⟨hx, hb, hml, hown, hts⟩ hK hE hH (k_X12_in hq_27) (am_gS am_q1425 am_q1426 am_q13 am_q1427) ⟨rfl, rfl⟩ (by decide +kernel) ⟨Nat.le_of_ble_eq_true rfl, Nat.le_of_ble_eq_true rfl⟩ rfl hl.1 rfl (Nat.le_of_ble_eq_true rfl) ⟨Nat.zero_le _, Nat.zero_le _⟩ dX12_jam_18) hH (fun H locs hH => ?_)
    refine lv_if_eq (tgt := 34) hx hb dX12_jam_21 (by decide) (fun hc_29 => ?_) (fun hc_29 => ?_)
    · have hf := (if_pos hc_29).symm.trans hf
      exact P34 w_26 H locs ls hf hH (lv_sub hl [] rfl)
    · have hf := (if_neg hc_29).symm.trans hf
      refine lv_iload_n hx hb dX12_jam_24 rfl (lv_at hl 3 rfl) ?_
      refine lv_iconst (v := 0) hx hb dX12_jam_25 (by decide) ?_
      refine lv_bipush (v := 100) hx hb dX12_jam_26 (by decide) ?_
      obtain ⟨r_32, w_30, hq_31, hf⟩ := am_b2_some hf
      refine am_calli (r := r_32) (w' := w_30) (am_runS (n := 3) (As := [.int a3, .int (0 : Int32), .int (100 : Int32)]) (rest := []) ⟨hx, hb, hml, hown, hts⟩ hK hE hH (k_X12_in hq_31) (am_gS am_q1425 am_q1426 am_q13 am_q1427) ⟨rfl, rfl⟩ (by decide +kernel) ⟨Nat.le_of_ble_eq_true rfl, Nat.le_of_ble_eq_true rfl⟩ rfl hl.1 rfl (Nat.le_of_ble_eq_true rfl) ⟨Nat.zero_le _, Nat.zero_le _⟩ dX12_jam_28) hH (fun H locs hH => ?_)
      refine lv_if_ne (tgt := 36) hx hb dX12_jam_31 (by decide) (fun hc_33 => ?_) (fun hc_33 => ?_)
      · have hf := (if_neg hc_33).symm.trans hf
        refine lv_aload_n hx hb dX12_jam_36 rfl (lv_at hl 0 rfl) ?_
        obtain ⟨w_34, hq_35, hf⟩ := am_b1_some hf
        refine am_callv (w' := w_34) (am_runV (n := 0) (As := []) (rest := []) ⟨hx, hb, hml, hown, hts⟩ hK hE hH (k_X12_layOccupied hq_35) (am_gV am_q1794 am_q1796 am_qs101 am_q13 am_q1797) (am_o12 (p := 271) (by decide +kernel)) rfl ⟨rfl, rfl⟩ (by decide +kernel) ⟨Nat.le_of_ble_eq_true rfl, Nat.le_of_ble_eq_true rfl⟩ rfl hl.1 rfl (Nat.le_of_ble_eq_true rfl) ⟨Nat.zero_le _, Nat.zero_le _⟩ dX12_jam_37) hH (fun H locs hH => ?_)
        refine lv_aload_n hx hb dX12_jam_40 rfl (lv_at hl 0 rfl) ?_
        refine lv_iload_n hx hb dX12_jam_41 rfl (lv_at hl 1 rfl) ?_
        refine lv_aload_n hx hb dX12_jam_42 rfl (lv_at hl 0 rfl) ?_
        refine am_get hx hb hts hK hown hH (am_o12 (p := 271) (by decide +kernel)) rfl am_inX12 10 (by decide) am_q1329 (v := .ref (G.1 + 276)) rfl dX12_jam_43 ?_
        refine lv_iconst (v := 0) hx hb dX12_jam_46 (by decide) ?_
        obtain ⟨hi_36, hf⟩ := am_chk_some hf
        refine am_iald hx hb hK hH (am_ai_of (N := 4) (by decide +kernel)) hi_36 dX12_jam_47 ?_
        refine lv_iload_n hx hb dX12_jam_48 rfl (lv_at hl 2 rfl) ?_
        refine lv_imul hx hb dX12_jam_49 ?_
        refine lv_aload_n hx hb dX12_jam_50 rfl (lv_at hl 0 rfl) ?_
        refine am_get hx hb hts hK hown hH (am_o12 (p := 271) (by decide +kernel)) rfl am_inX12 10 (by decide) am_q1329 (v := .ref (G.1 + 276)) rfl dX12_jam_51 ?_
        refine lv_iconst (v := 0) hx hb dX12_jam_54 (by decide) ?_
        obtain ⟨hi_37, hf⟩ := am_chk_some hf
        refine am_iald hx hb hK hH (am_ai_of (N := 4) (by decide +kernel)) hi_37 dX12_jam_55 ?_
        refine lv_iload_n hx hb dX12_jam_56 rfl (lv_at hl 2 rfl) ?_
        refine lv_iconst (v := 1) hx hb dX12_jam_57 (by decide) ?_
        refine lv_iadd hx hb dX12_jam_58 ?_
        refine lv_imul hx hb dX12_jam_59 ?_
        refine lv_iload_n hx hb dX12_jam_60 rfl (lv_at hl 3 rfl) ?_
        refine lv_ldcw (v := 1000000000) hx hb hown (hts _ am_q1898) dX12_jam_61 ?_
        obtain ⟨r_40, w_38, hq_39, hf⟩ := am_b2_some hf
        refine am_calli (r := r_40) (w' := w_38) (am_runV (n := 5) (As := [.int a1, .int ((w_34.1 276 (0 : Int32).toNatClampNeg) * a2), .int ((w_34.1 276 (0 : Int32).toNatClampNeg) * (a2 + (1 : Int32))), .int a3, .int (1000000000 : Int32)]) (rest := []) ⟨hx, hb, hml, hown, hts⟩ hK hE hH (k_X12_jamFrom 14 hq_39) (am_gV am_q1899 am_q1901 am_qs112 am_q13 am_q1902) (am_o12 (p := 271) (by decide +kernel)) rfl ⟨rfl, rfl⟩ (by decide +kernel) ⟨Nat.le_of_ble_eq_true rfl, Nat.le_of_ble_eq_true rfl⟩ rfl hl.1 rfl (Nat.le_of_ble_eq_true rfl) ⟨Nat.zero_le _, Nat.zero_le _⟩ dX12_jam_64) hH (fun H locs hH => ?_)
        exact am_reti hx hb hr hlocks hH hf dX12_jam_67
      · have hf := (if_pos hc_33).symm.trans hf
        exact P34 w_30 H locs ls hf hH (lv_sub hl [] rfl)

def f_X12_bestOne_79 (a1 : Int32) (a2 : Int32) (s0 : Int32) (w : am_S) : Option (Int32 × am_S) :=
  some (s0, w)
def f_X12_bestOne_63 (a1 : Int32) (a2 : Int32) (x3 : Int32) (x4 : Int32) (x5 : Int32) (w : am_S) : Option ((Int32 × am_S) ⊕ (Int32 × Int32 × Int32 × am_S)) :=
  am_v (x5 + (1 : Int32)) fun (x5_18 : Int32) => some (.inr (x3, x4, x5_18, w))
def f_X12_bestOne_56 (a1 : Int32) (a2 : Int32) (x5 : Int32) (x6 : Int32) (w : am_S) : Option ((Int32 × am_S) ⊕ (Int32 × Int32 × Int32 × am_S)) :=
  f_X12_bestOne_63 a1 a2 x5 x6 x5 w
def f_X12_bestOne_12b (a1 : Int32) (a2 : Int32) (x3 : Int32) (x4 : Int32) (x5 : Int32) (w : am_S) : Option ((Int32 × am_S) ⊕ (Int32 × Int32 × Int32 × am_S)) :=
  if (w.1 271 13) ≤ x5 then (am_x (if a2 = 0 then (f_X12_bestOne_79 a1 a2 x3 w) else (f_X12_bestOne_79 a1 a2 x4 w))) else (am_b2 (f_X12_isUnknown x5 w) fun r_24 w_22 => if r_24 = 0 then (f_X12_bestOne_63 a1 a2 x3 x4 x5 w_22) else (am_b2 (f_X12_knownWith ((1 : Int32) <<< (x5 &&& 31)) a1 w_22) fun r_28 w_26 => am_b2 (f_X12_bits r_28 w_26) fun r_31 w_29 => if x3 = (-1 : Int32) then (f_X12_bestOne_56 a1 a2 x5 r_31 w_29) else (if r_31 ≤ x4 then (f_X12_bestOne_63 a1 a2 x3 x4 x5 w_29) else (f_X12_bestOne_56 a1 a2 x5 r_31 w_29))))
def f_X12_bestOne_12 (a1 : Int32) (a2 : Int32) (x3 : Int32) (x4 : Int32) (x5 : Int32) (w : am_S) : Option (Int32 × am_S) :=
  am_loop (fun (st : (Int32 × Int32 × Int32 × am_S)) => f_X12_bestOne_12b a1 a2 st.1 st.2.1 st.2.2.1 st.2.2.2) am_fuel (x3, x4, x5, w)
def f_X12_bestOne (a1 : Int32) (a2 : Int32) (w : am_S) : Option (Int32 × am_S) :=
  am_b1 (f_X12_layOccupied w) fun w_34 => f_X12_bestOne_12 a1 a2 (-1 : Int32) (0 : Int32) (0 : Int32) w_34
set_option maxRecDepth 100000 in
set_option maxHeartbeats 4000000 in
theorem k_X12_bestOne {G : am_G} {l : Launch} {a1 : Int32} {a2 : Int32}  {w : am_S} {rr : Int32} {ww : am_S} (hf : f_X12_bestOne a1 a2 w = some (rr, ww)) : am_Mi G l yX12_bestOne (Cond.code yX12_bestOne cX12_bestOne 7 (some .int) :: am_T) { frames := 4, cells := 0, slots := 0, locals := 256 } [.ref (G.1 + 271), .int a1, .int a2] w rr ww := by
  refine Met.ofW (cc := cX12_bestOne) (maxL := 7) (ret := (some .int)) (by decide) rfl ?_
  intro p e s m args below meth c s₁ B hml hv
  obtain ⟨rfl, hx, hb, hr, hts, hown, hlocks, hK, hE, hH⟩ := am_begin B hv
  have hown : s.vm.findClass RX12 = some m.cls := hown
  show W p l e { frames := 4, cells := 0, slots := 0, locals := 256 } s m _ below meth c s.heap [] 0 0 _ _
  have P79 : ∀ (s0 : Int32) (w : am_S) (H : Heap) (locs : List Loc) (ls : Array Slot), f_X12_bestOne_79 a1 a2 s0 w = some (rr, ww) → am_H G w s H locs → lv_has ls 7 [] → W p l e { frames := 4, cells := 0, slots := 0, locals := 256 } s m [.ref (G.1 + 271), .int a1, .int a2].toArray below meth c H locs 0 0 (MQ below (va_Qi (fun (x : Int32) (u : am_S) => x = rr ∧ u = ww) (am_U G) (am_A G)) [.ref (G.1 + 271), .int a1, .int a2].toArray s 0 0 (am_A G)) (F0 m 79 ls [.int s0]) := by
    intro s0 w H locs ls hf hH hl
    unfold f_X12_bestOne_79 at hf
    exact am_reti hx hb hr hlocks hH hf dX12_bestOne_79
  have P12 : ∀ (n1 : Nat) (x3 : Int32) (x4 : Int32) (x5 : Int32) (w : am_S) (H : Heap) (locs : List Loc) (ls : Array Slot), am_loop (fun (st : (Int32 × Int32 × Int32 × am_S)) => f_X12_bestOne_12b a1 a2 st.1 st.2.1 st.2.2.1 st.2.2.2) n1 (x3, x4, x5, w) = some (rr, ww) → am_H G w s H locs → lv_has ls 7 [(0, .ref (G.1 + 271)), (1, .int a1), (2, .int a2), (3, .int x3), (4, .int x4), (5, .int x5)] → W p l e { frames := 4, cells := 0, slots := 0, locals := 256 } s m [.ref (G.1 + 271), .int a1, .int a2].toArray below meth c H locs 0 0 (MQ below (va_Qi (fun (x : Int32) (u : am_S) => x = rr ∧ u = ww) (am_U G) (am_A G)) [.ref (G.1 + 271), .int a1, .int a2].toArray s 0 0 (am_A G)) (F0 m 12 ls []) := by
    intro n1
    induction n1 with
    | zero =>
      intro x3 x4 x5 w H locs ls hf hH hl
      exact (am_loop_zero hf).elim
    | succ n1 ih1 =>
      intro x3 x4 x5 w H locs ls hf hH hl
      obtain ⟨z1, hf, hk1⟩ := am_loop_succ hf
      have hf : f_X12_bestOne_12b a1 a2 x3 x4 x5 w = some z1 := hf
      have P63 : ∀ (x3 : Int32) (x4 : Int32) (x5 : Int32) (w : am_S) (z1 : ((Int32 × am_S) ⊕ (Int32 × Int32 × Int32 × am_S))) (H : Heap) (locs : List Loc) (ls : Array Slot), f_X12_bestOne_63 a1 a2 x3 x4 x5 w = some z1 → am_lk (fun (st : (Int32 × Int32 × Int32 × am_S)) => f_X12_bestOne_12b a1 a2 st.1 st.2.1 st.2.2.1 st.2.2.2) n1 (rr, ww) z1 → am_H G w s H locs → lv_has ls 7 [(0, .ref (G.1 + 271)), (1, .int a1), (2, .int a2), (3, .int x3), (4, .int x4), (5, .int x5)] → W p l e { frames := 4, cells := 0, slots := 0, locals := 256 } s m [.ref (G.1 + 271), .int a1, .int a2].toArray below meth c H locs 0 0 (MQ below (va_Qi (fun (x : Int32) (u : am_S) => x = rr ∧ u = ww) (am_U G) (am_A G)) [.ref (G.1 + 271), .int a1, .int a2].toArray s 0 0 (am_A G)) (F0 m 63 ls []) := by
        intro x3 x4 x5 w z1 H locs ls hf hk1 hH hl
        unfold f_X12_bestOne_63 at hf
        obtain ⟨x5_18, hx5_18, hf⟩ := am_v_some hf
        refine lv_iinc (v := x5_18) (lv' := [(5, .int x5_18), (0, .ref (G.1 + 271)), (1, .int a1), (2, .int a2), (3, .int x3), (4, .int x4)]) hx hb dX12_bestOne_63 hl (k := 5) rfl (by rw [hx5_18]; rfl) (by decide) rfl (fun ls hl => ?_)
        refine lv_goto (tgt := 12) hx hb dX12_bestOne_66 (by decide) ?_
        obtain rfl := Option.some.inj hf
        exact ih1 x3 x4 x5_18 w H locs ls hk1 hH (lv_sub hl [1, 2, 3, 4, 5, 0] rfl)
      have P56 : ∀ (x5 : Int32) (x6 : Int32) (w : am_S) (z1 : ((Int32 × am_S) ⊕ (Int32 × Int32 × Int32 × am_S))) (H : Heap) (locs : List Loc) (ls : Array Slot), f_X12_bestOne_56 a1 a2 x5 x6 w = some z1 → am_lk (fun (st : (Int32 × Int32 × Int32 × am_S)) => f_X12_bestOne_12b a1 a2 st.1 st.2.1 st.2.2.1 st.2.2.2) n1 (rr, ww) z1 → am_H G w s H locs → lv_has ls 7 [(0, .ref (G.1 + 271)), (1, .int a1), (2, .int a2), (5, .int x5), (6, .int x6)] → W p l e { frames := 4, cells := 0, slots := 0, locals := 256 } s m [.ref (G.1 + 271), .int a1, .int a2].toArray below meth c H locs 0 0 (MQ below (va_Qi (fun (x : Int32) (u : am_S) => x = rr ∧ u = ww) (am_U G) (am_A G)) [.ref (G.1 + 271), .int a1, .int a2].toArray s 0 0 (am_A G)) (F0 m 56 ls []) := by
        intro x5 x6 w z1 H locs ls hf hk1 hH hl
        unfold f_X12_bestOne_56 at hf
        refine lv_iload hx hb dX12_bestOne_56 (lv_at hl 3 rfl) ?_
        refine lv_istore_n (lv' := [(3, .int x5), (0, .ref (G.1 + 271)), (1, .int a1), (2, .int a2), (5, .int x5), (6, .int x6)]) hx hb dX12_bestOne_58 rfl hl (by decide) rfl (fun ls hl => ?_)
        refine lv_iload hx hb dX12_bestOne_59 (lv_at hl 5 rfl) ?_
        refine lv_istore (lv' := [(4, .int x6), (3, .int x5), (0, .ref (G.1 + 271)), (1, .int a1), (2, .int a2), (5, .int x5), (6, .int x6)]) hx hb dX12_bestOne_61 hl (by decide) rfl (fun ls hl => ?_)
        exact P63 x5 x6 x5 w z1 H locs ls hf hk1 hH (lv_sub hl [2, 3, 4, 1, 0, 5] rfl)
      unfold f_X12_bestOne_12b at hf
      refine lv_iload hx hb dX12_bestOne_12 (lv_at hl 5 rfl) ?_
      refine lv_aload_n hx hb dX12_bestOne_14 rfl (lv_at hl 0 rfl) ?_
      refine am_get hx hb hts hK hown hH (am_o12 (p := 271) (by decide +kernel)) rfl am_inX12 13 (by decide) am_q1332 (v := .int (w.1 271 13)) rfl dX12_bestOne_15 ?_
      refine lv_icmp_ge (tgt := 69) hx hb dX12_bestOne_18 (by decide) (fun hc_19 => ?_) (fun hc_19 => ?_)
      · have hf := (if_pos hc_19).symm.trans hf
        obtain ⟨y_20, hf, hzy_20⟩ := am_x_some hf
        rw [hzy_20] at hk1
        have hf := hf.trans (congrArg some (show y_20 = (rr, ww) from hk1))
        refine lv_iload_n hx hb dX12_bestOne_69 rfl (lv_at hl 2 rfl) ?_
        refine lv_if_ne (tgt := 77) hx hb dX12_bestOne_70 (by decide) (fun hc_21 => ?_) (fun hc_21 => ?_)
        · have hf := (if_neg hc_21).symm.trans hf
          refine lv_iload hx hb dX12_bestOne_77 (lv_at hl 4 rfl) ?_
          exact P79 x4 w H locs ls hf hH (lv_sub hl [] rfl)
        · have hf := (if_pos hc_21).symm.trans hf
          refine lv_iload_n hx hb dX12_bestOne_73 rfl (lv_at hl 3 rfl) ?_
          refine lv_goto (tgt := 79) hx hb dX12_bestOne_74 (by decide) ?_
          exact P79 x3 w H locs ls hf hH (lv_sub hl [] rfl)
      · have hf := (if_neg hc_19).symm.trans hf
        refine lv_aload_n hx hb dX12_bestOne_21 rfl (lv_at hl 0 rfl) ?_
        refine lv_iload hx hb dX12_bestOne_22 (lv_at hl 5 rfl) ?_
        obtain ⟨r_24, w_22, hq_23, hf⟩ := am_b2_some hf
        refine am_calli (r := r_24) (w' := w_22) (am_runV (n := 1) (As := [.int x5]) (rest := []) ⟨hx, hb, hml, hown, hts⟩ hK hE hH (k_X12_isUnknown hq_23) (am_gV am_q1534 am_q1536 am_qs64 am_q13 am_q1537) (am_o12 (p := 271) (by decide +kernel)) rfl ⟨rfl, rfl⟩ (by decide +kernel) ⟨Nat.le_of_ble_eq_true rfl, Nat.le_of_ble_eq_true rfl⟩ rfl hl.1 rfl (Nat.le_of_ble_eq_true rfl) ⟨Nat.zero_le _, Nat.zero_le _⟩ dX12_bestOne_24) hH (fun H locs hH => ?_)
        refine lv_if_eq (tgt := 63) hx hb dX12_bestOne_27 (by decide) (fun hc_25 => ?_) (fun hc_25 => ?_)
        · have hf := (if_pos hc_25).symm.trans hf
          exact P63 x3 x4 x5 w_22 z1 H locs ls hf hk1 hH (lv_sub hl [0, 1, 2, 3, 4, 5] rfl)
        · have hf := (if_neg hc_25).symm.trans hf
          refine lv_aload_n hx hb dX12_bestOne_30 rfl (lv_at hl 0 rfl) ?_
          refine lv_iconst (v := 1) hx hb dX12_bestOne_31 (by decide) ?_
          refine lv_iload hx hb dX12_bestOne_32 (lv_at hl 5 rfl) ?_
          refine lv_ishl hx hb dX12_bestOne_34 ?_
          refine lv_iload_n hx hb dX12_bestOne_35 rfl (lv_at hl 1 rfl) ?_
          obtain ⟨r_28, w_26, hq_27, hf⟩ := am_b2_some hf
          refine am_calli (r := r_28) (w' := w_26) (am_runV (n := 2) (As := [.int ((1 : Int32) <<< (x5 &&& 31)), .int a1]) (rest := []) ⟨hx, hb, hml, hown, hts⟩ hK hE hH (k_X12_knownWith hq_27) (am_gV am_q1846 am_q1848 am_qs108 am_q13 am_q1849) (am_o12 (p := 271) (by decide +kernel)) rfl ⟨rfl, rfl⟩ (by decide +kernel) ⟨Nat.le_of_ble_eq_true rfl, Nat.le_of_ble_eq_true rfl⟩ rfl hl.1 rfl (Nat.le_of_ble_eq_true rfl) ⟨Nat.zero_le _, Nat.zero_le _⟩ dX12_bestOne_36) hH (fun H locs hH => ?_)
          obtain ⟨r_31, w_29, hq_30, hf⟩ := am_b2_some hf
          refine am_calli (r := r_31) (w' := w_29) (am_runS (n := 1) (As := [.int r_28]) (rest := []) ⟨hx, hb, hml, hown, hts⟩ hK hE hH (k_X12_bits hq_30) (am_gS am_q1629 am_q1630 am_q13 am_q1631) ⟨rfl, rfl⟩ (by decide +kernel) ⟨Nat.le_of_ble_eq_true rfl, Nat.le_of_ble_eq_true rfl⟩ rfl hl.1 rfl (Nat.le_of_ble_eq_true rfl) ⟨Nat.zero_le _, Nat.zero_le _⟩ dX12_bestOne_39) hH (fun H locs hH => ?_)
          refine lv_istore (lv' := [(6, .int r_31), (0, .ref (G.1 + 271)), (1, .int a1), (2, .int a2), (3, .int x3), (4, .int x4), (5, .int x5)]) hx hb dX12_bestOne_42 hl (by decide) rfl (fun ls hl => ?_)
          refine lv_iload_n hx hb dX12_bestOne_44 rfl (lv_at hl 4 rfl) ?_
          refine lv_iconst (v := -1) hx hb dX12_bestOne_45 (by decide) ?_
          refine lv_icmp_eq (tgt := 56) hx hb dX12_bestOne_46 (by decide) (fun hc_32 => ?_) (fun hc_32 => ?_)
          · have hf := (if_pos hc_32).symm.trans hf
            exact P56 x5 r_31 w_29 z1 H locs ls hf hk1 hH (lv_sub hl [1, 2, 3, 6, 0] rfl)
          · have hf := (if_neg hc_32).symm.trans hf
            refine lv_iload hx hb dX12_bestOne_49 (lv_at hl 0 rfl) ?_
            refine lv_iload hx hb dX12_bestOne_51 (lv_at hl 5 rfl) ?_
            refine lv_icmp_le (tgt := 63) hx hb dX12_bestOne_53 (by decide) (fun hc_33 => ?_) (fun hc_33 => ?_)
            · have hf := (if_pos hc_33).symm.trans hf
              exact P63 x3 x4 x5 w_29 z1 H locs ls hf hk1 hH (lv_sub hl [1, 2, 3, 4, 5, 6] rfl)
            · have hf := (if_neg hc_33).symm.trans hf
              exact P56 x5 r_31 w_29 z1 H locs ls hf hk1 hH (lv_sub hl [1, 2, 3, 6, 0] rfl)
  refine am_enter (lv := [(0, .ref (G.1 + 271)), (1, .int a1), (2, .int a2)]) (Nat.le_of_ble_eq_true rfl) rfl (fun ls hl => ?_)
  unfold f_X12_bestOne at hf
  refine am_start hH (fun H locs hH => ?_)
  refine lv_aload_n hx hb dX12_bestOne_0 rfl (lv_at hl 0 rfl) ?_
  obtain ⟨w_34, hq_35, hf⟩ := am_b1_some hf
  refine am_callv (w' := w_34) (am_runV (n := 0) (As := []) (rest := []) ⟨hx, hb, hml, hown, hts⟩ hK hE hH (k_X12_layOccupied hq_35) (am_gV am_q1794 am_q1796 am_qs101 am_q13 am_q1797) (am_o12 (p := 271) (by decide +kernel)) rfl ⟨rfl, rfl⟩ (by decide +kernel) ⟨Nat.le_of_ble_eq_true rfl, Nat.le_of_ble_eq_true rfl⟩ rfl hl.1 rfl (Nat.le_of_ble_eq_true rfl) ⟨Nat.zero_le _, Nat.zero_le _⟩ dX12_bestOne_1) hH (fun H locs hH => ?_)
  refine lv_iconst (v := -1) hx hb dX12_bestOne_4 (by decide) ?_
  refine lv_istore_n (lv' := [(3, .int (-1 : Int32)), (0, .ref (G.1 + 271)), (1, .int a1), (2, .int a2)]) hx hb dX12_bestOne_5 rfl hl (by decide) rfl (fun ls hl => ?_)
  refine lv_iconst (v := 0) hx hb dX12_bestOne_6 (by decide) ?_
  refine lv_istore (lv' := [(4, .int (0 : Int32)), (3, .int (-1 : Int32)), (0, .ref (G.1 + 271)), (1, .int a1), (2, .int a2)]) hx hb dX12_bestOne_7 hl (by decide) rfl (fun ls hl => ?_)
  refine lv_iconst (v := 0) hx hb dX12_bestOne_9 (by decide) ?_
  refine lv_istore (lv' := [(5, .int (0 : Int32)), (4, .int (0 : Int32)), (3, .int (-1 : Int32)), (0, .ref (G.1 + 271)), (1, .int a1), (2, .int a2)]) hx hb dX12_bestOne_10 hl (by decide) rfl (fun ls hl => ?_)
  exact P12 am_fuel (-1 : Int32) (0 : Int32) (0 : Int32) w_34 H locs ls hf hH (lv_sub hl [3, 4, 5, 2, 1, 0] rfl)

def f_X12_key_28 (a1 : Int32) (s0 : Int32) (w : am_S) : Option (Int32 × am_S) :=
  some (s0, w)
def f_X12_key_25 (a1 : Int32) (w : am_S) : Option (Int32 × am_S) :=
  f_X12_key_28 a1 (-1000000 : Int32) w
def f_X12_key (a1 : Int32) (w : am_S) : Option (Int32 × am_S) :=
  am_b2 (f_X12_isField w) fun r_14 w_12 => if r_14 = 0 then (f_X12_key_25 a1 w_12) else (am_b2 (f_X12_in a1 (0 : Int32) (1 : Int32) w_12) fun r_18 w_16 => if r_18 = 0 then (f_X12_key_25 a1 w_16) else (am_b2 (f_X12_bestOne (1 : Int32) a1 w_16) fun r_22 w_20 => f_X12_key_28 a1 r_22 w_20))
set_option maxRecDepth 100000 in
set_option maxHeartbeats 4000000 in
theorem k_X12_key {G : am_G} {l : Launch} {a1 : Int32}  {w : am_S} {rr : Int32} {ww : am_S} (hf : f_X12_key a1 w = some (rr, ww)) : am_Mi G l yX12_key (Cond.code yX12_key cX12_key 2 (some .int) :: am_T) { frames := 5, cells := 0, slots := 0, locals := 320 } [.ref (G.1 + 271), .int a1] w rr ww := by
  refine Met.ofW (cc := cX12_key) (maxL := 2) (ret := (some .int)) (by decide) rfl ?_
  intro p e s m args below meth c s₁ B hml hv
  obtain ⟨rfl, hx, hb, hr, hts, hown, hlocks, hK, hE, hH⟩ := am_begin B hv
  have hown : s.vm.findClass RX12 = some m.cls := hown
  show W p l e { frames := 5, cells := 0, slots := 0, locals := 320 } s m _ below meth c s.heap [] 0 0 _ _
  have P28 : ∀ (s0 : Int32) (w : am_S) (H : Heap) (locs : List Loc) (ls : Array Slot), f_X12_key_28 a1 s0 w = some (rr, ww) → am_H G w s H locs → lv_has ls 2 [] → W p l e { frames := 5, cells := 0, slots := 0, locals := 320 } s m [.ref (G.1 + 271), .int a1].toArray below meth c H locs 0 0 (MQ below (va_Qi (fun (x : Int32) (u : am_S) => x = rr ∧ u = ww) (am_U G) (am_A G)) [.ref (G.1 + 271), .int a1].toArray s 0 0 (am_A G)) (F0 m 28 ls [.int s0]) := by
    intro s0 w H locs ls hf hH hl
    unfold f_X12_key_28 at hf
    exact am_reti hx hb hr hlocks hH hf dX12_key_28
  have P25 : ∀ (w : am_S) (H : Heap) (locs : List Loc) (ls : Array Slot), f_X12_key_25 a1 w = some (rr, ww) → am_H G w s H locs → lv_has ls 2 [] → W p l e { frames := 5, cells := 0, slots := 0, locals := 320 } s m [.ref (G.1 + 271), .int a1].toArray below meth c H locs 0 0 (MQ below (va_Qi (fun (x : Int32) (u : am_S) => x = rr ∧ u = ww) (am_U G) (am_A G)) [.ref (G.1 + 271), .int a1].toArray s 0 0 (am_A G)) (F0 m 25 ls []) := by
    intro w H locs ls hf hH hl
    unfold f_X12_key_25 at hf
    refine lv_ldcw (v := -1000000) hx hb hown (hts _ am_q1723) dX12_key_25 ?_
    exact P28 (-1000000 : Int32) w H locs ls hf hH (lv_sub hl [] rfl)
  refine am_enter (lv := [(0, .ref (G.1 + 271)), (1, .int a1)]) (Nat.le_of_ble_eq_true rfl) rfl (fun ls hl => ?_)
  unfold f_X12_key at hf
  refine am_start hH (fun H locs hH => ?_)
  refine lv_aload_n hx hb dX12_key_0 rfl (lv_at hl 0 rfl) ?_
  obtain ⟨r_14, w_12, hq_13, hf⟩ := am_b2_some hf
  refine am_calli (r := r_14) (w' := w_12) (am_runV (n := 0) (As := []) (rest := []) ⟨hx, hb, hml, hown, hts⟩ hK hE hH (k_X12_isField hq_13) (am_gV am_q1514 am_q1516 am_qs59 am_q13 am_q1517) (am_o12 (p := 271) (by decide +kernel)) rfl ⟨rfl, rfl⟩ (by decide +kernel) ⟨Nat.le_of_ble_eq_true rfl, Nat.le_of_ble_eq_true rfl⟩ rfl hl.1 rfl (Nat.le_of_ble_eq_true rfl) ⟨Nat.zero_le _, Nat.zero_le _⟩ dX12_key_1) hH (fun H locs hH => ?_)
  refine lv_if_eq (tgt := 25) hx hb dX12_key_4 (by decide) (fun hc_15 => ?_) (fun hc_15 => ?_)
  · have hf := (if_pos hc_15).symm.trans hf
    exact P25 w_12 H locs ls hf hH (lv_sub hl [] rfl)
  · have hf := (if_neg hc_15).symm.trans hf
    refine lv_iload_n hx hb dX12_key_7 rfl (lv_at hl 1 rfl) ?_
    refine lv_iconst (v := 0) hx hb dX12_key_8 (by decide) ?_
    refine lv_iconst (v := 1) hx hb dX12_key_9 (by decide) ?_
    obtain ⟨r_18, w_16, hq_17, hf⟩ := am_b2_some hf
    refine am_calli (r := r_18) (w' := w_16) (am_runS (n := 3) (As := [.int a1, .int (0 : Int32), .int (1 : Int32)]) (rest := []) ⟨hx, hb, hml, hown, hts⟩ hK hE hH (k_X12_in hq_17) (am_gS am_q1425 am_q1426 am_q13 am_q1427) ⟨rfl, rfl⟩ (by decide +kernel) ⟨Nat.le_of_ble_eq_true rfl, Nat.le_of_ble_eq_true rfl⟩ rfl hl.1 rfl (Nat.le_of_ble_eq_true rfl) ⟨Nat.zero_le _, Nat.zero_le _⟩ dX12_key_10) hH (fun H locs hH => ?_)
    refine lv_if_eq (tgt := 25) hx hb dX12_key_13 (by decide) (fun hc_19 => ?_) (fun hc_19 => ?_)
    · have hf := (if_pos hc_19).symm.trans hf
      exact P25 w_16 H locs ls hf hH (lv_sub hl [] rfl)
    · have hf := (if_neg hc_19).symm.trans hf
      refine lv_aload_n hx hb dX12_key_16 rfl (lv_at hl 0 rfl) ?_
      refine lv_iconst (v := 1) hx hb dX12_key_17 (by decide) ?_
      refine lv_iload_n hx hb dX12_key_18 rfl (lv_at hl 1 rfl) ?_
      obtain ⟨r_22, w_20, hq_21, hf⟩ := am_b2_some hf
      refine am_calli (r := r_22) (w' := w_20) (am_runV (n := 2) (As := [.int (1 : Int32), .int a1]) (rest := []) ⟨hx, hb, hml, hown, hts⟩ hK hE hH (k_X12_bestOne hq_21) (am_gV am_q1882 am_q1884 am_qs111 am_q13 am_q1885) (am_o12 (p := 271) (by decide +kernel)) rfl ⟨rfl, rfl⟩ (by decide +kernel) ⟨Nat.le_of_ble_eq_true rfl, Nat.le_of_ble_eq_true rfl⟩ rfl hl.1 rfl (Nat.le_of_ble_eq_true rfl) ⟨Nat.zero_le _, Nat.zero_le _⟩ dX12_key_19) hH (fun H locs hH => ?_)
      refine lv_goto (tgt := 28) hx hb dX12_key_22 (by decide) ?_
      exact P28 r_22 w_20 H locs ls hf hH (lv_sub hl [] rfl)

def f_X12_less_28 (a1 : Int32) (s0 : Int32) (w : am_S) : Option (Int32 × am_S) :=
  some (s0, w)
def f_X12_less_25 (a1 : Int32) (w : am_S) : Option (Int32 × am_S) :=
  f_X12_less_28 a1 (-1000000 : Int32) w
def f_X12_less (a1 : Int32) (w : am_S) : Option (Int32 × am_S) :=
  am_b2 (f_X12_isField w) fun r_14 w_12 => if r_14 = 0 then (f_X12_less_25 a1 w_12) else (am_b2 (f_X12_in a1 (0 : Int32) (1 : Int32) w_12) fun r_18 w_16 => if r_18 = 0 then (f_X12_less_25 a1 w_16) else (am_b2 (f_X12_bestOne (0 : Int32) a1 w_16) fun r_22 w_20 => f_X12_less_28 a1 r_22 w_20))
set_option maxRecDepth 100000 in
set_option maxHeartbeats 4000000 in
theorem k_X12_less {G : am_G} {l : Launch} {a1 : Int32}  {w : am_S} {rr : Int32} {ww : am_S} (hf : f_X12_less a1 w = some (rr, ww)) : am_Mi G l yX12_less (Cond.code yX12_less cX12_less 2 (some .int) :: am_T) { frames := 5, cells := 0, slots := 0, locals := 320 } [.ref (G.1 + 271), .int a1] w rr ww := by
  refine Met.ofW (cc := cX12_less) (maxL := 2) (ret := (some .int)) (by decide) rfl ?_
  intro p e s m args below meth c s₁ B hml hv
  obtain ⟨rfl, hx, hb, hr, hts, hown, hlocks, hK, hE, hH⟩ := am_begin B hv
  have hown : s.vm.findClass RX12 = some m.cls := hown
  show W p l e { frames := 5, cells := 0, slots := 0, locals := 320 } s m _ below meth c s.heap [] 0 0 _ _
  have P28 : ∀ (s0 : Int32) (w : am_S) (H : Heap) (locs : List Loc) (ls : Array Slot), f_X12_less_28 a1 s0 w = some (rr, ww) → am_H G w s H locs → lv_has ls 2 [] → W p l e { frames := 5, cells := 0, slots := 0, locals := 320 } s m [.ref (G.1 + 271), .int a1].toArray below meth c H locs 0 0 (MQ below (va_Qi (fun (x : Int32) (u : am_S) => x = rr ∧ u = ww) (am_U G) (am_A G)) [.ref (G.1 + 271), .int a1].toArray s 0 0 (am_A G)) (F0 m 28 ls [.int s0]) := by
    intro s0 w H locs ls hf hH hl
    unfold f_X12_less_28 at hf
    exact am_reti hx hb hr hlocks hH hf dX12_less_28
  have P25 : ∀ (w : am_S) (H : Heap) (locs : List Loc) (ls : Array Slot), f_X12_less_25 a1 w = some (rr, ww) → am_H G w s H locs → lv_has ls 2 [] → W p l e { frames := 5, cells := 0, slots := 0, locals := 320 } s m [.ref (G.1 + 271), .int a1].toArray below meth c H locs 0 0 (MQ below (va_Qi (fun (x : Int32) (u : am_S) => x = rr ∧ u = ww) (am_U G) (am_A G)) [.ref (G.1 + 271), .int a1].toArray s 0 0 (am_A G)) (F0 m 25 ls []) := by
    intro w H locs ls hf hH hl
    unfold f_X12_less_25 at hf
    refine lv_ldcw (v := -1000000) hx hb hown (hts _ am_q1723) dX12_less_25 ?_
    exact P28 (-1000000 : Int32) w H locs ls hf hH (lv_sub hl [] rfl)
  refine am_enter (lv := [(0, .ref (G.1 + 271)), (1, .int a1)]) (Nat.le_of_ble_eq_true rfl) rfl (fun ls hl => ?_)
  unfold f_X12_less at hf
  refine am_start hH (fun H locs hH => ?_)
  refine lv_aload_n hx hb dX12_less_0 rfl (lv_at hl 0 rfl) ?_
  obtain ⟨r_14, w_12, hq_13, hf⟩ := am_b2_some hf
  refine am_calli (r := r_14) (w' := w_12) (am_runV (n := 0) (As := []) (rest := []) ⟨hx, hb, hml, hown, hts⟩ hK hE hH (k_X12_isField hq_13) (am_gV am_q1514 am_q1516 am_qs59 am_q13 am_q1517) (am_o12 (p := 271) (by decide +kernel)) rfl ⟨rfl, rfl⟩ (by decide +kernel) ⟨Nat.le_of_ble_eq_true rfl, Nat.le_of_ble_eq_true rfl⟩ rfl hl.1 rfl (Nat.le_of_ble_eq_true rfl) ⟨Nat.zero_le _, Nat.zero_le _⟩ dX12_less_1) hH (fun H locs hH => ?_)
  refine lv_if_eq (tgt := 25) hx hb dX12_less_4 (by decide) (fun hc_15 => ?_) (fun hc_15 => ?_)
  · have hf := (if_pos hc_15).symm.trans hf
    exact P25 w_12 H locs ls hf hH (lv_sub hl [] rfl)
  · have hf := (if_neg hc_15).symm.trans hf
    refine lv_iload_n hx hb dX12_less_7 rfl (lv_at hl 1 rfl) ?_
    refine lv_iconst (v := 0) hx hb dX12_less_8 (by decide) ?_
    refine lv_iconst (v := 1) hx hb dX12_less_9 (by decide) ?_
    obtain ⟨r_18, w_16, hq_17, hf⟩ := am_b2_some hf
    refine am_calli (r := r_18) (w' := w_16) (am_runS (n := 3) (As := [.int a1, .int (0 : Int32), .int (1 : Int32)]) (rest := []) ⟨hx, hb, hml, hown, hts⟩ hK hE hH (k_X12_in hq_17) (am_gS am_q1425 am_q1426 am_q13 am_q1427) ⟨rfl, rfl⟩ (by decide +kernel) ⟨Nat.le_of_ble_eq_true rfl, Nat.le_of_ble_eq_true rfl⟩ rfl hl.1 rfl (Nat.le_of_ble_eq_true rfl) ⟨Nat.zero_le _, Nat.zero_le _⟩ dX12_less_10) hH (fun H locs hH => ?_)
    refine lv_if_eq (tgt := 25) hx hb dX12_less_13 (by decide) (fun hc_19 => ?_) (fun hc_19 => ?_)
    · have hf := (if_pos hc_19).symm.trans hf
      exact P25 w_16 H locs ls hf hH (lv_sub hl [] rfl)
    · have hf := (if_neg hc_19).symm.trans hf
      refine lv_aload_n hx hb dX12_less_16 rfl (lv_at hl 0 rfl) ?_
      refine lv_iconst (v := 0) hx hb dX12_less_17 (by decide) ?_
      refine lv_iload_n hx hb dX12_less_18 rfl (lv_at hl 1 rfl) ?_
      obtain ⟨r_22, w_20, hq_21, hf⟩ := am_b2_some hf
      refine am_calli (r := r_22) (w' := w_20) (am_runV (n := 2) (As := [.int (0 : Int32), .int a1]) (rest := []) ⟨hx, hb, hml, hown, hts⟩ hK hE hH (k_X12_bestOne hq_21) (am_gV am_q1882 am_q1884 am_qs111 am_q13 am_q1885) (am_o12 (p := 271) (by decide +kernel)) rfl ⟨rfl, rfl⟩ (by decide +kernel) ⟨Nat.le_of_ble_eq_true rfl, Nat.le_of_ble_eq_true rfl⟩ rfl hl.1 rfl (Nat.le_of_ble_eq_true rfl) ⟨Nat.zero_le _, Nat.zero_le _⟩ dX12_less_19) hH (fun H locs hH => ?_)
      refine lv_goto (tgt := 28) hx hb dX12_less_22 (by decide) ?_
      exact P28 r_22 w_20 H locs ls hf hH (lv_sub hl [] rfl)

def f_X12_timesOfAll_4b  (x1 : Int32) (x2 : Int32) (w : am_S) : Option ((Int32 × am_S) ⊕ (Int32 × Int32 × am_S)) :=
  if (6 : Int32) < x2 then (am_x (some (x1, w))) else (am_chk x2 7 (am_v (x1 + (x2 * (w.1 278 x2.toNatClampNeg))) fun (x1_8 : Int32) => am_v (x2 + (1 : Int32)) fun (x2_9 : Int32) => some (.inr (x1_8, x2_9, w))))
def f_X12_timesOfAll_4  (x1 : Int32) (x2 : Int32) (w : am_S) : Option (Int32 × am_S) :=
  am_loop (fun (st : (Int32 × Int32 × am_S)) => f_X12_timesOfAll_4b st.1 st.2.1 st.2.2) am_fuel (x1, x2, w)
def f_X12_timesOfAll  (w : am_S) : Option (Int32 × am_S) :=
  f_X12_timesOfAll_4 (0 : Int32) (1 : Int32) w
set_option maxRecDepth 100000 in
set_option maxHeartbeats 4000000 in
theorem k_X12_timesOfAll {G : am_G} {l : Launch}   {w : am_S} {rr : Int32} {ww : am_S} (hf : f_X12_timesOfAll  w = some (rr, ww)) : am_Mi G l yX12_timesOfAll (Cond.code yX12_timesOfAll cX12_timesOfAll 3 (some .int) :: am_T) { frames := 0, cells := 0, slots := 0, locals := 0 } [.ref (G.1 + 271)] w rr ww := by
  refine Met.ofW (cc := cX12_timesOfAll) (maxL := 3) (ret := (some .int)) (by decide) rfl ?_
  intro p e s m args below meth c s₁ B hml hv
  obtain ⟨rfl, hx, hb, hr, hts, hown, hlocks, hK, hE, hH⟩ := am_begin B hv
  have hown : s.vm.findClass RX12 = some m.cls := hown
  show W p l e { frames := 0, cells := 0, slots := 0, locals := 0 } s m _ below meth c s.heap [] 0 0 _ _
  have P4 : ∀ (n1 : Nat) (x1 : Int32) (x2 : Int32) (w : am_S) (H : Heap) (locs : List Loc) (ls : Array Slot), am_loop (fun (st : (Int32 × Int32 × am_S)) => f_X12_timesOfAll_4b st.1 st.2.1 st.2.2) n1 (x1, x2, w) = some (rr, ww) → am_H G w s H locs → lv_has ls 3 [(0, .ref (G.1 + 271)), (1, .int x1), (2, .int x2)] → W p l e { frames := 0, cells := 0, slots := 0, locals := 0 } s m [.ref (G.1 + 271)].toArray below meth c H locs 0 0 (MQ below (va_Qi (fun (x : Int32) (u : am_S) => x = rr ∧ u = ww) (am_U G) (am_A G)) [.ref (G.1 + 271)].toArray s 0 0 (am_A G)) (F0 m 4 ls []) := by
    intro n1
    induction n1 with
    | zero =>
      intro x1 x2 w H locs ls hf hH hl
      exact (am_loop_zero hf).elim
    | succ n1 ih1 =>
      intro x1 x2 w H locs ls hf hH hl
      obtain ⟨z1, hf, hk1⟩ := am_loop_succ hf
      have hf : f_X12_timesOfAll_4b x1 x2 w = some z1 := hf
      unfold f_X12_timesOfAll_4b at hf
      refine lv_iload_n hx hb dX12_timesOfAll_4 rfl (lv_at hl 2 rfl) ?_
      refine lv_bipush (v := 6) hx hb dX12_timesOfAll_5 (by decide) ?_
      refine lv_icmp_gt (tgt := 27) hx hb dX12_timesOfAll_7 (by decide) (fun hc_5 => ?_) (fun hc_5 => ?_)
      · have hf := (if_pos hc_5).symm.trans hf
        obtain ⟨y_6, hf, hzy_6⟩ := am_x_some hf
        rw [hzy_6] at hk1
        have hf := hf.trans (congrArg some (show y_6 = (rr, ww) from hk1))
        refine lv_iload_n hx hb dX12_timesOfAll_27 rfl (lv_at hl 1 rfl) ?_
        exact am_reti hx hb hr hlocks hH hf dX12_timesOfAll_28
      · have hf := (if_neg hc_5).symm.trans hf
        refine lv_iload_n hx hb dX12_timesOfAll_10 rfl (lv_at hl 1 rfl) ?_
        refine lv_iload_n hx hb dX12_timesOfAll_11 rfl (lv_at hl 2 rfl) ?_
        refine lv_aload_n hx hb dX12_timesOfAll_12 rfl (lv_at hl 0 rfl) ?_
        refine am_get hx hb hts hK hown hH (am_o12 (p := 271) (by decide +kernel)) rfl am_inX12 12 (by decide) am_q1331 (v := .ref (G.1 + 278)) rfl dX12_timesOfAll_13 ?_
        refine lv_iload_n hx hb dX12_timesOfAll_16 rfl (lv_at hl 2 rfl) ?_
        obtain ⟨hi_7, hf⟩ := am_chk_some hf
        refine am_iald hx hb hK hH (am_ai_of (N := 7) (by decide +kernel)) hi_7 dX12_timesOfAll_17 ?_
        refine lv_imul hx hb dX12_timesOfAll_18 ?_
        refine lv_iadd hx hb dX12_timesOfAll_19 ?_
        obtain ⟨x1_8, hx1_8, hf⟩ := am_v_some hf
        refine am_topi hx1_8 ?_
        refine lv_istore_n (lv' := [(1, .int x1_8), (0, .ref (G.1 + 271)), (2, .int x2)]) hx hb dX12_timesOfAll_20 rfl hl (by decide) rfl (fun ls hl => ?_)
        obtain ⟨x2_9, hx2_9, hf⟩ := am_v_some hf
        refine lv_iinc (v := x2_9) (lv' := [(2, .int x2_9), (1, .int x1_8), (0, .ref (G.1 + 271))]) hx hb dX12_timesOfAll_21 hl (k := 2) rfl (by rw [hx2_9]; rfl) (by decide) rfl (fun ls hl => ?_)
        refine lv_goto (tgt := 4) hx hb dX12_timesOfAll_24 (by decide) ?_
        obtain rfl := Option.some.inj hf
        exact ih1 x1_8 x2_9 w H locs ls hk1 hH (lv_sub hl [2, 1, 0] rfl)
  refine am_enter (lv := [(0, .ref (G.1 + 271))]) (Nat.le_of_ble_eq_true rfl) rfl (fun ls hl => ?_)
  unfold f_X12_timesOfAll at hf
  refine am_start hH (fun H locs hH => ?_)
  refine lv_iconst (v := 0) hx hb dX12_timesOfAll_0 (by decide) ?_
  refine lv_istore_n (lv' := [(1, .int (0 : Int32)), (0, .ref (G.1 + 271))]) hx hb dX12_timesOfAll_1 rfl hl (by decide) rfl (fun ls hl => ?_)
  refine lv_iconst (v := 1) hx hb dX12_timesOfAll_2 (by decide) ?_
  refine lv_istore_n (lv' := [(2, .int (1 : Int32)), (1, .int (0 : Int32)), (0, .ref (G.1 + 271))]) hx hb dX12_timesOfAll_3 rfl hl (by decide) rfl (fun ls hl => ?_)
  exact P4 am_fuel (0 : Int32) (1 : Int32) w H locs ls hf hH (lv_sub hl [2, 1, 0] rfl)



def f_X12_shareOf_148 (a1 : Int32) (a2 : Int32) (x5 : UInt64) (x9 : Int32) (x14 : UInt64) (x18 : Int32) (s0 : UInt64) (w : am_S) : Option (((UInt64 × am_S) ⊕ (UInt64 × Int32 × am_S)) ⊕ (UInt64 × Int32 × am_S)) :=
  am_v (x18 + (1 : Int32)) fun (x18_44 : Int32) => some (.inr (s0, x18_44, w))
def f_X12_shareOf_108b (a1 : Int32) (a2 : Int32) (x5 : UInt64) (x9 : Int32) (x14 : UInt64) (x16 : UInt64) (x18 : Int32) (x19 : UInt64) (x21 : Int32) (w : am_S) : Option ((((UInt64 × am_S) ⊕ (UInt64 × Int32 × am_S)) ⊕ (UInt64 × Int32 × am_S)) ⊕ (UInt64 × Int32 × am_S)) :=
  if x18 ≤ x21 then (am_x (am_chk x18 7 (if (w.1 278 x18.toNatClampNeg) ≤ 0 then (f_X12_shareOf_148 a1 a2 x5 x9 x14 x18 x16 w) else (am_n64 (FP.dadd x16 x19) (f_X12_shareOf_148 a1 a2 x5 x9 x14 x18 (FP.dadd x16 x19) w))))) else (am_n64 (FP.dmul x19 x14) (am_v (FP.dmul x19 x14) fun (x19_51 : UInt64) => am_v (x21 + (1 : Int32)) fun (x21_52 : Int32) => some (.inr (x19_51, x21_52, w))))
def f_X12_shareOf_108 (a1 : Int32) (a2 : Int32) (x5 : UInt64) (x9 : Int32) (x14 : UInt64) (x16 : UInt64) (x18 : Int32) (x19 : UInt64) (x21 : Int32) (w : am_S) : Option (((UInt64 × am_S) ⊕ (UInt64 × Int32 × am_S)) ⊕ (UInt64 × Int32 × am_S)) :=
  am_loop (fun (st : (UInt64 × Int32 × am_S)) => f_X12_shareOf_108b a1 a2 x5 x9 x14 x16 x18 st.1 st.2.1 st.2.2) am_fuel (x19, x21, w)
def f_X12_shareOf_85b (a1 : Int32) (a2 : Int32) (x5 : UInt64) (x9 : Int32) (x14 : UInt64) (x16 : UInt64) (x18 : Int32) (w : am_S) : Option (((UInt64 × am_S) ⊕ (UInt64 × Int32 × am_S)) ⊕ (UInt64 × Int32 × am_S)) :=
  if (6 : Int32) < x18 then (am_x (am_b2 (f_X12_timesOfAll w) fun r_57 w_55 => am_n64 (FP.ddiv x16 (FP.i2d r_57)) (am_v (FP.ddiv x16 (FP.i2d r_57)) fun (x7_59 : UInt64) => am_v (x9 + (1 : Int32)) fun (x9_60 : Int32) => some (.inr (x7_59, x9_60, w_55))))) else (am_chk x18 7 (am_v (FP.i2d (x18 * (w.1 278 x18.toNatClampNeg))) fun (x19_62 : UInt64) => f_X12_shareOf_108 a1 a2 x5 x9 x14 x16 x18 x19_62 (1 : Int32) w))
def f_X12_shareOf_85 (a1 : Int32) (a2 : Int32) (x5 : UInt64) (x9 : Int32) (x14 : UInt64) (x16 : UInt64) (x18 : Int32) (w : am_S) : Option ((UInt64 × am_S) ⊕ (UInt64 × Int32 × am_S)) :=
  am_loop (fun (st : (UInt64 × Int32 × am_S)) => f_X12_shareOf_85b a1 a2 x5 x9 x14 st.1 st.2.1 st.2.2) am_fuel (x16, x18, w)
def f_X12_shareOf_54b (a1 : Int32) (a2 : Int32) (x5 : UInt64) (x9 : Int32) (x10 : UInt64) (x12 : UInt64) (x14 : Int32) (w : am_S) : Option (((UInt64 × am_S) ⊕ (UInt64 × Int32 × am_S)) ⊕ (UInt64 × Int32 × am_S)) :=
  if a1 ≤ x14 then (am_x (am_n64 (FP.dsub (FP.dconst1) x12) (am_v (FP.dsub (FP.dconst1) x12) fun (x14_66 : UInt64) => am_v (FP.dconst0) fun (x16_67 : UInt64) => f_X12_shareOf_85 a1 a2 x5 x9 x14_66 x16_67 (1 : Int32) w))) else (am_n64 (FP.dmul x12 x10) (am_v (FP.dmul x12 x10) fun (x12_69 : UInt64) => am_v (x14 + (1 : Int32)) fun (x14_70 : Int32) => some (.inr (x12_69, x14_70, w))))
def f_X12_shareOf_54 (a1 : Int32) (a2 : Int32) (x5 : UInt64) (x9 : Int32) (x10 : UInt64) (x12 : UInt64) (x14 : Int32) (w : am_S) : Option ((UInt64 × am_S) ⊕ (UInt64 × Int32 × am_S)) :=
  am_loop (fun (st : (UInt64 × Int32 × am_S)) => f_X12_shareOf_54b a1 a2 x5 x9 x10 st.1 st.2.1 st.2.2) am_fuel (x12, x14, w)
def f_X12_shareOf_33b (a1 : Int32) (a2 : Int32) (x5 : UInt64) (x7 : UInt64) (x9 : Int32) (w : am_S) : Option ((UInt64 × am_S) ⊕ (UInt64 × Int32 × am_S)) :=
  if a2 ≤ x9 then (am_x (some (x7, w))) else (am_n64 (FP.dmul x5 x7) (am_n64 (FP.dsub (FP.dconst1) (FP.dmul x5 x7)) (am_v (FP.dsub (FP.dconst1) (FP.dmul x5 x7)) fun (x10_75 : UInt64) => am_v (FP.dconst1) fun (x12_76 : UInt64) => f_X12_shareOf_54 a1 a2 x5 x9 x10_75 x12_76 (1 : Int32) w)))
def f_X12_shareOf_33 (a1 : Int32) (a2 : Int32) (x5 : UInt64) (x7 : UInt64) (x9 : Int32) (w : am_S) : Option (UInt64 × am_S) :=
  am_loop (fun (st : (UInt64 × Int32 × am_S)) => f_X12_shareOf_33b a1 a2 x5 st.1 st.2.1 st.2.2) am_fuel (x7, x9, w)
def f_X12_shareOf (a1 : Int32) (a2 : Int32) (w : am_S) : Option (UInt64 × am_S) :=
  am_b2 (f_X12_timesOfAll w) fun r_79 w_77 => am_b2 (f_X12_degreesOfAll w_77) fun r_82 w_80 => am_n64 (FP.ddiv (FP.i2d r_79) (FP.i2d r_82)) (am_v (FP.ddiv (FP.i2d r_79) (FP.i2d r_82)) fun (x3_84 : UInt64) => am_chk (0 : Int32) 4 (am_n64 (FP.ddiv x3_84 (FP.i2d (w_80.1 276 (0 : Int32).toNatClampNeg))) (am_b2 (f_J9_min_eb370 (FP.dconst1) (FP.ddiv x3_84 (FP.i2d (w_80.1 276 (0 : Int32).toNatClampNeg))) w_80) fun r_89 w_87 => am_v (FP.dconst1) fun (x7_90 : UInt64) => f_X12_shareOf_33 a1 a2 r_89 x7_90 (0 : Int32) w_87)))
set_option maxRecDepth 100000 in
set_option maxHeartbeats 4000000 in
theorem k_X12_shareOf {G : am_G} {l : Launch} {a1 : Int32} {a2 : Int32}  {w : am_S} {rr : UInt64} {ww : am_S} (hf : f_X12_shareOf a1 a2 w = some (rr, ww)) : am_Md G l yX12_shareOf (Cond.code yX12_shareOf cX12_shareOf 22 (some .double) :: am_T) { frames := 2, cells := 0, slots := 0, locals := 128 } [.ref (G.1 + 271), .int a1, .int a2] w rr ww := by
  refine Met.ofW (cc := cX12_shareOf) (maxL := 22) (ret := (some .double)) (by decide) rfl ?_
  intro p e s m args below meth c s₁ B hml hv
  obtain ⟨rfl, hx, hb, hr, hts, hown, hlocks, hK, hE, hH⟩ := am_begin B hv
  have hown : s.vm.findClass RX12 = some m.cls := hown
  show W p l e { frames := 2, cells := 0, slots := 0, locals := 128 } s m _ below meth c s.heap [] 0 0 _ _
  have P33 : ∀ (x5 : UInt64) (n1 : Nat) (x7 : UInt64) (x9 : Int32) (w : am_S) (H : Heap) (locs : List Loc) (ls : Array Slot), am_loop (fun (st : (UInt64 × Int32 × am_S)) => f_X12_shareOf_33b a1 a2 x5 st.1 st.2.1 st.2.2) n1 (x7, x9, w) = some (rr, ww) → am_H G w s H locs → lv_has ls 22 [(0, .ref (G.1 + 271)), (1, .int a1), (2, .int a2), (5, .double x5), (7, .double x7), (9, .int x9)] → W p l e { frames := 2, cells := 0, slots := 0, locals := 128 } s m [.ref (G.1 + 271), .int a1, .int a2].toArray below meth c H locs 0 0 (MQ below (va_Qd (fun (x : UInt64) (u : am_S) => x = rr ∧ u = ww) (am_U G) (am_A G)) [.ref (G.1 + 271), .int a1, .int a2].toArray s 0 0 (am_A G)) (F0 m 33 ls []) := by
    intro x5 n1
    induction n1 with
    | zero =>
      intro x7 x9 w H locs ls hf hH hl
      exact (am_loop_zero hf).elim
    | succ n1 ih1 =>
      intro x7 x9 w H locs ls hf hH hl
      obtain ⟨z1, hf, hk1⟩ := am_loop_succ hf
      have hf : f_X12_shareOf_33b a1 a2 x5 x7 x9 w = some z1 := hf
      have P85 : ∀ (x9 : Int32) (x14 : UInt64) (n2 : Nat) (x16 : UInt64) (x18 : Int32) (w : am_S) (z1 : ((UInt64 × am_S) ⊕ (UInt64 × Int32 × am_S))) (H : Heap) (locs : List Loc) (ls : Array Slot), am_loop (fun (st : (UInt64 × Int32 × am_S)) => f_X12_shareOf_85b a1 a2 x5 x9 x14 st.1 st.2.1 st.2.2) n2 (x16, x18, w) = some z1 → am_lk (fun (st : (UInt64 × Int32 × am_S)) => f_X12_shareOf_33b a1 a2 x5 st.1 st.2.1 st.2.2) n1 (rr, ww) z1 → am_H G w s H locs → lv_has ls 22 [(0, .ref (G.1 + 271)), (1, .int a1), (2, .int a2), (5, .double x5), (9, .int x9), (14, .double x14), (16, .double x16), (18, .int x18)] → W p l e { frames := 2, cells := 0, slots := 0, locals := 128 } s m [.ref (G.1 + 271), .int a1, .int a2].toArray below meth c H locs 0 0 (MQ below (va_Qd (fun (x : UInt64) (u : am_S) => x = rr ∧ u = ww) (am_U G) (am_A G)) [.ref (G.1 + 271), .int a1, .int a2].toArray s 0 0 (am_A G)) (F0 m 85 ls []) := by
        intro x9 x14 n2
        induction n2 with
        | zero =>
          intro x16 x18 w z1 H locs ls hf hk1 hH hl
          exact (am_loop_zero hf).elim
        | succ n2 ih2 =>
          intro x16 x18 w z1 H locs ls hf hk1 hH hl
          obtain ⟨z2, hf, hk2⟩ := am_loop_succ hf
          have hf : f_X12_shareOf_85b a1 a2 x5 x9 x14 x16 x18 w = some z2 := hf
          have P148 : ∀ (x18 : Int32) (s0 : UInt64) (w : am_S) (z2 : (((UInt64 × am_S) ⊕ (UInt64 × Int32 × am_S)) ⊕ (UInt64 × Int32 × am_S))) (H : Heap) (locs : List Loc) (ls : Array Slot), f_X12_shareOf_148 a1 a2 x5 x9 x14 x18 s0 w = some z2 → am_lk (fun (st : (UInt64 × Int32 × am_S)) => f_X12_shareOf_85b a1 a2 x5 x9 x14 st.1 st.2.1 st.2.2) n2 z1 z2 → am_H G w s H locs → lv_has ls 22 [(0, .ref (G.1 + 271)), (1, .int a1), (2, .int a2), (5, .double x5), (9, .int x9), (14, .double x14), (18, .int x18)] → W p l e { frames := 2, cells := 0, slots := 0, locals := 128 } s m [.ref (G.1 + 271), .int a1, .int a2].toArray below meth c H locs 0 0 (MQ below (va_Qd (fun (x : UInt64) (u : am_S) => x = rr ∧ u = ww) (am_U G) (am_A G)) [.ref (G.1 + 271), .int a1, .int a2].toArray s 0 0 (am_A G)) (F0 m 148 ls [.double s0]) := by
            intro x18 s0 w z2 H locs ls hf hk2 hH hl
            unfold f_X12_shareOf_148 at hf
            refine lv_dstore (lv' := [(16, .double s0), (0, .ref (G.1 + 271)), (1, .int a1), (2, .int a2), (5, .double x5), (9, .int x9), (14, .double x14), (18, .int x18)]) hx hb dX12_shareOf_148 hl (by decide) rfl (fun ls hl => ?_)
            obtain ⟨x18_44, hx18_44, hf⟩ := am_v_some hf
            refine lv_iinc (v := x18_44) (lv' := [(18, .int x18_44), (16, .double s0), (0, .ref (G.1 + 271)), (1, .int a1), (2, .int a2), (5, .double x5), (9, .int x9), (14, .double x14)]) hx hb dX12_shareOf_150 hl (k := 7) rfl (by rw [hx18_44]; rfl) (by decide) rfl (fun ls hl => ?_)
            refine lv_goto (tgt := 85) hx hb dX12_shareOf_153 (by decide) ?_
            obtain rfl := Option.some.inj hf
            exact ih2 s0 x18_44 w z1 H locs ls hk2 hk1 hH (lv_sub hl [2, 3, 4, 5, 6, 7, 1, 0] rfl)
          have P108 : ∀ (x16 : UInt64) (x18 : Int32) (n3 : Nat) (x19 : UInt64) (x21 : Int32) (w : am_S) (z2 : (((UInt64 × am_S) ⊕ (UInt64 × Int32 × am_S)) ⊕ (UInt64 × Int32 × am_S))) (H : Heap) (locs : List Loc) (ls : Array Slot), am_loop (fun (st : (UInt64 × Int32 × am_S)) => f_X12_shareOf_108b a1 a2 x5 x9 x14 x16 x18 st.1 st.2.1 st.2.2) n3 (x19, x21, w) = some z2 → am_lk (fun (st : (UInt64 × Int32 × am_S)) => f_X12_shareOf_85b a1 a2 x5 x9 x14 st.1 st.2.1 st.2.2) n2 z1 z2 → am_H G w s H locs → lv_has ls 22 [(0, .ref (G.1 + 271)), (1, .int a1), (2, .int a2), (5, .double x5), (9, .int x9), (14, .double x14), (16, .double x16), (18, .int x18), (19, .double x19), (21, .int x21)] → W p l e { frames := 2, cells := 0, slots := 0, locals := 128 } s m [.ref (G.1 + 271), .int a1, .int a2].toArray below meth c H locs 0 0 (MQ below (va_Qd (fun (x : UInt64) (u : am_S) => x = rr ∧ u = ww) (am_U G) (am_A G)) [.ref (G.1 + 271), .int a1, .int a2].toArray s 0 0 (am_A G)) (F0 m 108 ls []) := by
            intro x16 x18 n3
            induction n3 with
            | zero =>
              intro x19 x21 w z2 H locs ls hf hk2 hH hl
              exact (am_loop_zero hf).elim
            | succ n3 ih3 =>
              intro x19 x21 w z2 H locs ls hf hk2 hH hl
              obtain ⟨z3, hf, hk3⟩ := am_loop_succ hf
              have hf : f_X12_shareOf_108b a1 a2 x5 x9 x14 x16 x18 x19 x21 w = some z3 := hf
              unfold f_X12_shareOf_108b at hf
              refine lv_iload hx hb dX12_shareOf_108 (lv_at hl 9 rfl) ?_
              refine lv_iload hx hb dX12_shareOf_110 (lv_at hl 7 rfl) ?_
              refine lv_icmp_ge (tgt := 128) hx hb dX12_shareOf_112 (by decide) (fun hc_45 => ?_) (fun hc_45 => ?_)
              · have hf := (if_pos hc_45).symm.trans hf
                obtain ⟨y_46, hf, hzy_46⟩ := am_x_some hf
                rw [hzy_46] at hk3
                have hf := hf.trans (congrArg some (show y_46 = z2 from hk3))
                refine lv_aload_n hx hb dX12_shareOf_128 rfl (lv_at hl 0 rfl) ?_
                refine am_get hx hb hts hK hown hH (am_o12 (p := 271) (by decide +kernel)) rfl am_inX12 12 (by decide) am_q1331 (v := .ref (G.1 + 278)) rfl dX12_shareOf_129 ?_
                refine lv_iload hx hb dX12_shareOf_132 (lv_at hl 7 rfl) ?_
                obtain ⟨hi_47, hf⟩ := am_chk_some hf
                refine am_iald hx hb hK hH (am_ai_of (N := 7) (by decide +kernel)) hi_47 dX12_shareOf_134 ?_
                refine lv_if_le (tgt := 146) hx hb dX12_shareOf_135 (by decide) (fun hc_48 => ?_) (fun hc_48 => ?_)
                · have hf := (if_pos hc_48).symm.trans hf
                  refine lv_dload hx hb dX12_shareOf_146 (lv_at hl 6 rfl) ?_
                  exact P148 x18 x16 w z2 H locs ls hf hk2 hH (lv_sub hl [0, 1, 2, 3, 4, 5, 7] rfl)
                · have hf := (if_neg hc_48).symm.trans hf
                  refine lv_dload hx hb dX12_shareOf_138 (lv_at hl 6 rfl) ?_
                  refine lv_dload hx hb dX12_shareOf_140 (lv_at hl 8 rfl) ?_
                  obtain ⟨hn_49, hf⟩ := am_n64_some hf
                  refine lv_dadd hx hb dX12_shareOf_142 hn_49 ?_
                  refine lv_goto (tgt := 148) hx hb dX12_shareOf_143 (by decide) ?_
                  exact P148 x18 (FP.dadd x16 x19) w z2 H locs ls hf hk2 hH (lv_sub hl [0, 1, 2, 3, 4, 5, 7] rfl)
              · have hf := (if_neg hc_45).symm.trans hf
                refine lv_dload hx hb dX12_shareOf_115 (lv_at hl 8 rfl) ?_
                refine lv_dload hx hb dX12_shareOf_117 (lv_at hl 5 rfl) ?_
                obtain ⟨hn_50, hf⟩ := am_n64_some hf
                refine lv_dmul hx hb dX12_shareOf_119 hn_50 ?_
                obtain ⟨x19_51, hx19_51, hf⟩ := am_v_some hf
                refine am_topd hx19_51 ?_
                refine lv_dstore (lv' := [(19, .double x19_51), (0, .ref (G.1 + 271)), (1, .int a1), (2, .int a2), (5, .double x5), (9, .int x9), (14, .double x14), (16, .double x16), (18, .int x18), (21, .int x21)]) hx hb dX12_shareOf_120 hl (by decide) rfl (fun ls hl => ?_)
                obtain ⟨x21_52, hx21_52, hf⟩ := am_v_some hf
                refine lv_iinc (v := x21_52) (lv' := [(21, .int x21_52), (19, .double x19_51), (0, .ref (G.1 + 271)), (1, .int a1), (2, .int a2), (5, .double x5), (9, .int x9), (14, .double x14), (16, .double x16), (18, .int x18)]) hx hb dX12_shareOf_122 hl (k := 9) rfl (by rw [hx21_52]; rfl) (by decide) rfl (fun ls hl => ?_)
                refine lv_goto (tgt := 108) hx hb dX12_shareOf_125 (by decide) ?_
                obtain rfl := Option.some.inj hf
                exact ih3 x19_51 x21_52 w z2 H locs ls hk3 hk2 hH (lv_sub hl [2, 3, 4, 5, 6, 7, 8, 9, 1, 0] rfl)
          unfold f_X12_shareOf_85b at hf
          refine lv_iload hx hb dX12_shareOf_85 (lv_at hl 7 rfl) ?_
          refine lv_bipush (v := 6) hx hb dX12_shareOf_87 (by decide) ?_
          refine lv_icmp_gt (tgt := 156) hx hb dX12_shareOf_89 (by decide) (fun hc_53 => ?_) (fun hc_53 => ?_)
          · have hf := (if_pos hc_53).symm.trans hf
            obtain ⟨y_54, hf, hzy_54⟩ := am_x_some hf
            rw [hzy_54] at hk2
            have hf := hf.trans (congrArg some (show y_54 = z1 from hk2))
            refine lv_dload hx hb dX12_shareOf_156 (lv_at hl 6 rfl) ?_
            refine lv_aload_n hx hb dX12_shareOf_158 rfl (lv_at hl 0 rfl) ?_
            obtain ⟨r_57, w_55, hq_56, hf⟩ := am_b2_some hf
            refine am_calli (r := r_57) (w' := w_55) (am_runV (n := 0) (As := []) (rest := [.double x16]) ⟨hx, hb, hml, hown, hts⟩ hK hE hH (k_X12_timesOfAll hq_56) (am_gV am_q1913 am_q1915 am_qs114 am_q13 am_q1916) (am_o12 (p := 271) (by decide +kernel)) rfl ⟨rfl, rfl⟩ (by decide +kernel) ⟨Nat.le_of_ble_eq_true rfl, Nat.le_of_ble_eq_true rfl⟩ rfl hl.1 rfl (Nat.le_of_ble_eq_true rfl) ⟨Nat.zero_le _, Nat.zero_le _⟩ dX12_shareOf_159) hH (fun H locs hH => ?_)
            refine lv_i2d hx hb dX12_shareOf_162 ?_
            obtain ⟨hn_58, hf⟩ := am_n64_some hf
            refine lv_ddiv hx hb dX12_shareOf_163 hn_58 ?_
            obtain ⟨x7_59, hx7_59, hf⟩ := am_v_some hf
            refine am_topd hx7_59 ?_
            refine lv_dstore (lv' := [(7, .double x7_59), (0, .ref (G.1 + 271)), (1, .int a1), (2, .int a2), (5, .double x5), (9, .int x9), (14, .double x14), (16, .double x16), (18, .int x18)]) hx hb dX12_shareOf_164 hl (by decide) rfl (fun ls hl => ?_)
            obtain ⟨x9_60, hx9_60, hf⟩ := am_v_some hf
            refine lv_iinc (v := x9_60) (lv' := [(9, .int x9_60), (7, .double x7_59), (0, .ref (G.1 + 271)), (1, .int a1), (2, .int a2), (5, .double x5), (14, .double x14), (16, .double x16), (18, .int x18)]) hx hb dX12_shareOf_166 hl (k := 5) rfl (by rw [hx9_60]; rfl) (by decide) rfl (fun ls hl => ?_)
            refine lv_goto (tgt := 33) hx hb dX12_shareOf_169 (by decide) ?_
            obtain rfl := Option.some.inj hf
            exact ih1 x7_59 x9_60 w_55 H locs ls hk1 hH (lv_sub hl [2, 3, 4, 5, 1, 0] rfl)
          · have hf := (if_neg hc_53).symm.trans hf
            refine lv_iload hx hb dX12_shareOf_92 (lv_at hl 7 rfl) ?_
            refine lv_aload_n hx hb dX12_shareOf_94 rfl (lv_at hl 0 rfl) ?_
            refine am_get hx hb hts hK hown hH (am_o12 (p := 271) (by decide +kernel)) rfl am_inX12 12 (by decide) am_q1331 (v := .ref (G.1 + 278)) rfl dX12_shareOf_95 ?_
            refine lv_iload hx hb dX12_shareOf_98 (lv_at hl 7 rfl) ?_
            obtain ⟨hi_61, hf⟩ := am_chk_some hf
            refine am_iald hx hb hK hH (am_ai_of (N := 7) (by decide +kernel)) hi_61 dX12_shareOf_100 ?_
            refine lv_imul hx hb dX12_shareOf_101 ?_
            refine lv_i2d hx hb dX12_shareOf_102 ?_
            obtain ⟨x19_62, hx19_62, hf⟩ := am_v_some hf
            refine am_topd hx19_62 ?_
            refine lv_dstore (lv' := [(19, .double x19_62), (0, .ref (G.1 + 271)), (1, .int a1), (2, .int a2), (5, .double x5), (9, .int x9), (14, .double x14), (16, .double x16), (18, .int x18)]) hx hb dX12_shareOf_103 hl (by decide) rfl (fun ls hl => ?_)
            refine lv_iconst (v := 1) hx hb dX12_shareOf_105 (by decide) ?_
            refine lv_istore (lv' := [(21, .int (1 : Int32)), (19, .double x19_62), (0, .ref (G.1 + 271)), (1, .int a1), (2, .int a2), (5, .double x5), (9, .int x9), (14, .double x14), (16, .double x16), (18, .int x18)]) hx hb dX12_shareOf_106 hl (by decide) rfl (fun ls hl => ?_)
            exact P108 x16 x18 am_fuel x19_62 (1 : Int32) w z2 H locs ls hf hk2 hH (lv_sub hl [2, 3, 4, 5, 6, 7, 8, 9, 1, 0] rfl)
      have P54 : ∀ (x9 : Int32) (x10 : UInt64) (n2 : Nat) (x12 : UInt64) (x14 : Int32) (w : am_S) (z1 : ((UInt64 × am_S) ⊕ (UInt64 × Int32 × am_S))) (H : Heap) (locs : List Loc) (ls : Array Slot), am_loop (fun (st : (UInt64 × Int32 × am_S)) => f_X12_shareOf_54b a1 a2 x5 x9 x10 st.1 st.2.1 st.2.2) n2 (x12, x14, w) = some z1 → am_lk (fun (st : (UInt64 × Int32 × am_S)) => f_X12_shareOf_33b a1 a2 x5 st.1 st.2.1 st.2.2) n1 (rr, ww) z1 → am_H G w s H locs → lv_has ls 22 [(0, .ref (G.1 + 271)), (1, .int a1), (2, .int a2), (5, .double x5), (9, .int x9), (10, .double x10), (12, .double x12), (14, .int x14)] → W p l e { frames := 2, cells := 0, slots := 0, locals := 128 } s m [.ref (G.1 + 271), .int a1, .int a2].toArray below meth c H locs 0 0 (MQ below (va_Qd (fun (x : UInt64) (u : am_S) => x = rr ∧ u = ww) (am_U G) (am_A G)) [.ref (G.1 + 271), .int a1, .int a2].toArray s 0 0 (am_A G)) (F0 m 54 ls []) := by
        intro x9 x10 n2
        induction n2 with
        | zero =>
          intro x12 x14 w z1 H locs ls hf hk1 hH hl
          exact (am_loop_zero hf).elim
        | succ n2 ih2 =>
          intro x12 x14 w z1 H locs ls hf hk1 hH hl
          obtain ⟨z2, hf, hk2⟩ := am_loop_succ hf
          have hf : f_X12_shareOf_54b a1 a2 x5 x9 x10 x12 x14 w = some z2 := hf
          unfold f_X12_shareOf_54b at hf
          refine lv_iload hx hb dX12_shareOf_54 (lv_at hl 7 rfl) ?_
          refine lv_iload_n hx hb dX12_shareOf_56 rfl (lv_at hl 1 rfl) ?_
          refine lv_icmp_ge (tgt := 73) hx hb dX12_shareOf_57 (by decide) (fun hc_63 => ?_) (fun hc_63 => ?_)
          · have hf := (if_pos hc_63).symm.trans hf
            obtain ⟨y_64, hf, hzy_64⟩ := am_x_some hf
            rw [hzy_64] at hk2
            have hf := hf.trans (congrArg some (show y_64 = z1 from hk2))
            refine lv_dconst1 hx hb dX12_shareOf_73 ?_
            refine lv_dload hx hb dX12_shareOf_74 (lv_at hl 6 rfl) ?_
            obtain ⟨hn_65, hf⟩ := am_n64_some hf
            refine lv_dsub hx hb dX12_shareOf_76 hn_65 ?_
            obtain ⟨x14_66, hx14_66, hf⟩ := am_v_some hf
            refine am_topd hx14_66 ?_
            refine lv_dstore (lv' := [(14, .double x14_66), (0, .ref (G.1 + 271)), (1, .int a1), (2, .int a2), (5, .double x5), (9, .int x9), (10, .double x10), (12, .double x12)]) hx hb dX12_shareOf_77 hl (by decide) rfl (fun ls hl => ?_)
            refine lv_dconst0 hx hb dX12_shareOf_79 ?_
            obtain ⟨x16_67, hx16_67, hf⟩ := am_v_some hf
            refine am_topd hx16_67 ?_
            refine lv_dstore (lv' := [(16, .double x16_67), (14, .double x14_66), (0, .ref (G.1 + 271)), (1, .int a1), (2, .int a2), (5, .double x5), (9, .int x9), (10, .double x10), (12, .double x12)]) hx hb dX12_shareOf_80 hl (by decide) rfl (fun ls hl => ?_)
            refine lv_iconst (v := 1) hx hb dX12_shareOf_82 (by decide) ?_
            refine lv_istore (lv' := [(18, .int (1 : Int32)), (16, .double x16_67), (14, .double x14_66), (0, .ref (G.1 + 271)), (1, .int a1), (2, .int a2), (5, .double x5), (9, .int x9), (10, .double x10), (12, .double x12)]) hx hb dX12_shareOf_83 hl (by decide) rfl (fun ls hl => ?_)
            exact P85 x9 x14_66 am_fuel x16_67 (1 : Int32) w z1 H locs ls hf hk1 hH (lv_sub hl [3, 4, 5, 6, 7, 2, 1, 0] rfl)
          · have hf := (if_neg hc_63).symm.trans hf
            refine lv_dload hx hb dX12_shareOf_60 (lv_at hl 6 rfl) ?_
            refine lv_dload hx hb dX12_shareOf_62 (lv_at hl 5 rfl) ?_
            obtain ⟨hn_68, hf⟩ := am_n64_some hf
            refine lv_dmul hx hb dX12_shareOf_64 hn_68 ?_
            obtain ⟨x12_69, hx12_69, hf⟩ := am_v_some hf
            refine am_topd hx12_69 ?_
            refine lv_dstore (lv' := [(12, .double x12_69), (0, .ref (G.1 + 271)), (1, .int a1), (2, .int a2), (5, .double x5), (9, .int x9), (10, .double x10), (14, .int x14)]) hx hb dX12_shareOf_65 hl (by decide) rfl (fun ls hl => ?_)
            obtain ⟨x14_70, hx14_70, hf⟩ := am_v_some hf
            refine lv_iinc (v := x14_70) (lv' := [(14, .int x14_70), (12, .double x12_69), (0, .ref (G.1 + 271)), (1, .int a1), (2, .int a2), (5, .double x5), (9, .int x9), (10, .double x10)]) hx hb dX12_shareOf_67 hl (k := 7) rfl (by rw [hx14_70]; rfl) (by decide) rfl (fun ls hl => ?_)
            refine lv_goto (tgt := 54) hx hb dX12_shareOf_70 (by decide) ?_
            obtain rfl := Option.some.inj hf
            exact ih2 x12_69 x14_70 w z1 H locs ls hk2 hk1 hH (lv_sub hl [2, 3, 4, 5, 6, 7, 1, 0] rfl)
      unfold f_X12_shareOf_33b at hf
      refine lv_iload hx hb dX12_shareOf_33 (lv_at hl 5 rfl) ?_
      refine lv_iload_n hx hb dX12_shareOf_35 rfl (lv_at hl 2 rfl) ?_
      refine lv_icmp_ge (tgt := 172) hx hb dX12_shareOf_36 (by decide) (fun hc_71 => ?_) (fun hc_71 => ?_)
      · have hf := (if_pos hc_71).symm.trans hf
        obtain ⟨y_72, hf, hzy_72⟩ := am_x_some hf
        rw [hzy_72] at hk1
        have hf := hf.trans (congrArg some (show y_72 = (rr, ww) from hk1))
        refine lv_dload hx hb dX12_shareOf_172 (lv_at hl 4 rfl) ?_
        exact am_retd hx hb hr hlocks hH hf dX12_shareOf_174
      · have hf := (if_neg hc_71).symm.trans hf
        refine lv_dconst1 hx hb dX12_shareOf_39 ?_
        refine lv_dload hx hb dX12_shareOf_40 (lv_at hl 3 rfl) ?_
        refine lv_dload hx hb dX12_shareOf_42 (lv_at hl 4 rfl) ?_
        obtain ⟨hn_73, hf⟩ := am_n64_some hf
        refine lv_dmul hx hb dX12_shareOf_44 hn_73 ?_
        obtain ⟨hn_74, hf⟩ := am_n64_some hf
        refine lv_dsub hx hb dX12_shareOf_45 hn_74 ?_
        obtain ⟨x10_75, hx10_75, hf⟩ := am_v_some hf
        refine am_topd hx10_75 ?_
        refine lv_dstore (lv' := [(10, .double x10_75), (0, .ref (G.1 + 271)), (1, .int a1), (2, .int a2), (5, .double x5), (7, .double x7), (9, .int x9)]) hx hb dX12_shareOf_46 hl (by decide) rfl (fun ls hl => ?_)
        refine lv_dconst1 hx hb dX12_shareOf_48 ?_
        obtain ⟨x12_76, hx12_76, hf⟩ := am_v_some hf
        refine am_topd hx12_76 ?_
        refine lv_dstore (lv' := [(12, .double x12_76), (10, .double x10_75), (0, .ref (G.1 + 271)), (1, .int a1), (2, .int a2), (5, .double x5), (7, .double x7), (9, .int x9)]) hx hb dX12_shareOf_49 hl (by decide) rfl (fun ls hl => ?_)
        refine lv_iconst (v := 1) hx hb dX12_shareOf_51 (by decide) ?_
        refine lv_istore (lv' := [(14, .int (1 : Int32)), (12, .double x12_76), (10, .double x10_75), (0, .ref (G.1 + 271)), (1, .int a1), (2, .int a2), (5, .double x5), (7, .double x7), (9, .int x9)]) hx hb dX12_shareOf_52 hl (by decide) rfl (fun ls hl => ?_)
        exact P54 x9 x10_75 am_fuel x12_76 (1 : Int32) w z1 H locs ls hf hk1 hH (lv_sub hl [3, 4, 5, 6, 8, 2, 1, 0] rfl)
  refine am_enter (lv := [(0, .ref (G.1 + 271)), (1, .int a1), (2, .int a2)]) (Nat.le_of_ble_eq_true rfl) rfl (fun ls hl => ?_)
  unfold f_X12_shareOf at hf
  refine am_start hH (fun H locs hH => ?_)
  refine lv_aload_n hx hb dX12_shareOf_0 rfl (lv_at hl 0 rfl) ?_
  obtain ⟨r_79, w_77, hq_78, hf⟩ := am_b2_some hf
  refine am_calli (r := r_79) (w' := w_77) (am_runV (n := 0) (As := []) (rest := []) ⟨hx, hb, hml, hown, hts⟩ hK hE hH (k_X12_timesOfAll hq_78) (am_gV am_q1913 am_q1915 am_qs114 am_q13 am_q1916) (am_o12 (p := 271) (by decide +kernel)) rfl ⟨rfl, rfl⟩ (by decide +kernel) ⟨Nat.le_of_ble_eq_true rfl, Nat.le_of_ble_eq_true rfl⟩ rfl hl.1 rfl (Nat.le_of_ble_eq_true rfl) ⟨Nat.zero_le _, Nat.zero_le _⟩ dX12_shareOf_1) hH (fun H locs hH => ?_)
  refine lv_i2d hx hb dX12_shareOf_4 ?_
  refine lv_aload_n hx hb dX12_shareOf_5 rfl (lv_at hl 0 rfl) ?_
  obtain ⟨r_82, w_80, hq_81, hf⟩ := am_b2_some hf
  refine am_calli (r := r_82) (w' := w_80) (am_runV (n := 0) (As := []) (rest := [.double (FP.i2d r_79)]) ⟨hx, hb, hml, hown, hts⟩ hK hE hH (k_X12_degreesOfAll hq_81) (am_gV am_q1574 am_q1576 am_qs74 am_q13 am_q1577) (am_o12 (p := 271) (by decide +kernel)) rfl ⟨rfl, rfl⟩ (by decide +kernel) ⟨Nat.le_of_ble_eq_true rfl, Nat.le_of_ble_eq_true rfl⟩ rfl hl.1 rfl (Nat.le_of_ble_eq_true rfl) ⟨Nat.zero_le _, Nat.zero_le _⟩ dX12_shareOf_6) hH (fun H locs hH => ?_)
  refine lv_i2d hx hb dX12_shareOf_9 ?_
  obtain ⟨hn_83, hf⟩ := am_n64_some hf
  refine lv_ddiv hx hb dX12_shareOf_10 hn_83 ?_
  obtain ⟨x3_84, hx3_84, hf⟩ := am_v_some hf
  refine am_topd hx3_84 ?_
  refine lv_dstore_n (lv' := [(3, .double x3_84), (0, .ref (G.1 + 271)), (1, .int a1), (2, .int a2)]) hx hb dX12_shareOf_11 rfl hl (by decide) rfl (fun ls hl => ?_)
  refine lv_dconst1 hx hb dX12_shareOf_12 ?_
  refine lv_dload_n hx hb dX12_shareOf_13 rfl (lv_at hl 0 rfl) ?_
  refine lv_aload_n hx hb dX12_shareOf_14 rfl (lv_at hl 1 rfl) ?_
  refine am_get hx hb hts hK hown hH (am_o12 (p := 271) (by decide +kernel)) rfl am_inX12 10 (by decide) am_q1329 (v := .ref (G.1 + 276)) rfl dX12_shareOf_15 ?_
  refine lv_iconst (v := 0) hx hb dX12_shareOf_18 (by decide) ?_
  obtain ⟨hi_85, hf⟩ := am_chk_some hf
  refine am_iald hx hb hK hH (am_ai_of (N := 4) (by decide +kernel)) hi_85 dX12_shareOf_19 ?_
  refine lv_i2d hx hb dX12_shareOf_20 ?_
  obtain ⟨hn_86, hf⟩ := am_n64_some hf
  refine lv_ddiv hx hb dX12_shareOf_21 hn_86 ?_
  obtain ⟨r_89, w_87, hq_88, hf⟩ := am_b2_some hf
  refine am_calld (r := r_89) (w' := w_87) (am_runS (n := 2) (As := [.double (FP.dconst1), .double (FP.ddiv x3_84 (FP.i2d (w_80.1 276 (0 : Int32).toNatClampNeg)))]) (rest := []) ⟨hx, hb, hml, hown, hts⟩ hK hE hH (k_J9_min_eb370 hq_88) (am_gS am_q1917 am_q1918 am_q18 am_q1919) ⟨rfl, rfl⟩ (by decide +kernel) ⟨Nat.le_of_ble_eq_true rfl, Nat.le_of_ble_eq_true rfl⟩ rfl hl.1 rfl (Nat.le_of_ble_eq_true rfl) ⟨Nat.zero_le _, Nat.zero_le _⟩ dX12_shareOf_22) hH (fun H locs hH => ?_)
  refine lv_dstore (lv' := [(5, .double r_89), (3, .double x3_84), (0, .ref (G.1 + 271)), (1, .int a1), (2, .int a2)]) hx hb dX12_shareOf_25 hl (by decide) rfl (fun ls hl => ?_)
  refine lv_dconst1 hx hb dX12_shareOf_27 ?_
  obtain ⟨x7_90, hx7_90, hf⟩ := am_v_some hf
  refine am_topd hx7_90 ?_
  refine lv_dstore (lv' := [(7, .double x7_90), (5, .double r_89), (3, .double x3_84), (0, .ref (G.1 + 271)), (1, .int a1), (2, .int a2)]) hx hb dX12_shareOf_28 hl (by decide) rfl (fun ls hl => ?_)
  refine lv_iconst (v := 0) hx hb dX12_shareOf_30 (by decide) ?_
  refine lv_istore (lv' := [(9, .int (0 : Int32)), (7, .double x7_90), (5, .double r_89), (3, .double x3_84), (0, .ref (G.1 + 271)), (1, .int a1), (2, .int a2)]) hx hb dX12_shareOf_31 hl (by decide) rfl (fun ls hl => ?_)
  exact P33 r_89 am_fuel x7_90 (0 : Int32) w_87 H locs ls hf hH (lv_sub hl [4, 5, 6, 2, 1, 0] rfl)
