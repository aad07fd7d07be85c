/-! functions and contracts of methods, by program (wip/whole/gen.py) -/
def f_X12_ahead_0b  (w : am_S) : Option ((Int32 × am_S) ⊕ am_S) :=
  am_b2 (f_X12_here w) fun r_11 w_9 => if r_11 = (32 : Int32) then (am_v (am_pi w_9 271 3 ((w_9.1 271 3) + (1 : Int32))) fun (w_17 : am_S) => some (.inr w_17)) else (am_x (am_b2 (f_X12_here w_9) fun r_16 w_14 => some (r_16, w_14)))
def f_X12_ahead_0  (w : am_S) : Option (Int32 × am_S) :=
  am_loop (fun (st : am_S) => f_X12_ahead_0b st) am_fuel w
def f_X12_ahead  (w : am_S) : Option (Int32 × am_S) :=
  f_X12_ahead_0 w
set_option maxRecDepth 100000 in
set_option maxHeartbeats 4000000 in
theorem k_X12_ahead {G : am_G} {l : Launch}   {w : am_S} {rr : Int32} {ww : am_S} (hf : f_X12_ahead  w = some (rr, ww)) : am_Mi G l yX12_ahead (Cond.code yX12_ahead cX12_ahead 1 (some .int) :: am_T) { frames := 1, cells := 0, slots := 0, locals := 64 } [.ref (G.1 + 271)] w rr ww := by
  refine Met.ofW (cc := cX12_ahead) (maxL := 1) (ret := (some .int)) (by decide) rfl ?_
  intro p e s m args below meth c s₁ B hml hv
  obtain ⟨rfl, hx, hb, hr, hts, hown, hlocks, hK, hE, hH⟩ := am_begin B hv
  have hown : s.vm.findClass RX12 = some m.cls := hown
  show W p l e { frames := 1, cells := 0, slots := 0, locals := 64 } s m _ below meth c s.heap [] 0 0 _ _
  have P0 : ∀ (n1 : Nat) (w : am_S) (H : Heap) (locs : List Loc) (ls : Array Slot), am_loop (fun (st : am_S) => f_X12_ahead_0b st) n1 w = some (rr, ww) → am_H G w s H locs → lv_has ls 1 [(0, .ref (G.1 + 271))] → W p l e { frames := 1, cells := 0, slots := 0, locals := 64 } s m [.ref (G.1 + 271)].toArray below meth c H locs 0 0 (MQ below (va_Qi (fun (x : Int32) (u : am_S) => x = rr ∧ u = ww) (am_U G) (am_A G)) [.ref (G.1 + 271)].toArray s 0 0 (am_A G)) (F0 m 0 ls []) := by
    intro n1
    induction n1 with
    | zero =>
      intro w H locs ls hf hH hl
      exact (am_loop_zero hf).elim
    | succ n1 ih1 =>
      intro w H locs ls hf hH hl
      obtain ⟨z1, hf, hk1⟩ := am_loop_succ hf
      have hf : f_X12_ahead_0b  w = some z1 := hf
      unfold f_X12_ahead_0b at hf
      refine lv_aload_n hx hb dX12_ahead_0 rfl (lv_at hl 0 rfl) ?_
      obtain ⟨r_11, w_9, hq_10, hf⟩ := am_b2_some hf
      refine am_calli (r := r_11) (w' := w_9) (am_runV (n := 0) (As := []) (rest := []) ⟨hx, hb, hml, hown, hts⟩ hK hE hH (k_X12_here hq_10) (am_gV am_q1443 am_q1445 am_qs48 am_q13 am_q1446) (am_o12 (p := 271) (by decide +kernel)) rfl ⟨rfl, rfl⟩ (by decide +kernel) ⟨Nat.le_of_ble_eq_true rfl, Nat.le_of_ble_eq_true rfl⟩ rfl hl.1 rfl (Nat.le_of_ble_eq_true rfl) ⟨Nat.zero_le _, Nat.zero_le _⟩ dX12_ahead_1) hH (fun H locs hH => ?_)
      refine lv_bipush (v := 32) hx hb dX12_ahead_4 (by decide) ?_
      refine lv_icmp_ne (tgt := 22) hx hb dX12_ahead_6 (by decide) (fun hc_12 => ?_) (fun hc_12 => ?_)
      · have hf := (if_neg hc_12).symm.trans hf
        obtain ⟨y_13, hf, hzy_13⟩ := am_x_some hf
        rw [hzy_13] at hk1
        have hf := hf.trans (congrArg some (show y_13 = (rr, ww) from hk1))
        refine lv_aload_n hx hb dX12_ahead_22 rfl (lv_at hl 0 rfl) ?_
        obtain ⟨r_16, w_14, hq_15, hf⟩ := am_b2_some hf
        refine am_calli (r := r_16) (w' := w_14) (am_runV (n := 0) (As := []) (rest := []) ⟨hx, hb, hml, hown, hts⟩ hK hE hH (k_X12_here hq_15) (am_gV am_q1443 am_q1445 am_qs48 am_q13 am_q1446) (am_o12 (p := 271) (by decide +kernel)) rfl ⟨rfl, rfl⟩ (by decide +kernel) ⟨Nat.le_of_ble_eq_true rfl, Nat.le_of_ble_eq_true rfl⟩ rfl hl.1 rfl (Nat.le_of_ble_eq_true rfl) ⟨Nat.zero_le _, Nat.zero_le _⟩ dX12_ahead_23) hH (fun H locs hH => ?_)
        exact am_reti hx hb hr hlocks hH hf dX12_ahead_26
      · have hf := (if_pos hc_12).symm.trans hf
        refine lv_aload_n hx hb dX12_ahead_9 rfl (lv_at hl 0 rfl) ?_
        refine lv_dup hx hb dX12_ahead_10 rfl ?_
        refine am_get hx hb hts hK hown hH (am_o12 (p := 271) (by decide +kernel)) rfl am_inX12 3 (by decide) am_q1322 (v := .int (w_9.1 271 3)) rfl dX12_ahead_11 ?_
        refine lv_iconst (v := 1) hx hb dX12_ahead_14 (by decide) ?_
        refine lv_iadd hx hb dX12_ahead_15 ?_
        obtain ⟨w_17, hw_17, hf⟩ := am_v_some hf
        refine am_puti hx hb hts hK hown hH (am_o12 (p := 271) (by decide +kernel)) rfl am_inX12 tyX12 tyX12_ok nmX12 3 (by decide) am_q1322 rfl rfl rfl (fun _ _ => Nat.le_of_ble_eq_true rfl) (fun _ _ _ => rfl) dX12_ahead_16 (fun H locs hH => ?_)
        rw [← hw_17] at hH
        refine lv_goto (tgt := 0) hx hb dX12_ahead_19 (by decide) ?_
        obtain rfl := Option.some.inj hf
        exact ih1  w_17 H locs ls hk1 hH (lv_sub hl [0] rfl)
  refine am_enter (lv := [(0, .ref (G.1 + 271))]) (Nat.le_of_ble_eq_true rfl) rfl (fun ls hl => ?_)
  unfold f_X12_ahead at hf
  refine am_start hH (fun H locs hH => ?_)
  exact P0 am_fuel w H locs ls hf hH (lv_sub hl [0] rfl)

def f_X12_bad_20  (s0 : Int32) (w : am_S) : Option am_S :=
  am_v (am_pi w 271 4 s0) fun (w_3 : am_S) => some w_3
def f_X12_bad  (w : am_S) : Option am_S :=
  if (w.1 271 4) = (-1 : Int32) then (f_X12_bad_20 (w.1 271 3) w) else (f_X12_bad_20 (w.1 271 4) w)
set_option maxRecDepth 100000 in
set_option maxHeartbeats 4000000 in
theorem k_X12_bad {G : am_G} {l : Launch}   {w : am_S} {ww : am_S} (hf : f_X12_bad  w = some ww) : am_Mv G l yX12_bad (Cond.code yX12_bad cX12_bad 1 none :: am_T) { frames := 0, cells := 0, slots := 0, locals := 0 } [.ref (G.1 + 271)] w ww := by
  refine Met.ofW (cc := cX12_bad) (maxL := 1) (ret := none) (by decide) rfl ?_
  intro p e s m args below meth c s₁ B hml hv
  obtain ⟨rfl, hx, hb, hr, hts, hown, hlocks, hK, hE, hH⟩ := am_begin B hv
  have hown : s.vm.findClass RX12 = some m.cls := hown
  show W p l e { frames := 0, cells := 0, slots := 0, locals := 0 } s m _ below meth c s.heap [] 0 0 _ _
  have P20 : ∀ (s0 : Int32) (w : am_S) (H : Heap) (locs : List Loc) (ls : Array Slot), f_X12_bad_20 s0 w = some ww → am_H G w s H locs → lv_has ls 1 [] → W p l e { frames := 0, cells := 0, slots := 0, locals := 0 } s m [.ref (G.1 + 271)].toArray below meth c H locs 0 0 (MQ below (va_Qv (fun (u : am_S) => u = ww) (am_U G) (am_A G)) [.ref (G.1 + 271)].toArray s 0 0 (am_A G)) (F0 m 20 ls [.int s0, .ref (G.1 + 271)]) := by
    intro s0 w H locs ls hf hH hl
    unfold f_X12_bad_20 at hf
    obtain ⟨w_3, hw_3, hf⟩ := am_v_some hf
    refine am_puti hx hb hts hK hown hH (am_o12 (p := 271) (by decide +kernel)) rfl am_inX12 tyX12 tyX12_ok nmX12 4 (by decide) am_q1323 rfl rfl rfl (fun _ _ => Nat.le_of_ble_eq_true rfl) (fun _ _ _ => rfl) dX12_bad_20 (fun H locs hH => ?_)
    rw [← hw_3] at hH
    exact am_retv hx hb hr hlocks hH hf dX12_bad_23
  refine am_enter (lv := [(0, .ref (G.1 + 271))]) (Nat.le_of_ble_eq_true rfl) rfl (fun ls hl => ?_)
  unfold f_X12_bad at hf
  refine am_start hH (fun H locs hH => ?_)
  refine lv_aload_n hx hb dX12_bad_0 rfl (lv_at hl 0 rfl) ?_
  refine lv_aload_n hx hb dX12_bad_1 rfl (lv_at hl 0 rfl) ?_
  refine am_get hx hb hts hK hown hH (am_o12 (p := 271) (by decide +kernel)) rfl am_inX12 4 (by decide) am_q1323 (v := .int (w.1 271 4)) rfl dX12_bad_2 ?_
  refine lv_iconst (v := -1) hx hb dX12_bad_5 (by decide) ?_
  refine lv_icmp_ne (tgt := 16) hx hb dX12_bad_6 (by decide) (fun hc_4 => ?_) (fun hc_4 => ?_)
  · have hf := (if_neg hc_4).symm.trans hf
    refine lv_aload_n hx hb dX12_bad_16 rfl (lv_at hl 0 rfl) ?_
    refine am_get hx hb hts hK hown hH (am_o12 (p := 271) (by decide +kernel)) rfl am_inX12 4 (by decide) am_q1323 (v := .int (w.1 271 4)) rfl dX12_bad_17 ?_
    exact P20 (w.1 271 4) w H locs ls hf hH (lv_sub hl [] rfl)
  · have hf := (if_pos hc_4).symm.trans hf
    refine lv_aload_n hx hb dX12_bad_9 rfl (lv_at hl 0 rfl) ?_
    refine am_get hx hb hts hK hown hH (am_o12 (p := 271) (by decide +kernel)) rfl am_inX12 3 (by decide) am_q1322 (v := .int (w.1 271 3)) rfl dX12_bad_10 ?_
    refine lv_goto (tgt := 20) hx hb dX12_bad_13 (by decide) ?_
    exact P20 (w.1 271 3) w H locs ls hf hH (lv_sub hl [] rfl)

def f_X12_isWhole_116  (x1 : Int32) (w : am_S) : Option (Int32 × am_S) :=
  am_nar .boolean x1 (some (x1, w))
def f_X12_isWhole_109  (x2 : Int32) (s0 : Int32) (w : am_S) : Option ((Int32 × am_S) ⊕ (Int32 × Int32 × am_S)) :=
  am_v (x2 + (1 : Int32)) fun (x2_18 : Int32) => some (.inr (s0, x2_18, w))
def f_X12_isWhole_108  (x2 : Int32) (w : am_S) : Option ((Int32 × am_S) ⊕ (Int32 × Int32 × am_S)) :=
  f_X12_isWhole_109 x2 (0 : Int32) w
def f_X12_isWhole_101  (x2 : Int32) (s0 : Int32) (s1 : Int32) (w : am_S) : Option ((Int32 × am_S) ⊕ (Int32 × Int32 × am_S)) :=
  if s0 ≤ s1 then (f_X12_isWhole_108 x2 w) else (f_X12_isWhole_109 x2 (1 : Int32) w)
def f_X12_isWhole_15b  (x1 : Int32) (x2 : Int32) (w : am_S) : Option ((Int32 × am_S) ⊕ (Int32 × Int32 × am_S)) :=
  if (w.1 271 8) ≤ x2 then (am_x (f_X12_isWhole_116 x1 w)) else (if x1 = 0 then (am_x (f_X12_isWhole_116 x1 w)) else (am_chk (((5 : Int32) * x2) + (2 : Int32)) 50 (am_v (w.1 274 (((5 : Int32) * x2) + (2 : Int32)).toNatClampNeg) fun (x3_25 : Int32) => am_chk (0 : Int32) 4 (am_v ((1 : Int32) <<< ((w.1 273 (0 : Int32).toNatClampNeg) &&& 31)) fun (x4_27 : Int32) => am_chk (1 : Int32) 4 (if (w.1 273 (1 : Int32).toNatClampNeg) ≤ x3_25 then (f_X12_isWhole_108 x2 w) else (am_chk (((5 : Int32) * x2) + (3 : Int32)) 50 (if x4_27 ≤ (w.1 274 (((5 : Int32) * x2) + (3 : Int32)).toNatClampNeg) then (f_X12_isWhole_108 x2 w) else (am_chk (((5 : Int32) * x2) + (4 : Int32)) 50 (am_chk (1 : Int32) 4 (if (w.1 273 (1 : Int32).toNatClampNeg) ≤ (x3_25 + (1 : Int32)) then (f_X12_isWhole_101 x2 (1 : Int32) (w.1 274 (((5 : Int32) * x2) + (4 : Int32)).toNatClampNeg) w) else (f_X12_isWhole_101 x2 x4_27 (w.1 274 (((5 : Int32) * x2) + (4 : Int32)).toNatClampNeg) w)))))))))))
def f_X12_isWhole_15  (x1 : Int32) (x2 : Int32) (w : am_S) : Option (Int32 × am_S) :=
  am_loop (fun (st : (Int32 × Int32 × am_S)) => f_X12_isWhole_15b st.1 st.2.1 st.2.2) am_fuel (x1, x2, w)
def f_X12_isWhole_12  (s0 : Int32) (w : am_S) : Option (Int32 × am_S) :=
  f_X12_isWhole_15 s0 (0 : Int32) w
def f_X12_isWhole  (w : am_S) : Option (Int32 × am_S) :=
  if (w.1 271 8) ≤ 0 then (f_X12_isWhole_12 (0 : Int32) w) else (f_X12_isWhole_12 (1 : Int32) w)
set_option maxRecDepth 100000 in
set_option maxHeartbeats 4000000 in
theorem k_X12_isWhole {G : am_G} {l : Launch}   {w : am_S} {rr : Int32} {ww : am_S} (hf : f_X12_isWhole  w = some (rr, ww)) : am_Mi G l yX12_isWhole (Cond.code yX12_isWhole cX12_isWhole 5 (some .boolean) :: am_T) { frames := 0, cells := 0, slots := 0, locals := 0 } [.ref (G.1 + 271)] w rr ww := by
  refine Met.ofW (cc := cX12_isWhole) (maxL := 5) (ret := (some .boolean)) (by decide) rfl ?_
  intro p e s m args below meth c s₁ B hml hv
  obtain ⟨rfl, hx, hb, hr, hts, hown, hlocks, hK, hE, hH⟩ := am_begin B hv
  have hown : s.vm.findClass RX12 = some m.cls := hown
  show W p l e { frames := 0, cells := 0, slots := 0, locals := 0 } s m _ below meth c s.heap [] 0 0 _ _
  have P116 : ∀ (x1 : Int32) (w : am_S) (H : Heap) (locs : List Loc) (ls : Array Slot), f_X12_isWhole_116 x1 w = some (rr, ww) → am_H G w s H locs → lv_has ls 5 [(1, .int x1)] → W p l e { frames := 0, cells := 0, slots := 0, locals := 0 } s m [.ref (G.1 + 271)].toArray below meth c H locs 0 0 (MQ below (va_Qi (fun (x : Int32) (u : am_S) => x = rr ∧ u = ww) (am_U G) (am_A G)) [.ref (G.1 + 271)].toArray s 0 0 (am_A G)) (F0 m 116 ls []) := by
    intro x1 w H locs ls hf hH hl
    unfold f_X12_isWhole_116 at hf
    refine lv_iload_n hx hb dX12_isWhole_116 rfl (lv_at hl 0 rfl) ?_
    obtain ⟨hr_17, hf⟩ := am_nar_some hf
    exact am_retz hx hb hr hr_17.1 hlocks hH hf dX12_isWhole_117
  have P15 : ∀ (n1 : Nat) (x1 : Int32) (x2 : Int32) (w : am_S) (H : Heap) (locs : List Loc) (ls : Array Slot), am_loop (fun (st : (Int32 × Int32 × am_S)) => f_X12_isWhole_15b st.1 st.2.1 st.2.2) n1 (x1, x2, w) = some (rr, ww) → am_H G w s H locs → lv_has ls 5 [(0, .ref (G.1 + 271)), (1, .int x1), (2, .int x2)] → W p l e { frames := 0, cells := 0, slots := 0, locals := 0 } s m [.ref (G.1 + 271)].toArray below meth c H locs 0 0 (MQ below (va_Qi (fun (x : Int32) (u : am_S) => x = rr ∧ u = ww) (am_U G) (am_A G)) [.ref (G.1 + 271)].toArray s 0 0 (am_A G)) (F0 m 15 ls []) := by
    intro n1
    induction n1 with
    | zero =>
      intro x1 x2 w H locs ls hf hH hl
      exact (am_loop_zero hf).elim
    | succ n1 ih1 =>
      intro x1 x2 w H locs ls hf hH hl
      obtain ⟨z1, hf, hk1⟩ := am_loop_succ hf
      have hf : f_X12_isWhole_15b x1 x2 w = some z1 := hf
      have P109 : ∀ (x2 : Int32) (s0 : Int32) (w : am_S) (z1 : ((Int32 × am_S) ⊕ (Int32 × Int32 × am_S))) (H : Heap) (locs : List Loc) (ls : Array Slot), f_X12_isWhole_109 x2 s0 w = some z1 → am_lk (fun (st : (Int32 × Int32 × am_S)) => f_X12_isWhole_15b st.1 st.2.1 st.2.2) n1 (rr, ww) z1 → am_H G w s H locs → lv_has ls 5 [(0, .ref (G.1 + 271)), (2, .int x2)] → W p l e { frames := 0, cells := 0, slots := 0, locals := 0 } s m [.ref (G.1 + 271)].toArray below meth c H locs 0 0 (MQ below (va_Qi (fun (x : Int32) (u : am_S) => x = rr ∧ u = ww) (am_U G) (am_A G)) [.ref (G.1 + 271)].toArray s 0 0 (am_A G)) (F0 m 109 ls [.int s0]) := by
        intro x2 s0 w z1 H locs ls hf hk1 hH hl
        unfold f_X12_isWhole_109 at hf
        refine lv_istore_n (lv' := [(1, .int s0), (0, .ref (G.1 + 271)), (2, .int x2)]) hx hb dX12_isWhole_109 rfl hl (by decide) rfl (fun ls hl => ?_)
        obtain ⟨x2_18, hx2_18, hf⟩ := am_v_some hf
        refine lv_iinc (v := x2_18) (lv' := [(2, .int x2_18), (1, .int s0), (0, .ref (G.1 + 271))]) hx hb dX12_isWhole_110 hl (k := 2) rfl (by rw [hx2_18]; rfl) (by decide) rfl (fun ls hl => ?_)
        refine lv_goto (tgt := 15) hx hb dX12_isWhole_113 (by decide) ?_
        obtain rfl := Option.some.inj hf
        exact ih1 s0 x2_18 w H locs ls hk1 hH (lv_sub hl [2, 1, 0] rfl)
      have P108 : ∀ (x2 : Int32) (w : am_S) (z1 : ((Int32 × am_S) ⊕ (Int32 × Int32 × am_S))) (H : Heap) (locs : List Loc) (ls : Array Slot), f_X12_isWhole_108 x2 w = some z1 → am_lk (fun (st : (Int32 × Int32 × am_S)) => f_X12_isWhole_15b st.1 st.2.1 st.2.2) n1 (rr, ww) z1 → am_H G w s H locs → lv_has ls 5 [(0, .ref (G.1 + 271)), (2, .int x2)] → W p l e { frames := 0, cells := 0, slots := 0, locals := 0 } s m [.ref (G.1 + 271)].toArray below meth c H locs 0 0 (MQ below (va_Qi (fun (x : Int32) (u : am_S) => x = rr ∧ u = ww) (am_U G) (am_A G)) [.ref (G.1 + 271)].toArray s 0 0 (am_A G)) (F0 m 108 ls []) := by
        intro x2 w z1 H locs ls hf hk1 hH hl
        unfold f_X12_isWhole_108 at hf
        refine lv_iconst (v := 0) hx hb dX12_isWhole_108 (by decide) ?_
        exact P109 x2 (0 : Int32) w z1 H locs ls hf hk1 hH (lv_sub hl [0, 1] rfl)
      have P101 : ∀ (x2 : Int32) (s0 : Int32) (s1 : Int32) (w : am_S) (z1 : ((Int32 × am_S) ⊕ (Int32 × Int32 × am_S))) (H : Heap) (locs : List Loc) (ls : Array Slot), f_X12_isWhole_101 x2 s0 s1 w = some z1 → am_lk (fun (st : (Int32 × Int32 × am_S)) => f_X12_isWhole_15b st.1 st.2.1 st.2.2) n1 (rr, ww) z1 → am_H G w s H locs → lv_has ls 5 [(0, .ref (G.1 + 271)), (2, .int x2)] → W p l e { frames := 0, cells := 0, slots := 0, locals := 0 } s m [.ref (G.1 + 271)].toArray below meth c H locs 0 0 (MQ below (va_Qi (fun (x : Int32) (u : am_S) => x = rr ∧ u = ww) (am_U G) (am_A G)) [.ref (G.1 + 271)].toArray s 0 0 (am_A G)) (F0 m 101 ls [.int s0, .int s1]) := by
        intro x2 s0 s1 w z1 H locs ls hf hk1 hH hl
        unfold f_X12_isWhole_101 at hf
        refine lv_icmp_ge (tgt := 108) hx hb dX12_isWhole_101 (by decide) (fun hc_19 => ?_) (fun hc_19 => ?_)
        · have hf := (if_pos hc_19).symm.trans hf
          exact P108 x2 w z1 H locs ls hf hk1 hH (lv_sub hl [0, 1] rfl)
        · have hf := (if_neg hc_19).symm.trans hf
          refine lv_iconst (v := 1) hx hb dX12_isWhole_104 (by decide) ?_
          refine lv_goto (tgt := 109) hx hb dX12_isWhole_105 (by decide) ?_
          exact P109 x2 (1 : Int32) w z1 H locs ls hf hk1 hH (lv_sub hl [0, 1] rfl)
      unfold f_X12_isWhole_15b at hf
      refine lv_iload_n hx hb dX12_isWhole_15 rfl (lv_at hl 2 rfl) ?_
      refine lv_aload_n hx hb dX12_isWhole_16 rfl (lv_at hl 0 rfl) ?_
      refine am_get hx hb hts hK hown hH (am_o12 (p := 271) (by decide +kernel)) rfl am_inX12 8 (by decide) am_q1327 (v := .int (w.1 271 8)) rfl dX12_isWhole_17 ?_
      refine lv_icmp_ge (tgt := 116) hx hb dX12_isWhole_20 (by decide) (fun hc_20 => ?_) (fun hc_20 => ?_)
      · have hf := (if_pos hc_20).symm.trans hf
        obtain ⟨y_21, hf, hzy_21⟩ := am_x_some hf
        rw [hzy_21] at hk1
        have hf := hf.trans (congrArg some (show y_21 = (rr, ww) from hk1))
        exact P116 x1 w H locs ls hf hH (lv_sub hl [1] rfl)
      · have hf := (if_neg hc_20).symm.trans hf
        refine lv_iload_n hx hb dX12_isWhole_23 rfl (lv_at hl 1 rfl) ?_
        refine lv_if_eq (tgt := 116) hx hb dX12_isWhole_24 (by decide) (fun hc_22 => ?_) (fun hc_22 => ?_)
        · have hf := (if_pos hc_22).symm.trans hf
          obtain ⟨y_23, hf, hzy_23⟩ := am_x_some hf
          rw [hzy_23] at hk1
          have hf := hf.trans (congrArg some (show y_23 = (rr, ww) from hk1))
          exact P116 x1 w H locs ls hf hH (lv_sub hl [1] rfl)
        · have hf := (if_neg hc_22).symm.trans hf
          refine lv_aload_n hx hb dX12_isWhole_27 rfl (lv_at hl 0 rfl) ?_
          refine am_get hx hb hts hK hown hH (am_o12 (p := 271) (by decide +kernel)) rfl am_inX12 6 (by decide) am_q1325 (v := .ref (G.1 + 274)) rfl dX12_isWhole_28 ?_
          refine lv_iconst (v := 5) hx hb dX12_isWhole_31 (by decide) ?_
          refine lv_iload_n hx hb dX12_isWhole_32 rfl (lv_at hl 2 rfl) ?_
          refine lv_imul hx hb dX12_isWhole_33 ?_
          refine lv_iconst (v := 2) hx hb dX12_isWhole_34 (by decide) ?_
          refine lv_iadd hx hb dX12_isWhole_35 ?_
          obtain ⟨hi_24, hf⟩ := am_chk_some hf
          refine am_iald hx hb hK hH (am_ai_of (N := 50) (by decide +kernel)) hi_24 dX12_isWhole_36 ?_
          obtain ⟨x3_25, hx3_25, hf⟩ := am_v_some hf
          refine am_topi hx3_25 ?_
          refine lv_istore_n (lv' := [(3, .int x3_25), (0, .ref (G.1 + 271)), (1, .int x1), (2, .int x2)]) hx hb dX12_isWhole_37 rfl hl (by decide) rfl (fun ls hl => ?_)
          refine lv_iconst (v := 1) hx hb dX12_isWhole_38 (by decide) ?_
          refine lv_aload_n hx hb dX12_isWhole_39 rfl (lv_at hl 1 rfl) ?_
          refine am_get hx hb hts hK hown hH (am_o12 (p := 271) (by decide +kernel)) rfl am_inX12 5 (by decide) am_q1324 (v := .ref (G.1 + 273)) rfl dX12_isWhole_40 ?_
          refine lv_iconst (v := 0) hx hb dX12_isWhole_43 (by decide) ?_
          obtain ⟨hi_26, hf⟩ := am_chk_some hf
          refine am_iald hx hb hK hH (am_ai_of (N := 4) (by decide +kernel)) hi_26 dX12_isWhole_44 ?_
          refine lv_ishl hx hb dX12_isWhole_45 ?_
          obtain ⟨x4_27, hx4_27, hf⟩ := am_v_some hf
          refine am_topi hx4_27 ?_
          refine lv_istore (lv' := [(4, .int x4_27), (3, .int x3_25), (0, .ref (G.1 + 271)), (1, .int x1), (2, .int x2)]) hx hb dX12_isWhole_46 hl (by decide) rfl (fun ls hl => ?_)
          refine lv_iload_n hx hb dX12_isWhole_48 rfl (lv_at hl 1 rfl) ?_
          refine lv_aload_n hx hb dX12_isWhole_49 rfl (lv_at hl 2 rfl) ?_
          refine am_get hx hb hts hK hown hH (am_o12 (p := 271) (by decide +kernel)) rfl am_inX12 5 (by decide) am_q1324 (v := .ref (G.1 + 273)) rfl dX12_isWhole_50 ?_
          refine lv_iconst (v := 1) hx hb dX12_isWhole_53 (by decide) ?_
          obtain ⟨hi_28, hf⟩ := am_chk_some hf
          refine am_iald hx hb hK hH (am_ai_of (N := 4) (by decide +kernel)) hi_28 dX12_isWhole_54 ?_
          refine lv_icmp_ge (tgt := 108) hx hb dX12_isWhole_55 (by decide) (fun hc_29 => ?_) (fun hc_29 => ?_)
          · have hf := (if_pos hc_29).symm.trans hf
            exact P108 x2 w z1 H locs ls hf hk1 hH (lv_sub hl [2, 4] rfl)
          · have hf := (if_neg hc_29).symm.trans hf
            refine lv_aload_n hx hb dX12_isWhole_58 rfl (lv_at hl 2 rfl) ?_
            refine am_get hx hb hts hK hown hH (am_o12 (p := 271) (by decide +kernel)) rfl am_inX12 6 (by decide) am_q1325 (v := .ref (G.1 + 274)) rfl dX12_isWhole_59 ?_
            refine lv_iconst (v := 5) hx hb dX12_isWhole_62 (by decide) ?_
            refine lv_iload_n hx hb dX12_isWhole_63 rfl (lv_at hl 4 rfl) ?_
            refine lv_imul hx hb dX12_isWhole_64 ?_
            refine lv_iconst (v := 3) hx hb dX12_isWhole_65 (by decide) ?_
            refine lv_iadd hx hb dX12_isWhole_66 ?_
            obtain ⟨hi_30, hf⟩ := am_chk_some hf
            refine am_iald hx hb hK hH (am_ai_of (N := 50) (by decide +kernel)) hi_30 dX12_isWhole_67 ?_
            refine lv_iload hx hb dX12_isWhole_68 (lv_at hl 0 rfl) ?_
            refine lv_icmp_ge (tgt := 108) hx hb dX12_isWhole_70 (by decide) (fun hc_31 => ?_) (fun hc_31 => ?_)
            · have hf := (if_pos hc_31).symm.trans hf
              exact P108 x2 w z1 H locs ls hf hk1 hH (lv_sub hl [2, 4] rfl)
            · have hf := (if_neg hc_31).symm.trans hf
              refine lv_aload_n hx hb dX12_isWhole_73 rfl (lv_at hl 2 rfl) ?_
              refine am_get hx hb hts hK hown hH (am_o12 (p := 271) (by decide +kernel)) rfl am_inX12 6 (by decide) am_q1325 (v := .ref (G.1 + 274)) rfl dX12_isWhole_74 ?_
              refine lv_iconst (v := 5) hx hb dX12_isWhole_77 (by decide) ?_
              refine lv_iload_n hx hb dX12_isWhole_78 rfl (lv_at hl 4 rfl) ?_
              refine lv_imul hx hb dX12_isWhole_79 ?_
              refine lv_iconst (v := 4) hx hb dX12_isWhole_80 (by decide) ?_
              refine lv_iadd hx hb dX12_isWhole_81 ?_
              obtain ⟨hi_32, hf⟩ := am_chk_some hf
              refine am_iald hx hb hK hH (am_ai_of (N := 50) (by decide +kernel)) hi_32 dX12_isWhole_82 ?_
              refine lv_iload_n hx hb dX12_isWhole_83 rfl (lv_at hl 1 rfl) ?_
              refine lv_iconst (v := 1) hx hb dX12_isWhole_84 (by decide) ?_
              refine lv_iadd hx hb dX12_isWhole_85 ?_
              refine lv_aload_n hx hb dX12_isWhole_86 rfl (lv_at hl 2 rfl) ?_
              refine am_get hx hb hts hK hown hH (am_o12 (p := 271) (by decide +kernel)) rfl am_inX12 5 (by decide) am_q1324 (v := .ref (G.1 + 273)) rfl dX12_isWhole_87 ?_
              refine lv_iconst (v := 1) hx hb dX12_isWhole_90 (by decide) ?_
              obtain ⟨hi_33, hf⟩ := am_chk_some hf
              refine am_iald hx hb hK hH (am_ai_of (N := 4) (by decide +kernel)) hi_33 dX12_isWhole_91 ?_
              refine lv_icmp_ge (tgt := 100) hx hb dX12_isWhole_92 (by decide) (fun hc_34 => ?_) (fun hc_34 => ?_)
              · have hf := (if_pos hc_34).symm.trans hf
                refine lv_iconst (v := 1) hx hb dX12_isWhole_100 (by decide) ?_
                exact P101 x2 (1 : Int32) (w.1 274 (((5 : Int32) * x2) + (4 : Int32)).toNatClampNeg) w z1 H locs ls hf hk1 hH (lv_sub hl [2, 4] rfl)
              · have hf := (if_neg hc_34).symm.trans hf
                refine lv_iload hx hb dX12_isWhole_95 (lv_at hl 0 rfl) ?_
                refine lv_goto (tgt := 101) hx hb dX12_isWhole_97 (by decide) ?_
                exact P101 x2 x4_27 (w.1 274 (((5 : Int32) * x2) + (4 : Int32)).toNatClampNeg) w z1 H locs ls hf hk1 hH (lv_sub hl [2, 4] rfl)
  have P12 : ∀ (s0 : Int32) (w : am_S) (H : Heap) (locs : List Loc) (ls : Array Slot), f_X12_isWhole_12 s0 w = some (rr, ww) → am_H G w s H locs → lv_has ls 5 [(0, .ref (G.1 + 271))] → W p l e { frames := 0, cells := 0, slots := 0, locals := 0 } s m [.ref (G.1 + 271)].toArray below meth c H locs 0 0 (MQ below (va_Qi (fun (x : Int32) (u : am_S) => x = rr ∧ u = ww) (am_U G) (am_A G)) [.ref (G.1 + 271)].toArray s 0 0 (am_A G)) (F0 m 12 ls [.int s0]) := by
    intro s0 w H locs ls hf hH hl
    unfold f_X12_isWhole_12 at hf
    refine lv_istore_n (lv' := [(1, .int s0), (0, .ref (G.1 + 271))]) hx hb dX12_isWhole_12 rfl hl (by decide) rfl (fun ls hl => ?_)
    refine lv_iconst (v := 0) hx hb dX12_isWhole_13 (by decide) ?_
    refine lv_istore_n (lv' := [(2, .int (0 : Int32)), (1, .int s0), (0, .ref (G.1 + 271))]) hx hb dX12_isWhole_14 rfl hl (by decide) rfl (fun ls hl => ?_)
    exact P15 am_fuel s0 (0 : Int32) w H locs ls hf hH (lv_sub hl [2, 1, 0] rfl)
  refine am_enter (lv := [(0, .ref (G.1 + 271))]) (Nat.le_of_ble_eq_true rfl) rfl (fun ls hl => ?_)
  unfold f_X12_isWhole at hf
  refine am_start hH (fun H locs hH => ?_)
  refine lv_aload_n hx hb dX12_isWhole_0 rfl (lv_at hl 0 rfl) ?_
  refine am_get hx hb hts hK hown hH (am_o12 (p := 271) (by decide +kernel)) rfl am_inX12 8 (by decide) am_q1327 (v := .int (w.1 271 8)) rfl dX12_isWhole_1 ?_
  refine lv_if_le (tgt := 11) hx hb dX12_isWhole_4 (by decide) (fun hc_35 => ?_) (fun hc_35 => ?_)
  · have hf := (if_pos hc_35).symm.trans hf
    refine lv_iconst (v := 0) hx hb dX12_isWhole_11 (by decide) ?_
    exact P12 (0 : Int32) w H locs ls hf hH (lv_sub hl [0] rfl)
  · have hf := (if_neg hc_35).symm.trans hf
    refine lv_iconst (v := 1) hx hb dX12_isWhole_7 (by decide) ?_
    refine lv_goto (tgt := 12) hx hb dX12_isWhole_8 (by decide) ?_
    exact P12 (1 : Int32) w H locs ls hf hH (lv_sub hl [0] rfl)

def f_X12_itemOf_127 (a0 : Int32) (a1 : Int32) (s0 : Int32) (w : am_S) : Option (Int32 × am_S) :=
  some (s0, w)
def f_X12_itemOf_105 (a0 : Int32) (a1 : Int32) (s0 : Int32) (w : am_S) : Option (Int32 × am_S) :=
  some (s0, w)
def f_X12_itemOf_47 (a0 : Int32) (a1 : Int32) (s0 : Int32) (w : am_S) : Option (Int32 × am_S) :=
  some (s0, w)
def f_X12_itemOf (a0 : Int32) (a1 : Int32) (w : am_S) : Option (Int32 × am_S) :=
  if a0 = (115 : Int32) then (if a1 = (110 : Int32) then (f_X12_itemOf_47 a0 a1 (0 : Int32) w) else (if a1 = (102 : Int32) then (f_X12_itemOf_47 a0 a1 (1 : Int32) w) else (if a1 = (99 : Int32) then (f_X12_itemOf_47 a0 a1 (2 : Int32) w) else (if a1 = (122 : Int32) then (f_X12_itemOf_47 a0 a1 (3 : Int32) w) else (f_X12_itemOf_47 a0 a1 (-1 : Int32) w))))) else (if a0 = (117 : Int32) then (if a1 = (112 : Int32) then (f_X12_itemOf_105 a0 a1 (0 : Int32) w) else (if a1 = (103 : Int32) then (f_X12_itemOf_105 a0 a1 (1 : Int32) w) else (if a1 = (116 : Int32) then (f_X12_itemOf_105 a0 a1 (2 : Int32) w) else (if a1 = (97 : Int32) then (f_X12_itemOf_105 a0 a1 (3 : Int32) w) else (if a1 = (98 : Int32) then (f_X12_itemOf_105 a0 a1 (4 : Int32) w) else (f_X12_itemOf_105 a0 a1 (-1 : Int32) w)))))) else (if a1 = (107 : Int32) then (f_X12_itemOf_127 a0 a1 (0 : Int32) w) else (if a1 = (113 : Int32) then (f_X12_itemOf_127 a0 a1 (1 : Int32) w) else (f_X12_itemOf_127 a0 a1 (-1 : Int32) w))))
set_option maxRecDepth 100000 in
set_option maxHeartbeats 4000000 in
theorem k_X12_itemOf {G : am_G} {l : Launch} {a0 : Int32} {a1 : Int32}  {w : am_S} {rr : Int32} {ww : am_S} (hf : f_X12_itemOf a0 a1 w = some (rr, ww)) : am_Mi G l yX12_itemOf (Cond.code yX12_itemOf cX12_itemOf 2 (some .int) :: am_T) { frames := 0, cells := 0, slots := 0, locals := 0 } [.int a0, .int a1] w rr ww := by
  refine Met.ofW (cc := cX12_itemOf) (maxL := 2) (ret := (some .int)) (by decide) rfl ?_
  intro p e s m args below meth c s₁ B hml hv
  obtain ⟨rfl, hx, hb, hr, hts, hown, hlocks, hK, hE, hH⟩ := am_begin B hv
  have hown : s.vm.findClass RX12 = some m.cls := hown
  show W p l e { frames := 0, cells := 0, slots := 0, locals := 0 } s m _ below meth c s.heap [] 0 0 _ _
  have P127 : ∀ (s0 : Int32) (w : am_S) (H : Heap) (locs : List Loc) (ls : Array Slot), f_X12_itemOf_127 a0 a1 s0 w = some (rr, ww) → am_H G w s H locs → lv_has ls 2 [] → W p l e { frames := 0, cells := 0, slots := 0, locals := 0 } s m [.int a0, .int a1].toArray below meth c H locs 0 0 (MQ below (va_Qi (fun (x : Int32) (u : am_S) => x = rr ∧ u = ww) (am_U G) (am_A G)) [.int a0, .int a1].toArray s 0 0 (am_A G)) (F0 m 127 ls [.int s0]) := by
    intro s0 w H locs ls hf hH hl
    unfold f_X12_itemOf_127 at hf
    exact am_reti hx hb hr hlocks hH hf dX12_itemOf_127
  have P105 : ∀ (s0 : Int32) (w : am_S) (H : Heap) (locs : List Loc) (ls : Array Slot), f_X12_itemOf_105 a0 a1 s0 w = some (rr, ww) → am_H G w s H locs → lv_has ls 2 [] → W p l e { frames := 0, cells := 0, slots := 0, locals := 0 } s m [.int a0, .int a1].toArray below meth c H locs 0 0 (MQ below (va_Qi (fun (x : Int32) (u : am_S) => x = rr ∧ u = ww) (am_U G) (am_A G)) [.int a0, .int a1].toArray s 0 0 (am_A G)) (F0 m 105 ls [.int s0]) := by
    intro s0 w H locs ls hf hH hl
    unfold f_X12_itemOf_105 at hf
    exact am_reti hx hb hr hlocks hH hf dX12_itemOf_105
  have P47 : ∀ (s0 : Int32) (w : am_S) (H : Heap) (locs : List Loc) (ls : Array Slot), f_X12_itemOf_47 a0 a1 s0 w = some (rr, ww) → am_H G w s H locs → lv_has ls 2 [] → W p l e { frames := 0, cells := 0, slots := 0, locals := 0 } s m [.int a0, .int a1].toArray below meth c H locs 0 0 (MQ below (va_Qi (fun (x : Int32) (u : am_S) => x = rr ∧ u = ww) (am_U G) (am_A G)) [.int a0, .int a1].toArray s 0 0 (am_A G)) (F0 m 47 ls [.int s0]) := by
    intro s0 w H locs ls hf hH hl
    unfold f_X12_itemOf_47 at hf
    exact am_reti hx hb hr hlocks hH hf dX12_itemOf_47
  refine am_enter (lv := [(0, .int a0), (1, .int a1)]) (Nat.le_of_ble_eq_true rfl) rfl (fun ls hl => ?_)
  unfold f_X12_itemOf at hf
  refine am_start hH (fun H locs hH => ?_)
  refine lv_iload_n hx hb dX12_itemOf_0 rfl (lv_at hl 0 rfl) ?_
  refine lv_bipush (v := 115) hx hb dX12_itemOf_1 (by decide) ?_
  refine lv_icmp_ne (tgt := 48) hx hb dX12_itemOf_3 (by decide) (fun hc_14 => ?_) (fun hc_14 => ?_)
  · have hf := (if_neg hc_14).symm.trans hf
    refine lv_iload_n hx hb dX12_itemOf_48 rfl (lv_at hl 0 rfl) ?_
    refine lv_bipush (v := 117) hx hb dX12_itemOf_49 (by decide) ?_
    refine lv_icmp_ne (tgt := 106) hx hb dX12_itemOf_51 (by decide) (fun hc_15 => ?_) (fun hc_15 => ?_)
    · have hf := (if_neg hc_15).symm.trans hf
      refine lv_iload_n hx hb dX12_itemOf_106 rfl (lv_at hl 1 rfl) ?_
      refine lv_bipush (v := 107) hx hb dX12_itemOf_107 (by decide) ?_
      refine lv_icmp_ne (tgt := 116) hx hb dX12_itemOf_109 (by decide) (fun hc_16 => ?_) (fun hc_16 => ?_)
      · have hf := (if_neg hc_16).symm.trans hf
        refine lv_iload_n hx hb dX12_itemOf_116 rfl (lv_at hl 1 rfl) ?_
        refine lv_bipush (v := 113) hx hb dX12_itemOf_117 (by decide) ?_
        refine lv_icmp_ne (tgt := 126) hx hb dX12_itemOf_119 (by decide) (fun hc_17 => ?_) (fun hc_17 => ?_)
        · have hf := (if_neg hc_17).symm.trans hf
          refine lv_iconst (v := -1) hx hb dX12_itemOf_126 (by decide) ?_
          exact P127 (-1 : Int32) w H locs ls hf hH (lv_sub hl [] rfl)
        · have hf := (if_pos hc_17).symm.trans hf
          refine lv_iconst (v := 1) hx hb dX12_itemOf_122 (by decide) ?_
          refine lv_goto (tgt := 127) hx hb dX12_itemOf_123 (by decide) ?_
          exact P127 (1 : Int32) w H locs ls hf hH (lv_sub hl [] rfl)
      · have hf := (if_pos hc_16).symm.trans hf
        refine lv_iconst (v := 0) hx hb dX12_itemOf_112 (by decide) ?_
        refine lv_goto (tgt := 127) hx hb dX12_itemOf_113 (by decide) ?_
        exact P127 (0 : Int32) w H locs ls hf hH (lv_sub hl [] rfl)
    · have hf := (if_pos hc_15).symm.trans hf
      refine lv_iload_n hx hb dX12_itemOf_54 rfl (lv_at hl 1 rfl) ?_
      refine lv_bipush (v := 112) hx hb dX12_itemOf_55 (by decide) ?_
      refine lv_icmp_ne (tgt := 64) hx hb dX12_itemOf_57 (by decide) (fun hc_18 => ?_) (fun hc_18 => ?_)
      · have hf := (if_neg hc_18).symm.trans hf
        refine lv_iload_n hx hb dX12_itemOf_64 rfl (lv_at hl 1 rfl) ?_
        refine lv_bipush (v := 103) hx hb dX12_itemOf_65 (by decide) ?_
        refine lv_icmp_ne (tgt := 74) hx hb dX12_itemOf_67 (by decide) (fun hc_19 => ?_) (fun hc_19 => ?_)
        · have hf := (if_neg hc_19).symm.trans hf
          refine lv_iload_n hx hb dX12_itemOf_74 rfl (lv_at hl 1 rfl) ?_
          refine lv_bipush (v := 116) hx hb dX12_itemOf_75 (by decide) ?_
          refine lv_icmp_ne (tgt := 84) hx hb dX12_itemOf_77 (by decide) (fun hc_20 => ?_) (fun hc_20 => ?_)
          · have hf := (if_neg hc_20).symm.trans hf
            refine lv_iload_n hx hb dX12_itemOf_84 rfl (lv_at hl 1 rfl) ?_
            refine lv_bipush (v := 97) hx hb dX12_itemOf_85 (by decide) ?_
            refine lv_icmp_ne (tgt := 94) hx hb dX12_itemOf_87 (by decide) (fun hc_21 => ?_) (fun hc_21 => ?_)
            · have hf := (if_neg hc_21).symm.trans hf
              refine lv_iload_n hx hb dX12_itemOf_94 rfl (lv_at hl 1 rfl) ?_
              refine lv_bipush (v := 98) hx hb dX12_itemOf_95 (by decide) ?_
              refine lv_icmp_ne (tgt := 104) hx hb dX12_itemOf_97 (by decide) (fun hc_22 => ?_) (fun hc_22 => ?_)
              · have hf := (if_neg hc_22).symm.trans hf
                refine lv_iconst (v := -1) hx hb dX12_itemOf_104 (by decide) ?_
                exact P105 (-1 : Int32) w H locs ls hf hH (lv_sub hl [] rfl)
              · have hf := (if_pos hc_22).symm.trans hf
                refine lv_iconst (v := 4) hx hb dX12_itemOf_100 (by decide) ?_
                refine lv_goto (tgt := 105) hx hb dX12_itemOf_101 (by decide) ?_
                exact P105 (4 : Int32) w H locs ls hf hH (lv_sub hl [] rfl)
            · have hf := (if_pos hc_21).symm.trans hf
              refine lv_iconst (v := 3) hx hb dX12_itemOf_90 (by decide) ?_
              refine lv_goto (tgt := 105) hx hb dX12_itemOf_91 (by decide) ?_
              exact P105 (3 : Int32) w H locs ls hf hH (lv_sub hl [] rfl)
          · have hf := (if_pos hc_20).symm.trans hf
            refine lv_iconst (v := 2) hx hb dX12_itemOf_80 (by decide) ?_
            refine lv_goto (tgt := 105) hx hb dX12_itemOf_81 (by decide) ?_
            exact P105 (2 : Int32) w H locs ls hf hH (lv_sub hl [] rfl)
        · have hf := (if_pos hc_19).symm.trans hf
          refine lv_iconst (v := 1) hx hb dX12_itemOf_70 (by decide) ?_
          refine lv_goto (tgt := 105) hx hb dX12_itemOf_71 (by decide) ?_
          exact P105 (1 : Int32) w H locs ls hf hH (lv_sub hl [] rfl)
      · have hf := (if_pos hc_18).symm.trans hf
        refine lv_iconst (v := 0) hx hb dX12_itemOf_60 (by decide) ?_
        refine lv_goto (tgt := 105) hx hb dX12_itemOf_61 (by decide) ?_
        exact P105 (0 : Int32) w H locs ls hf hH (lv_sub hl [] rfl)
  · have hf := (if_pos hc_14).symm.trans hf
    refine lv_iload_n hx hb dX12_itemOf_6 rfl (lv_at hl 1 rfl) ?_
    refine lv_bipush (v := 110) hx hb dX12_itemOf_7 (by decide) ?_
    refine lv_icmp_ne (tgt := 16) hx hb dX12_itemOf_9 (by decide) (fun hc_23 => ?_) (fun hc_23 => ?_)
    · have hf := (if_neg hc_23).symm.trans hf
      refine lv_iload_n hx hb dX12_itemOf_16 rfl (lv_at hl 1 rfl) ?_
      refine lv_bipush (v := 102) hx hb dX12_itemOf_17 (by decide) ?_
      refine lv_icmp_ne (tgt := 26) hx hb dX12_itemOf_19 (by decide) (fun hc_24 => ?_) (fun hc_24 => ?_)
      · have hf := (if_neg hc_24).symm.trans hf
        refine lv_iload_n hx hb dX12_itemOf_26 rfl (lv_at hl 1 rfl) ?_
        refine lv_bipush (v := 99) hx hb dX12_itemOf_27 (by decide) ?_
        refine lv_icmp_ne (tgt := 36) hx hb dX12_itemOf_29 (by decide) (fun hc_25 => ?_) (fun hc_25 => ?_)
        · have hf := (if_neg hc_25).symm.trans hf
          refine lv_iload_n hx hb dX12_itemOf_36 rfl (lv_at hl 1 rfl) ?_
          refine lv_bipush (v := 122) hx hb dX12_itemOf_37 (by decide) ?_
          refine lv_icmp_ne (tgt := 46) hx hb dX12_itemOf_39 (by decide) (fun hc_26 => ?_) (fun hc_26 => ?_)
          · have hf := (if_neg hc_26).symm.trans hf
            refine lv_iconst (v := -1) hx hb dX12_itemOf_46 (by decide) ?_
            exact P47 (-1 : Int32) w H locs ls hf hH (lv_sub hl [] rfl)
          · have hf := (if_pos hc_26).symm.trans hf
            refine lv_iconst (v := 3) hx hb dX12_itemOf_42 (by decide) ?_
            refine lv_goto (tgt := 47) hx hb dX12_itemOf_43 (by decide) ?_
            exact P47 (3 : Int32) w H locs ls hf hH (lv_sub hl [] rfl)
        · have hf := (if_pos hc_25).symm.trans hf
          refine lv_iconst (v := 2) hx hb dX12_itemOf_32 (by decide) ?_
          refine lv_goto (tgt := 47) hx hb dX12_itemOf_33 (by decide) ?_
          exact P47 (2 : Int32) w H locs ls hf hH (lv_sub hl [] rfl)
      · have hf := (if_pos hc_24).symm.trans hf
        refine lv_iconst (v := 1) hx hb dX12_itemOf_22 (by decide) ?_
        refine lv_goto (tgt := 47) hx hb dX12_itemOf_23 (by decide) ?_
        exact P47 (1 : Int32) w H locs ls hf hH (lv_sub hl [] rfl)
    · have hf := (if_pos hc_23).symm.trans hf
      refine lv_iconst (v := 0) hx hb dX12_itemOf_12 (by decide) ?_
      refine lv_goto (tgt := 47) hx hb dX12_itemOf_13 (by decide) ?_
      exact P47 (0 : Int32) w H locs ls hf hH (lv_sub hl [] rfl)

def f_X12_lowest_41 (a0 : Int32) (a1 : Int32) (s0 : Int32) (w : am_S) : Option (Int32 × am_S) :=
  some (s0, w)
def f_X12_lowest_40 (a0 : Int32) (a1 : Int32) (w : am_S) : Option (Int32 × am_S) :=
  f_X12_lowest_41 a0 a1 (1 : Int32) w
def f_X12_lowest_24 (a0 : Int32) (a1 : Int32) (s0 : Int32) (w : am_S) : Option (Int32 × am_S) :=
  some (s0, w)
def f_X12_lowest (a0 : Int32) (a1 : Int32) (w : am_S) : Option (Int32 × am_S) :=
  if a0 = (115 : Int32) then (if a1 = 0 then (f_X12_lowest_24 a0 a1 (2 : Int32) w) else (if a1 = (1 : Int32) then (f_X12_lowest_24 a0 a1 (1 : Int32) w) else (f_X12_lowest_24 a0 a1 (0 : Int32) w))) else (if a0 = (117 : Int32) then (if a1 ≤ (1 : Int32) then (f_X12_lowest_40 a0 a1 w) else (f_X12_lowest_41 a0 a1 (0 : Int32) w)) else (f_X12_lowest_40 a0 a1 w))
set_option maxRecDepth 100000 in
set_option maxHeartbeats 4000000 in
theorem k_X12_lowest {G : am_G} {l : Launch} {a0 : Int32} {a1 : Int32}  {w : am_S} {rr : Int32} {ww : am_S} (hf : f_X12_lowest a0 a1 w = some (rr, ww)) : am_Mi G l yX12_lowest (Cond.code yX12_lowest cX12_lowest 2 (some .int) :: am_T) { frames := 0, cells := 0, slots := 0, locals := 0 } [.int a0, .int a1] w rr ww := by
  refine Met.ofW (cc := cX12_lowest) (maxL := 2) (ret := (some .int)) (by decide) rfl ?_
  intro p e s m args below meth c s₁ B hml hv
  obtain ⟨rfl, hx, hb, hr, hts, hown, hlocks, hK, hE, hH⟩ := am_begin B hv
  have hown : s.vm.findClass RX12 = some m.cls := hown
  show W p l e { frames := 0, cells := 0, slots := 0, locals := 0 } s m _ below meth c s.heap [] 0 0 _ _
  have P41 : ∀ (s0 : Int32) (w : am_S) (H : Heap) (locs : List Loc) (ls : Array Slot), f_X12_lowest_41 a0 a1 s0 w = some (rr, ww) → am_H G w s H locs → lv_has ls 2 [] → W p l e { frames := 0, cells := 0, slots := 0, locals := 0 } s m [.int a0, .int a1].toArray below meth c H locs 0 0 (MQ below (va_Qi (fun (x : Int32) (u : am_S) => x = rr ∧ u = ww) (am_U G) (am_A G)) [.int a0, .int a1].toArray s 0 0 (am_A G)) (F0 m 41 ls [.int s0]) := by
    intro s0 w H locs ls hf hH hl
    unfold f_X12_lowest_41 at hf
    exact am_reti hx hb hr hlocks hH hf dX12_lowest_41
  have P40 : ∀ (w : am_S) (H : Heap) (locs : List Loc) (ls : Array Slot), f_X12_lowest_40 a0 a1 w = some (rr, ww) → am_H G w s H locs → lv_has ls 2 [] → W p l e { frames := 0, cells := 0, slots := 0, locals := 0 } s m [.int a0, .int a1].toArray below meth c H locs 0 0 (MQ below (va_Qi (fun (x : Int32) (u : am_S) => x = rr ∧ u = ww) (am_U G) (am_A G)) [.int a0, .int a1].toArray s 0 0 (am_A G)) (F0 m 40 ls []) := by
    intro w H locs ls hf hH hl
    unfold f_X12_lowest_40 at hf
    refine lv_iconst (v := 1) hx hb dX12_lowest_40 (by decide) ?_
    exact P41 (1 : Int32) w H locs ls hf hH (lv_sub hl [] rfl)
  have P24 : ∀ (s0 : Int32) (w : am_S) (H : Heap) (locs : List Loc) (ls : Array Slot), f_X12_lowest_24 a0 a1 s0 w = some (rr, ww) → am_H G w s H locs → lv_has ls 2 [] → W p l e { frames := 0, cells := 0, slots := 0, locals := 0 } s m [.int a0, .int a1].toArray below meth c H locs 0 0 (MQ below (va_Qi (fun (x : Int32) (u : am_S) => x = rr ∧ u = ww) (am_U G) (am_A G)) [.int a0, .int a1].toArray s 0 0 (am_A G)) (F0 m 24 ls [.int s0]) := by
    intro s0 w H locs ls hf hH hl
    unfold f_X12_lowest_24 at hf
    exact am_reti hx hb hr hlocks hH hf dX12_lowest_24
  refine am_enter (lv := [(0, .int a0), (1, .int a1)]) (Nat.le_of_ble_eq_true rfl) rfl (fun ls hl => ?_)
  unfold f_X12_lowest at hf
  refine am_start hH (fun H locs hH => ?_)
  refine lv_iload_n hx hb dX12_lowest_0 rfl (lv_at hl 0 rfl) ?_
  refine lv_bipush (v := 115) hx hb dX12_lowest_1 (by decide) ?_
  refine lv_icmp_ne (tgt := 25) hx hb dX12_lowest_3 (by decide) (fun hc_6 => ?_) (fun hc_6 => ?_)
  · have hf := (if_neg hc_6).symm.trans hf
    refine lv_iload_n hx hb dX12_lowest_25 rfl (lv_at hl 0 rfl) ?_
    refine lv_bipush (v := 117) hx hb dX12_lowest_26 (by decide) ?_
    refine lv_icmp_ne (tgt := 40) hx hb dX12_lowest_28 (by decide) (fun hc_7 => ?_) (fun hc_7 => ?_)
    · have hf := (if_neg hc_7).symm.trans hf
      exact P40 w H locs ls hf hH (lv_sub hl [] rfl)
    · have hf := (if_pos hc_7).symm.trans hf
      refine lv_iload_n hx hb dX12_lowest_31 rfl (lv_at hl 1 rfl) ?_
      refine lv_iconst (v := 1) hx hb dX12_lowest_32 (by decide) ?_
      refine lv_icmp_le (tgt := 40) hx hb dX12_lowest_33 (by decide) (fun hc_8 => ?_) (fun hc_8 => ?_)
      · have hf := (if_pos hc_8).symm.trans hf
        exact P40 w H locs ls hf hH (lv_sub hl [] rfl)
      · have hf := (if_neg hc_8).symm.trans hf
        refine lv_iconst (v := 0) hx hb dX12_lowest_36 (by decide) ?_
        refine lv_goto (tgt := 41) hx hb dX12_lowest_37 (by decide) ?_
        exact P41 (0 : Int32) w H locs ls hf hH (lv_sub hl [] rfl)
  · have hf := (if_pos hc_6).symm.trans hf
    refine lv_iload_n hx hb dX12_lowest_6 rfl (lv_at hl 1 rfl) ?_
    refine lv_if_ne (tgt := 14) hx hb dX12_lowest_7 (by decide) (fun hc_9 => ?_) (fun hc_9 => ?_)
    · have hf := (if_neg hc_9).symm.trans hf
      refine lv_iload_n hx hb dX12_lowest_14 rfl (lv_at hl 1 rfl) ?_
      refine lv_iconst (v := 1) hx hb dX12_lowest_15 (by decide) ?_
      refine lv_icmp_ne (tgt := 23) hx hb dX12_lowest_16 (by decide) (fun hc_10 => ?_) (fun hc_10 => ?_)
      · have hf := (if_neg hc_10).symm.trans hf
        refine lv_iconst (v := 0) hx hb dX12_lowest_23 (by decide) ?_
        exact P24 (0 : Int32) w H locs ls hf hH (lv_sub hl [] rfl)
      · have hf := (if_pos hc_10).symm.trans hf
        refine lv_iconst (v := 1) hx hb dX12_lowest_19 (by decide) ?_
        refine lv_goto (tgt := 24) hx hb dX12_lowest_20 (by decide) ?_
        exact P24 (1 : Int32) w H locs ls hf hH (lv_sub hl [] rfl)
    · have hf := (if_pos hc_9).symm.trans hf
      refine lv_iconst (v := 2) hx hb dX12_lowest_10 (by decide) ?_
      refine lv_goto (tgt := 24) hx hb dX12_lowest_11 (by decide) ?_
      exact P24 (2 : Int32) w H locs ls hf hH (lv_sub hl [] rfl)

def f_X12_highest_76 (a0 : Int32) (a1 : Int32) (s0 : Int32) (w : am_S) : Option (Int32 × am_S) :=
  some (s0, w)
def f_X12_highest_64 (a0 : Int32) (a1 : Int32) (s0 : Int32) (w : am_S) : Option (Int32 × am_S) :=
  some (s0, w)
def f_X12_highest_26 (a0 : Int32) (a1 : Int32) (s0 : Int32) (w : am_S) : Option (Int32 × am_S) :=
  some (s0, w)
def f_X12_highest (a0 : Int32) (a1 : Int32) (w : am_S) : Option (Int32 × am_S) :=
  if a0 = (115 : Int32) then (if a1 = 0 then (f_X12_highest_26 a0 a1 (12 : Int32) w) else (if a1 = (1 : Int32) then (f_X12_highest_26 a0 a1 (4 : Int32) w) else (f_X12_highest_26 a0 a1 (99 : Int32) w))) else (if a0 = (117 : Int32) then (if a1 = 0 then (f_X12_highest_64 a0 a1 (99 : Int32) w) else (if a1 = (1 : Int32) then (f_X12_highest_64 a0 a1 (9 : Int32) w) else (if a1 = (2 : Int32) then (f_X12_highest_64 a0 a1 (3 : Int32) w) else (f_X12_highest_64 a0 a1 (4095 : Int32) w)))) else (if a1 = 0 then (f_X12_highest_76 a0 a1 (6 : Int32) w) else (f_X12_highest_76 a0 a1 (99 : Int32) w)))
set_option maxRecDepth 100000 in
set_option maxHeartbeats 4000000 in
theorem k_X12_highest {G : am_G} {l : Launch} {a0 : Int32} {a1 : Int32}  {w : am_S} {rr : Int32} {ww : am_S} (hf : f_X12_highest a0 a1 w = some (rr, ww)) : am_Mi G l yX12_highest (Cond.code yX12_highest cX12_highest 2 (some .int) :: am_T) { frames := 0, cells := 0, slots := 0, locals := 0 } [.int a0, .int a1] w rr ww := by
  refine Met.ofW (cc := cX12_highest) (maxL := 2) (ret := (some .int)) (by decide) rfl ?_
  intro p e s m args below meth c s₁ B hml hv
  obtain ⟨rfl, hx, hb, hr, hts, hown, hlocks, hK, hE, hH⟩ := am_begin B hv
  have hown : s.vm.findClass RX12 = some m.cls := hown
  show W p l e { frames := 0, cells := 0, slots := 0, locals := 0 } s m _ below meth c s.heap [] 0 0 _ _
  have P76 : ∀ (s0 : Int32) (w : am_S) (H : Heap) (locs : List Loc) (ls : Array Slot), f_X12_highest_76 a0 a1 s0 w = some (rr, ww) → am_H G w s H locs → lv_has ls 2 [] → W p l e { frames := 0, cells := 0, slots := 0, locals := 0 } s m [.int a0, .int a1].toArray below meth c H locs 0 0 (MQ below (va_Qi (fun (x : Int32) (u : am_S) => x = rr ∧ u = ww) (am_U G) (am_A G)) [.int a0, .int a1].toArray s 0 0 (am_A G)) (F0 m 76 ls [.int s0]) := by
    intro s0 w H locs ls hf hH hl
    unfold f_X12_highest_76 at hf
    exact am_reti hx hb hr hlocks hH hf dX12_highest_76
  have P64 : ∀ (s0 : Int32) (w : am_S) (H : Heap) (locs : List Loc) (ls : Array Slot), f_X12_highest_64 a0 a1 s0 w = some (rr, ww) → am_H G w s H locs → lv_has ls 2 [] → W p l e { frames := 0, cells := 0, slots := 0, locals := 0 } s m [.int a0, .int a1].toArray below meth c H locs 0 0 (MQ below (va_Qi (fun (x : Int32) (u : am_S) => x = rr ∧ u = ww) (am_U G) (am_A G)) [.int a0, .int a1].toArray s 0 0 (am_A G)) (F0 m 64 ls [.int s0]) := by
    intro s0 w H locs ls hf hH hl
    unfold f_X12_highest_64 at hf
    exact am_reti hx hb hr hlocks hH hf dX12_highest_64
  have P26 : ∀ (s0 : Int32) (w : am_S) (H : Heap) (locs : List Loc) (ls : Array Slot), f_X12_highest_26 a0 a1 s0 w = some (rr, ww) → am_H G w s H locs → lv_has ls 2 [] → W p l e { frames := 0, cells := 0, slots := 0, locals := 0 } s m [.int a0, .int a1].toArray below meth c H locs 0 0 (MQ below (va_Qi (fun (x : Int32) (u : am_S) => x = rr ∧ u = ww) (am_U G) (am_A G)) [.int a0, .int a1].toArray s 0 0 (am_A G)) (F0 m 26 ls [.int s0]) := by
    intro s0 w H locs ls hf hH hl
    unfold f_X12_highest_26 at hf
    exact am_reti hx hb hr hlocks hH hf dX12_highest_26
  refine am_enter (lv := [(0, .int a0), (1, .int a1)]) (Nat.le_of_ble_eq_true rfl) rfl (fun ls hl => ?_)
  unfold f_X12_highest at hf
  refine am_start hH (fun H locs hH => ?_)
  refine lv_iload_n hx hb dX12_highest_0 rfl (lv_at hl 0 rfl) ?_
  refine lv_bipush (v := 115) hx hb dX12_highest_1 (by decide) ?_
  refine lv_icmp_ne (tgt := 27) hx hb dX12_highest_3 (by decide) (fun hc_9 => ?_) (fun hc_9 => ?_)
  · have hf := (if_neg hc_9).symm.trans hf
    refine lv_iload_n hx hb dX12_highest_27 rfl (lv_at hl 0 rfl) ?_
    refine lv_bipush (v := 117) hx hb dX12_highest_28 (by decide) ?_
    refine lv_icmp_ne (tgt := 65) hx hb dX12_highest_30 (by decide) (fun hc_10 => ?_) (fun hc_10 => ?_)
    · have hf := (if_neg hc_10).symm.trans hf
      refine lv_iload_n hx hb dX12_highest_65 rfl (lv_at hl 1 rfl) ?_
      refine lv_if_ne (tgt := 74) hx hb dX12_highest_66 (by decide) (fun hc_11 => ?_) (fun hc_11 => ?_)
      · have hf := (if_neg hc_11).symm.trans hf
        refine lv_bipush (v := 99) hx hb dX12_highest_74 (by decide) ?_
        exact P76 (99 : Int32) w H locs ls hf hH (lv_sub hl [] rfl)
      · have hf := (if_pos hc_11).symm.trans hf
        refine lv_bipush (v := 6) hx hb dX12_highest_69 (by decide) ?_
        refine lv_goto (tgt := 76) hx hb dX12_highest_71 (by decide) ?_
        exact P76 (6 : Int32) w H locs ls hf hH (lv_sub hl [] rfl)
    · have hf := (if_pos hc_10).symm.trans hf
      refine lv_iload_n hx hb dX12_highest_33 rfl (lv_at hl 1 rfl) ?_
      refine lv_if_ne (tgt := 42) hx hb dX12_highest_34 (by decide) (fun hc_12 => ?_) (fun hc_12 => ?_)
      · have hf := (if_neg hc_12).symm.trans hf
        refine lv_iload_n hx hb dX12_highest_42 rfl (lv_at hl 1 rfl) ?_
        refine lv_iconst (v := 1) hx hb dX12_highest_43 (by decide) ?_
        refine lv_icmp_ne (tgt := 52) hx hb dX12_highest_44 (by decide) (fun hc_13 => ?_) (fun hc_13 => ?_)
        · have hf := (if_neg hc_13).symm.trans hf
          refine lv_iload_n hx hb dX12_highest_52 rfl (lv_at hl 1 rfl) ?_
          refine lv_iconst (v := 2) hx hb dX12_highest_53 (by decide) ?_
          refine lv_icmp_ne (tgt := 61) hx hb dX12_highest_54 (by decide) (fun hc_14 => ?_) (fun hc_14 => ?_)
          · have hf := (if_neg hc_14).symm.trans hf
            refine lv_sipush (v := 4095) hx hb dX12_highest_61 (by decide) ?_
            exact P64 (4095 : Int32) w H locs ls hf hH (lv_sub hl [] rfl)
          · have hf := (if_pos hc_14).symm.trans hf
            refine lv_iconst (v := 3) hx hb dX12_highest_57 (by decide) ?_
            refine lv_goto (tgt := 64) hx hb dX12_highest_58 (by decide) ?_
            exact P64 (3 : Int32) w H locs ls hf hH (lv_sub hl [] rfl)
        · have hf := (if_pos hc_13).symm.trans hf
          refine lv_bipush (v := 9) hx hb dX12_highest_47 (by decide) ?_
          refine lv_goto (tgt := 64) hx hb dX12_highest_49 (by decide) ?_
          exact P64 (9 : Int32) w H locs ls hf hH (lv_sub hl [] rfl)
      · have hf := (if_pos hc_12).symm.trans hf
        refine lv_bipush (v := 99) hx hb dX12_highest_37 (by decide) ?_
        refine lv_goto (tgt := 64) hx hb dX12_highest_39 (by decide) ?_
        exact P64 (99 : Int32) w H locs ls hf hH (lv_sub hl [] rfl)
  · have hf := (if_pos hc_9).symm.trans hf
    refine lv_iload_n hx hb dX12_highest_6 rfl (lv_at hl 1 rfl) ?_
    refine lv_if_ne (tgt := 15) hx hb dX12_highest_7 (by decide) (fun hc_15 => ?_) (fun hc_15 => ?_)
    · have hf := (if_neg hc_15).symm.trans hf
      refine lv_iload_n hx hb dX12_highest_15 rfl (lv_at hl 1 rfl) ?_
      refine lv_iconst (v := 1) hx hb dX12_highest_16 (by decide) ?_
      refine lv_icmp_ne (tgt := 24) hx hb dX12_highest_17 (by decide) (fun hc_16 => ?_) (fun hc_16 => ?_)
      · have hf := (if_neg hc_16).symm.trans hf
        refine lv_bipush (v := 99) hx hb dX12_highest_24 (by decide) ?_
        exact P26 (99 : Int32) w H locs ls hf hH (lv_sub hl [] rfl)
      · have hf := (if_pos hc_16).symm.trans hf
        refine lv_iconst (v := 4) hx hb dX12_highest_20 (by decide) ?_
        refine lv_goto (tgt := 26) hx hb dX12_highest_21 (by decide) ?_
        exact P26 (4 : Int32) w H locs ls hf hH (lv_sub hl [] rfl)
    · have hf := (if_pos hc_15).symm.trans hf
      refine lv_bipush (v := 12) hx hb dX12_highest_10 (by decide) ?_
      refine lv_goto (tgt := 26) hx hb dX12_highest_12 (by decide) ?_
      exact P26 (12 : Int32) w H locs ls hf hH (lv_sub hl [] rfl)

def f_X12_isDigit_17 (a0 : Int32) (s0 : Int32) (w : am_S) : Option (Int32 × am_S) :=
  am_nar .boolean s0 (some (s0, w))
def f_X12_isDigit_16 (a0 : Int32) (w : am_S) : Option (Int32 × am_S) :=
  f_X12_isDigit_17 a0 (0 : Int32) w
def f_X12_isDigit (a0 : Int32) (w : am_S) : Option (Int32 × am_S) :=
  if a0 < (48 : Int32) then (f_X12_isDigit_16 a0 w) else (if (57 : Int32) < a0 then (f_X12_isDigit_16 a0 w) else (f_X12_isDigit_17 a0 (1 : Int32) w))
set_option maxRecDepth 100000 in
set_option maxHeartbeats 4000000 in
theorem k_X12_isDigit {G : am_G} {l : Launch} {a0 : Int32}  {w : am_S} {rr : Int32} {ww : am_S} (hf : f_X12_isDigit a0 w = some (rr, ww)) : am_Mi G l yX12_isDigit (Cond.code yX12_isDigit cX12_isDigit 1 (some .boolean) :: am_T) { frames := 0, cells := 0, slots := 0, locals := 0 } [.int a0] w rr ww := by
  refine Met.ofW (cc := cX12_isDigit) (maxL := 1) (ret := (some .boolean)) (by decide) rfl ?_
  intro p e s m args below meth c s₁ B hml hv
  obtain ⟨rfl, hx, hb, hr, hts, hown, hlocks, hK, hE, hH⟩ := am_begin B hv
  have hown : s.vm.findClass RX12 = some m.cls := hown
  show W p l e { frames := 0, cells := 0, slots := 0, locals := 0 } s m _ below meth c s.heap [] 0 0 _ _
  have P17 : ∀ (s0 : Int32) (w : am_S) (H : Heap) (locs : List Loc) (ls : Array Slot), f_X12_isDigit_17 a0 s0 w = some (rr, ww) → am_H G w s H locs → lv_has ls 1 [] → W p l e { frames := 0, cells := 0, slots := 0, locals := 0 } s m [.int a0].toArray below meth c H locs 0 0 (MQ below (va_Qi (fun (x : Int32) (u : am_S) => x = rr ∧ u = ww) (am_U G) (am_A G)) [.int a0].toArray s 0 0 (am_A G)) (F0 m 17 ls [.int s0]) := by
    intro s0 w H locs ls hf hH hl
    unfold f_X12_isDigit_17 at hf
    obtain ⟨hr_3, hf⟩ := am_nar_some hf
    exact am_retz hx hb hr hr_3.1 hlocks hH hf dX12_isDigit_17
  have P16 : ∀ (w : am_S) (H : Heap) (locs : List Loc) (ls : Array Slot), f_X12_isDigit_16 a0 w = some (rr, ww) → am_H G w s H locs → lv_has ls 1 [] → W p l e { frames := 0, cells := 0, slots := 0, locals := 0 } s m [.int a0].toArray below meth c H locs 0 0 (MQ below (va_Qi (fun (x : Int32) (u : am_S) => x = rr ∧ u = ww) (am_U G) (am_A G)) [.int a0].toArray s 0 0 (am_A G)) (F0 m 16 ls []) := by
    intro w H locs ls hf hH hl
    unfold f_X12_isDigit_16 at hf
    refine lv_iconst (v := 0) hx hb dX12_isDigit_16 (by decide) ?_
    exact P17 (0 : Int32) w H locs ls hf hH (lv_sub hl [] rfl)
  refine am_enter (lv := [(0, .int a0)]) (Nat.le_of_ble_eq_true rfl) rfl (fun ls hl => ?_)
  unfold f_X12_isDigit at hf
  refine am_start hH (fun H locs hH => ?_)
  refine lv_iload_n hx hb dX12_isDigit_0 rfl (lv_at hl 0 rfl) ?_
  refine lv_bipush (v := 48) hx hb dX12_isDigit_1 (by decide) ?_
  refine lv_icmp_lt (tgt := 16) hx hb dX12_isDigit_3 (by decide) (fun hc_4 => ?_) (fun hc_4 => ?_)
  · have hf := (if_pos hc_4).symm.trans hf
    exact P16 w H locs ls hf hH (lv_sub hl [] rfl)
  · have hf := (if_neg hc_4).symm.trans hf
    refine lv_iload_n hx hb dX12_isDigit_6 rfl (lv_at hl 0 rfl) ?_
    refine lv_bipush (v := 57) hx hb dX12_isDigit_7 (by decide) ?_
    refine lv_icmp_gt (tgt := 16) hx hb dX12_isDigit_9 (by decide) (fun hc_5 => ?_) (fun hc_5 => ?_)
    · have hf := (if_pos hc_5).symm.trans hf
      exact P16 w H locs ls hf hH (lv_sub hl [] rfl)
    · have hf := (if_neg hc_5).symm.trans hf
      refine lv_iconst (v := 1) hx hb dX12_isDigit_12 (by decide) ?_
      refine lv_goto (tgt := 17) hx hb dX12_isDigit_13 (by decide) ?_
      exact P17 (1 : Int32) w H locs ls hf hH (lv_sub hl [] rfl)

def f_X12_number_106 (a1 : Int32) (a2 : Int32) (x3 : Int32) (w : am_S) : Option (Int32 × am_S) :=
  some (x3, w)
def f_X12_number_66 (a1 : Int32) (a2 : Int32) (x3 : Int32) (w : am_S) : Option (Int32 × am_S) :=
  am_b2 (f_X12_here w) fun r_42 w_40 => am_b2 (f_X12_isDigit r_42 w_40) fun r_45 w_43 => if r_45 = 0 then (am_b2 (f_X12_in x3 a1 a2 w_43) fun r_49 w_47 => if r_49 = 0 then (am_v (am_pi w_47 271 3 ((w_47.1 271 3) - (1 : Int32))) fun (w_51 : am_S) => am_b1 (f_X12_bad w_51) fun w_52 => f_X12_number_106 a1 a2 x3 w_52) else (f_X12_number_106 a1 a2 x3 w_47)) else (am_b1 (f_X12_bad w_43) fun w_54 => f_X12_number_106 a1 a2 x3 w_54)
def f_X12_number_21b (a1 : Int32) (a2 : Int32) (x3 : Int32) (x4 : Int32) (w : am_S) : Option ((Int32 × am_S) ⊕ (Int32 × Int32 × am_S)) :=
  if (4 : Int32) ≤ x4 then (am_x (f_X12_number_66 a1 a2 x3 w)) else (am_b2 (f_X12_here w) fun r_60 w_58 => am_b2 (f_X12_isDigit r_60 w_58) fun r_63 w_61 => if r_63 = 0 then (am_x (f_X12_number_66 a1 a2 x3 w_61)) else (am_b2 (f_X12_here w_61) fun r_68 w_66 => am_v ((((10 : Int32) * x3) + r_68) - (48 : Int32)) fun (x3_69 : Int32) => am_v (am_pi w_66 271 3 ((w_66.1 271 3) + (1 : Int32))) fun (w_70 : am_S) => am_v (x4 + (1 : Int32)) fun (x4_71 : Int32) => some (.inr (x3_69, x4_71, w_70))))
def f_X12_number_21 (a1 : Int32) (a2 : Int32) (x3 : Int32) (x4 : Int32) (w : am_S) : Option (Int32 × am_S) :=
  am_loop (fun (st : (Int32 × Int32 × am_S)) => f_X12_number_21b a1 a2 st.1 st.2.1 st.2.2) am_fuel (x3, x4, w)
def f_X12_number (a1 : Int32) (a2 : Int32) (w : am_S) : Option (Int32 × am_S) :=
  am_b2 (f_X12_ahead w) fun r_74 w_72 => am_b2 (f_X12_isDigit r_74 w_72) fun r_77 w_75 => if r_77 = 0 then (am_b1 (f_X12_bad w_75) fun w_79 => some (a1, w_79)) else (f_X12_number_21 a1 a2 (0 : Int32) (0 : Int32) w_75)
set_option maxRecDepth 100000 in
set_option maxHeartbeats 4000000 in
theorem k_X12_number {G : am_G} {l : Launch} {a1 : Int32} {a2 : Int32}  {w : am_S} {rr : Int32} {ww : am_S} (hf : f_X12_number a1 a2 w = some (rr, ww)) : am_Mi G l yX12_number (Cond.code yX12_number cX12_number 5 (some .int) :: am_T) { frames := 2, cells := 0, slots := 0, locals := 128 } [.ref (G.1 + 271), .int a1, .int a2] w rr ww := by
  refine Met.ofW (cc := cX12_number) (maxL := 5) (ret := (some .int)) (by decide) rfl ?_
  intro p e s m args below meth c s₁ B hml hv
  obtain ⟨rfl, hx, hb, hr, hts, hown, hlocks, hK, hE, hH⟩ := am_begin B hv
  have hown : s.vm.findClass RX12 = some m.cls := hown
  show W p l e { frames := 2, cells := 0, slots := 0, locals := 128 } s m _ below meth c s.heap [] 0 0 _ _
  have P106 : ∀ (x3 : Int32) (w : am_S) (H : Heap) (locs : List Loc) (ls : Array Slot), f_X12_number_106 a1 a2 x3 w = some (rr, ww) → am_H G w s H locs → lv_has ls 5 [(3, .int x3)] → W p l e { frames := 2, cells := 0, slots := 0, locals := 128 } s m [.ref (G.1 + 271), .int a1, .int a2].toArray below meth c H locs 0 0 (MQ below (va_Qi (fun (x : Int32) (u : am_S) => x = rr ∧ u = ww) (am_U G) (am_A G)) [.ref (G.1 + 271), .int a1, .int a2].toArray s 0 0 (am_A G)) (F0 m 106 ls []) := by
    intro x3 w H locs ls hf hH hl
    unfold f_X12_number_106 at hf
    refine lv_iload_n hx hb dX12_number_106 rfl (lv_at hl 0 rfl) ?_
    exact am_reti hx hb hr hlocks hH hf dX12_number_107
  have P66 : ∀ (x3 : Int32) (w : am_S) (H : Heap) (locs : List Loc) (ls : Array Slot), f_X12_number_66 a1 a2 x3 w = some (rr, ww) → am_H G w s H locs → lv_has ls 5 [(0, .ref (G.1 + 271)), (1, .int a1), (2, .int a2), (3, .int x3)] → W p l e { frames := 2, cells := 0, slots := 0, locals := 128 } s m [.ref (G.1 + 271), .int a1, .int a2].toArray below meth c H locs 0 0 (MQ below (va_Qi (fun (x : Int32) (u : am_S) => x = rr ∧ u = ww) (am_U G) (am_A G)) [.ref (G.1 + 271), .int a1, .int a2].toArray s 0 0 (am_A G)) (F0 m 66 ls []) := by
    intro x3 w H locs ls hf hH hl
    unfold f_X12_number_66 at hf
    refine lv_aload_n hx hb dX12_number_66 rfl (lv_at hl 0 rfl) ?_
    obtain ⟨r_42, w_40, hq_41, hf⟩ := am_b2_some hf
    refine am_calli (r := r_42) (w' := w_40) (am_runV (n := 0) (As := []) (rest := []) ⟨hx, hb, hml, hown, hts⟩ hK hE hH (k_X12_here hq_41) (am_gV am_q1443 am_q1445 am_qs48 am_q13 am_q1446) (am_o12 (p := 271) (by decide +kernel)) rfl ⟨rfl, rfl⟩ (by decide +kernel) ⟨Nat.le_of_ble_eq_true rfl, Nat.le_of_ble_eq_true rfl⟩ rfl hl.1 rfl (Nat.le_of_ble_eq_true rfl) ⟨Nat.zero_le _, Nat.zero_le _⟩ dX12_number_67) hH (fun H locs hH => ?_)
    obtain ⟨r_45, w_43, hq_44, hf⟩ := am_b2_some hf
    refine am_calli (r := r_45) (w' := w_43) (am_runS (n := 1) (As := [.int r_42]) (rest := []) ⟨hx, hb, hml, hown, hts⟩ hK hE hH (k_X12_isDigit hq_44) (am_gS am_q1467 am_q1468 am_q13 am_q1469) ⟨rfl, rfl⟩ (by decide +kernel) ⟨Nat.le_of_ble_eq_true rfl, Nat.le_of_ble_eq_true rfl⟩ rfl hl.1 rfl (Nat.le_of_ble_eq_true rfl) ⟨Nat.zero_le _, Nat.zero_le _⟩ dX12_number_70) hH (fun H locs hH => ?_)
    refine lv_if_eq (tgt := 83) hx hb dX12_number_73 (by decide) (fun hc_46 => ?_) (fun hc_46 => ?_)
    · have hf := (if_pos hc_46).symm.trans hf
      refine lv_iload_n hx hb dX12_number_83 rfl (lv_at hl 3 rfl) ?_
      refine lv_iload_n hx hb dX12_number_84 rfl (lv_at hl 1 rfl) ?_
      refine lv_iload_n hx hb dX12_number_85 rfl (lv_at hl 2 rfl) ?_
      obtain ⟨r_49, w_47, hq_48, hf⟩ := am_b2_some hf
      refine am_calli (r := r_49) (w' := w_47) (am_runS (n := 3) (As := [.int x3, .int a1, .int a2]) (rest := []) ⟨hx, hb, hml, hown, hts⟩ hK hE hH (k_X12_in hq_48) (am_gS am_q1425 am_q1426 am_q13 am_q1427) ⟨rfl, rfl⟩ (by decide +kernel) ⟨Nat.le_of_ble_eq_true rfl, Nat.le_of_ble_eq_true rfl⟩ rfl hl.1 rfl (Nat.le_of_ble_eq_true rfl) ⟨Nat.zero_le _, Nat.zero_le _⟩ dX12_number_86) hH (fun H locs hH => ?_)
      refine lv_if_ne (tgt := 106) hx hb dX12_number_89 (by decide) (fun hc_50 => ?_) (fun hc_50 => ?_)
      · have hf := (if_neg hc_50).symm.trans hf
        exact P106 x3 w_47 H locs ls hf hH (lv_sub hl [3] rfl)
      · have hf := (if_pos hc_50).symm.trans hf
        refine lv_aload_n hx hb dX12_number_92 rfl (lv_at hl 0 rfl) ?_
        refine lv_dup hx hb dX12_number_93 rfl ?_
        refine am_get hx hb hts hK hown hH (am_o12 (p := 271) (by decide +kernel)) rfl am_inX12 3 (by decide) am_q1322 (v := .int (w_47.1 271 3)) rfl dX12_number_94 ?_
        refine lv_iconst (v := 1) hx hb dX12_number_97 (by decide) ?_
        refine lv_isub hx hb dX12_number_98 ?_
        obtain ⟨w_51, hw_51, hf⟩ := am_v_some hf
        refine am_puti hx hb hts hK hown hH (am_o12 (p := 271) (by decide +kernel)) rfl am_inX12 tyX12 tyX12_ok nmX12 3 (by decide) am_q1322 rfl rfl rfl (fun _ _ => Nat.le_of_ble_eq_true rfl) (fun _ _ _ => rfl) dX12_number_99 (fun H locs hH => ?_)
        rw [← hw_51] at hH
        refine lv_aload_n hx hb dX12_number_102 rfl (lv_at hl 0 rfl) ?_
        obtain ⟨w_52, hq_53, hf⟩ := am_b1_some hf
        refine am_callv (w' := w_52) (am_runV (n := 0) (As := []) (rest := []) ⟨hx, hb, hml, hown, hts⟩ hK hE hH (k_X12_bad hq_53) (am_gV am_q1470 am_q1472 am_qs51 am_q13 am_q1473) (am_o12 (p := 271) (by decide +kernel)) rfl ⟨rfl, rfl⟩ (by decide +kernel) ⟨Nat.le_of_ble_eq_true rfl, Nat.le_of_ble_eq_true rfl⟩ rfl hl.1 rfl (Nat.le_of_ble_eq_true rfl) ⟨Nat.zero_le _, Nat.zero_le _⟩ dX12_number_103) hH (fun H locs hH => ?_)
        exact P106 x3 w_52 H locs ls hf hH (lv_sub hl [3] rfl)
    · have hf := (if_neg hc_46).symm.trans hf
      refine lv_aload_n hx hb dX12_number_76 rfl (lv_at hl 0 rfl) ?_
      obtain ⟨w_54, hq_55, hf⟩ := am_b1_some hf
      refine am_callv (w' := w_54) (am_runV (n := 0) (As := []) (rest := []) ⟨hx, hb, hml, hown, hts⟩ hK hE hH (k_X12_bad hq_55) (am_gV am_q1470 am_q1472 am_qs51 am_q13 am_q1473) (am_o12 (p := 271) (by decide +kernel)) rfl ⟨rfl, rfl⟩ (by decide +kernel) ⟨Nat.le_of_ble_eq_true rfl, Nat.le_of_ble_eq_true rfl⟩ rfl hl.1 rfl (Nat.le_of_ble_eq_true rfl) ⟨Nat.zero_le _, Nat.zero_le _⟩ dX12_number_77) hH (fun H locs hH => ?_)
      refine lv_goto (tgt := 106) hx hb dX12_number_80 (by decide) ?_
      exact P106 x3 w_54 H locs ls hf hH (lv_sub hl [3] rfl)
  have P21 : ∀ (n1 : Nat) (x3 : Int32) (x4 : Int32) (w : am_S) (H : Heap) (locs : List Loc) (ls : Array Slot), am_loop (fun (st : (Int32 × Int32 × am_S)) => f_X12_number_21b a1 a2 st.1 st.2.1 st.2.2) n1 (x3, x4, w) = some (rr, ww) → am_H G w s H locs → lv_has ls 5 [(0, .ref (G.1 + 271)), (1, .int a1), (2, .int a2), (3, .int x3), (4, .int x4)] → W p l e { frames := 2, cells := 0, slots := 0, locals := 128 } s m [.ref (G.1 + 271), .int a1, .int a2].toArray below meth c H locs 0 0 (MQ below (va_Qi (fun (x : Int32) (u : am_S) => x = rr ∧ u = ww) (am_U G) (am_A G)) [.ref (G.1 + 271), .int a1, .int a2].toArray s 0 0 (am_A G)) (F0 m 21 ls []) := by
    intro n1
    induction n1 with
    | zero =>
      intro x3 x4 w H locs ls hf hH hl
      exact (am_loop_zero hf).elim
    | succ n1 ih1 =>
      intro x3 x4 w H locs ls hf hH hl
      obtain ⟨z1, hf, hk1⟩ := am_loop_succ hf
      have hf : f_X12_number_21b a1 a2 x3 x4 w = some z1 := hf
      unfold f_X12_number_21b at hf
      refine lv_iload hx hb dX12_number_21 (lv_at hl 4 rfl) ?_
      refine lv_iconst (v := 4) hx hb dX12_number_23 (by decide) ?_
      refine lv_icmp_ge (tgt := 66) hx hb dX12_number_24 (by decide) (fun hc_56 => ?_) (fun hc_56 => ?_)
      · have hf := (if_pos hc_56).symm.trans hf
        obtain ⟨y_57, hf, hzy_57⟩ := am_x_some hf
        rw [hzy_57] at hk1
        have hf := hf.trans (congrArg some (show y_57 = (rr, ww) from hk1))
        exact P66 x3 w H locs ls hf hH (lv_sub hl [0, 1, 2, 3] rfl)
      · have hf := (if_neg hc_56).symm.trans hf
        refine lv_aload_n hx hb dX12_number_27 rfl (lv_at hl 0 rfl) ?_
        obtain ⟨r_60, w_58, hq_59, hf⟩ := am_b2_some hf
        refine am_calli (r := r_60) (w' := w_58) (am_runV (n := 0) (As := []) (rest := []) ⟨hx, hb, hml, hown, hts⟩ hK hE hH (k_X12_here hq_59) (am_gV am_q1443 am_q1445 am_qs48 am_q13 am_q1446) (am_o12 (p := 271) (by decide +kernel)) rfl ⟨rfl, rfl⟩ (by decide +kernel) ⟨Nat.le_of_ble_eq_true rfl, Nat.le_of_ble_eq_true rfl⟩ rfl hl.1 rfl (Nat.le_of_ble_eq_true rfl) ⟨Nat.zero_le _, Nat.zero_le _⟩ dX12_number_28) hH (fun H locs hH => ?_)
        obtain ⟨r_63, w_61, hq_62, hf⟩ := am_b2_some hf
        refine am_calli (r := r_63) (w' := w_61) (am_runS (n := 1) (As := [.int r_60]) (rest := []) ⟨hx, hb, hml, hown, hts⟩ hK hE hH (k_X12_isDigit hq_62) (am_gS am_q1467 am_q1468 am_q13 am_q1469) ⟨rfl, rfl⟩ (by decide +kernel) ⟨Nat.le_of_ble_eq_true rfl, Nat.le_of_ble_eq_true rfl⟩ rfl hl.1 rfl (Nat.le_of_ble_eq_true rfl) ⟨Nat.zero_le _, Nat.zero_le _⟩ dX12_number_31) hH (fun H locs hH => ?_)
        refine lv_if_eq (tgt := 66) hx hb dX12_number_34 (by decide) (fun hc_64 => ?_) (fun hc_64 => ?_)
        · have hf := (if_pos hc_64).symm.trans hf
          obtain ⟨y_65, hf, hzy_65⟩ := am_x_some hf
          rw [hzy_65] at hk1
          have hf := hf.trans (congrArg some (show y_65 = (rr, ww) from hk1))
          exact P66 x3 w_61 H locs ls hf hH (lv_sub hl [0, 1, 2, 3] rfl)
        · have hf := (if_neg hc_64).symm.trans hf
          refine lv_bipush (v := 10) hx hb dX12_number_37 (by decide) ?_
          refine lv_iload_n hx hb dX12_number_39 rfl (lv_at hl 3 rfl) ?_
          refine lv_imul hx hb dX12_number_40 ?_
          refine lv_aload_n hx hb dX12_number_41 rfl (lv_at hl 0 rfl) ?_
          obtain ⟨r_68, w_66, hq_67, hf⟩ := am_b2_some hf
          refine am_calli (r := r_68) (w' := w_66) (am_runV (n := 0) (As := []) (rest := [.int ((10 : Int32) * x3)]) ⟨hx, hb, hml, hown, hts⟩ hK hE hH (k_X12_here hq_67) (am_gV am_q1443 am_q1445 am_qs48 am_q13 am_q1446) (am_o12 (p := 271) (by decide +kernel)) rfl ⟨rfl, rfl⟩ (by decide +kernel) ⟨Nat.le_of_ble_eq_true rfl, Nat.le_of_ble_eq_true rfl⟩ rfl hl.1 rfl (Nat.le_of_ble_eq_true rfl) ⟨Nat.zero_le _, Nat.zero_le _⟩ dX12_number_42) hH (fun H locs hH => ?_)
          refine lv_iadd hx hb dX12_number_45 ?_
          refine lv_bipush (v := 48) hx hb dX12_number_46 (by decide) ?_
          refine lv_isub hx hb dX12_number_48 ?_
          obtain ⟨x3_69, hx3_69, hf⟩ := am_v_some hf
          refine am_topi hx3_69 ?_
          refine lv_istore_n (lv' := [(3, .int x3_69), (0, .ref (G.1 + 271)), (1, .int a1), (2, .int a2), (4, .int x4)]) hx hb dX12_number_49 rfl hl (by decide) rfl (fun ls hl => ?_)
          refine lv_aload_n hx hb dX12_number_50 rfl (lv_at hl 1 rfl) ?_
          refine lv_dup hx hb dX12_number_51 rfl ?_
          refine am_get hx hb hts hK hown hH (am_o12 (p := 271) (by decide +kernel)) rfl am_inX12 3 (by decide) am_q1322 (v := .int (w_66.1 271 3)) rfl dX12_number_52 ?_
          refine lv_iconst (v := 1) hx hb dX12_number_55 (by decide) ?_
          refine lv_iadd hx hb dX12_number_56 ?_
          obtain ⟨w_70, hw_70, hf⟩ := am_v_some hf
          refine am_puti hx hb hts hK hown hH (am_o12 (p := 271) (by decide +kernel)) rfl am_inX12 tyX12 tyX12_ok nmX12 3 (by decide) am_q1322 rfl rfl rfl (fun _ _ => Nat.le_of_ble_eq_true rfl) (fun _ _ _ => rfl) dX12_number_57 (fun H locs hH => ?_)
          rw [← hw_70] at hH
          obtain ⟨x4_71, hx4_71, hf⟩ := am_v_some hf
          refine lv_iinc (v := x4_71) (lv' := [(4, .int x4_71), (3, .int x3_69), (0, .ref (G.1 + 271)), (1, .int a1), (2, .int a2)]) hx hb dX12_number_60 hl (k := 4) rfl (by rw [hx4_71]; rfl) (by decide) rfl (fun ls hl => ?_)
          refine lv_goto (tgt := 21) hx hb dX12_number_63 (by decide) ?_
          obtain rfl := Option.some.inj hf
          exact ih1 x3_69 x4_71 w_70 H locs ls hk1 hH (lv_sub hl [2, 3, 4, 1, 0] rfl)
  refine am_enter (lv := [(0, .ref (G.1 + 271)), (1, .int a1), (2, .int a2)]) (Nat.le_of_ble_eq_true rfl) rfl (fun ls hl => ?_)
  unfold f_X12_number at hf
  refine am_start hH (fun H locs hH => ?_)
  refine lv_aload_n hx hb dX12_number_0 rfl (lv_at hl 0 rfl) ?_
  obtain ⟨r_74, w_72, hq_73, hf⟩ := am_b2_some hf
  refine am_calli (r := r_74) (w' := w_72) (am_runV (n := 0) (As := []) (rest := []) ⟨hx, hb, hml, hown, hts⟩ hK hE hH (k_X12_ahead hq_73) (am_gV am_q1439 am_q1441 am_qs47 am_q13 am_q1442) (am_o12 (p := 271) (by decide +kernel)) rfl ⟨rfl, rfl⟩ (by decide +kernel) ⟨Nat.le_of_ble_eq_true rfl, Nat.le_of_ble_eq_true rfl⟩ rfl hl.1 rfl (Nat.le_of_ble_eq_true rfl) ⟨Nat.zero_le _, Nat.zero_le _⟩ dX12_number_1) hH (fun H locs hH => ?_)
  obtain ⟨r_77, w_75, hq_76, hf⟩ := am_b2_some hf
  refine am_calli (r := r_77) (w' := w_75) (am_runS (n := 1) (As := [.int r_74]) (rest := []) ⟨hx, hb, hml, hown, hts⟩ hK hE hH (k_X12_isDigit hq_76) (am_gS am_q1467 am_q1468 am_q13 am_q1469) ⟨rfl, rfl⟩ (by decide +kernel) ⟨Nat.le_of_ble_eq_true rfl, Nat.le_of_ble_eq_true rfl⟩ rfl hl.1 rfl (Nat.le_of_ble_eq_true rfl) ⟨Nat.zero_le _, Nat.zero_le _⟩ dX12_number_4) hH (fun H locs hH => ?_)
  refine lv_if_ne (tgt := 16) hx hb dX12_number_7 (by decide) (fun hc_78 => ?_) (fun hc_78 => ?_)
  · have hf := (if_neg hc_78).symm.trans hf
    refine lv_iconst (v := 0) hx hb dX12_number_16 (by decide) ?_
    refine lv_istore_n (lv' := [(3, .int (0 : Int32)), (0, .ref (G.1 + 271)), (1, .int a1), (2, .int a2)]) hx hb dX12_number_17 rfl hl (by decide) rfl (fun ls hl => ?_)
    refine lv_iconst (v := 0) hx hb dX12_number_18 (by decide) ?_
    refine lv_istore (lv' := [(4, .int (0 : Int32)), (3, .int (0 : Int32)), (0, .ref (G.1 + 271)), (1, .int a1), (2, .int a2)]) hx hb dX12_number_19 hl (by decide) rfl (fun ls hl => ?_)
    exact P21 am_fuel (0 : Int32) (0 : Int32) w_75 H locs ls hf hH (lv_sub hl [2, 3, 4, 1, 0] rfl)
  · have hf := (if_pos hc_78).symm.trans hf
    refine lv_aload_n hx hb dX12_number_10 rfl (lv_at hl 0 rfl) ?_
    obtain ⟨w_79, hq_80, hf⟩ := am_b1_some hf
    refine am_callv (w' := w_79) (am_runV (n := 0) (As := []) (rest := []) ⟨hx, hb, hml, hown, hts⟩ hK hE hH (k_X12_bad hq_80) (am_gV am_q1470 am_q1472 am_qs51 am_q13 am_q1473) (am_o12 (p := 271) (by decide +kernel)) rfl ⟨rfl, rfl⟩ (by decide +kernel) ⟨Nat.le_of_ble_eq_true rfl, Nat.le_of_ble_eq_true rfl⟩ rfl hl.1 rfl (Nat.le_of_ble_eq_true rfl) ⟨Nat.zero_le _, Nat.zero_le _⟩ dX12_number_11) hH (fun H locs hH => ?_)
    refine lv_iload_n hx hb dX12_number_14 rfl (lv_at hl 1 rfl) ?_
    exact am_reti hx hb hr hlocks hH hf dX12_number_15

def f_X12_items_131 (a1 : Int32) (p2 : Nat) (m2 : Nat) (a3 : Int32) (a4 : Int32) (w : am_S) : Option am_S :=
  some w
def f_X12_items_126 (a1 : Int32) (p2 : Nat) (m2 : Nat) (a3 : Int32) (a4 : Int32) (x5 : Int32) (s0 : Int32) (w : am_S) : Option (am_S ⊕ (Int32 × Int32 × am_S)) :=
  some (.inr (x5, s0, w))
def f_X12_items_41b (a1 : Int32) (p2 : Nat) (m2 : Nat) (a3 : Int32) (a4 : Int32) (x5 : Int32) (x6 : Int32) (w : am_S) : Option (am_S ⊕ (Int32 × Int32 × am_S)) :=
  if (w.1 271 4) = (-1 : Int32) then (if x6 = (-1 : Int32) then (am_x (f_X12_items_131 a1 p2 m2 a3 a4 w)) else (am_b2 (f_X12_has x5 x6 w) fun r_46 w_44 => if r_46 = 0 then (am_v (x5 ||| ((1 : Int32) <<< (x6 &&& 31))) fun (x5_49 : Int32) => am_v (am_pi w_44 271 3 ((w_44.1 271 3) + (1 : Int32))) fun (w_50 : am_S) => am_b2 (f_X12_lowest a1 x6 w_50) fun r_53 w_51 => am_b2 (f_X12_highest a1 x6 w_51) fun r_56 w_54 => am_b2 (f_X12_number r_53 r_56 w_54) fun r_59 w_57 => am_chk (a3 + x6) m2 (am_v (am_pi w_57 p2 (a3 + x6).toNatClampNeg r_59) fun (w_61 : am_S) => if (w_61.1 271 4) = (-1 : Int32) then (am_b2 (f_X12_ahead w_61) fun r_65 w_63 => am_b2 (f_X12_itemOf a1 r_65 w_63) fun r_68 w_66 => f_X12_items_126 a1 p2 m2 a3 a4 x5_49 r_68 w_66) else (f_X12_items_126 a1 p2 m2 a3 a4 x5_49 (-1 : Int32) w_61))) else (am_x (f_X12_items_131 a1 p2 m2 a3 a4 w_44)))) else (am_x (f_X12_items_131 a1 p2 m2 a3 a4 w))
def f_X12_items_41 (a1 : Int32) (p2 : Nat) (m2 : Nat) (a3 : Int32) (a4 : Int32) (x5 : Int32) (x6 : Int32) (w : am_S) : Option am_S :=
  am_loop (fun (st : (Int32 × Int32 × am_S)) => f_X12_items_41b a1 p2 m2 a3 a4 st.1 st.2.1 st.2.2) am_fuel (x5, x6, w)
def f_X12_items_3b (a1 : Int32) (p2 : Nat) (m2 : Nat) (a3 : Int32) (a4 : Int32) (x5 : Int32) (w : am_S) : Option (am_S ⊕ (Int32 × am_S)) :=
  if a4 ≤ x5 then (am_x (am_b2 (f_X12_ahead w) fun r_73 w_71 => am_b2 (f_X12_itemOf a1 r_73 w_71) fun r_76 w_74 => f_X12_items_41 a1 p2 m2 a3 a4 (0 : Int32) r_76 w_74)) else (am_b2 (f_X12_usual a1 x5 w) fun r_79 w_77 => am_chk (a3 + x5) m2 (am_v (am_pi w_77 p2 (a3 + x5).toNatClampNeg r_79) fun (w_81 : am_S) => am_v (x5 + (1 : Int32)) fun (x5_82 : Int32) => some (.inr (x5_82, w_81))))
def f_X12_items_3 (a1 : Int32) (p2 : Nat) (m2 : Nat) (a3 : Int32) (a4 : Int32) (x5 : Int32) (w : am_S) : Option am_S :=
  am_loop (fun (st : (Int32 × am_S)) => f_X12_items_3b a1 p2 m2 a3 a4 st.1 st.2) am_fuel (x5, w)
def f_X12_items (a1 : Int32) (p2 : Nat) (m2 : Nat) (a3 : Int32) (a4 : Int32) (w : am_S) : Option am_S :=
  f_X12_items_3 a1 p2 m2 a3 a4 (0 : Int32) w
set_option maxRecDepth 100000 in
set_option maxHeartbeats 4000000 in
theorem k_X12_items {G : am_G} {l : Launch} {a1 : Int32} {p2 : Nat} {m2 : Nat} {a3 : Int32} {a4 : Int32} (ha2 : am_ai G p2 m2) {w : am_S} {ww : am_S} (hf : f_X12_items a1 p2 m2 a3 a4 w = some ww) : am_Mv G l yX12_items (Cond.code yX12_items cX12_items 7 none :: am_T) { frames := 3, cells := 0, slots := 0, locals := 192 } [.ref (G.1 + 271), .int a1, .ref (G.1 + p2), .int a3, .int a4] w ww := by
  refine Met.ofW (cc := cX12_items) (maxL := 7) (ret := none) (by decide) rfl ?_
  intro p e s m args below meth c s₁ B hml hv
  obtain ⟨rfl, hx, hb, hr, hts, hown, hlocks, hK, hE, hH⟩ := am_begin B hv
  have hown : s.vm.findClass RX12 = some m.cls := hown
  show W p l e { frames := 3, cells := 0, slots := 0, locals := 192 } s m _ below meth c s.heap [] 0 0 _ _
  have P131 : ∀ (w : am_S) (H : Heap) (locs : List Loc) (ls : Array Slot), f_X12_items_131 a1 p2 m2 a3 a4 w = some ww → am_H G w s H locs → lv_has ls 7 [] → W p l e { frames := 3, cells := 0, slots := 0, locals := 192 } s m [.ref (G.1 + 271), .int a1, .ref (G.1 + p2), .int a3, .int a4].toArray below meth c H locs 0 0 (MQ below (va_Qv (fun (u : am_S) => u = ww) (am_U G) (am_A G)) [.ref (G.1 + 271), .int a1, .ref (G.1 + p2), .int a3, .int a4].toArray s 0 0 (am_A G)) (F0 m 131 ls []) := by
    intro w H locs ls hf hH hl
    unfold f_X12_items_131 at hf
    exact am_retv hx hb hr hlocks hH hf dX12_items_131
  have P41 : ∀ (n1 : Nat) (x5 : Int32) (x6 : Int32) (w : am_S) (H : Heap) (locs : List Loc) (ls : Array Slot), am_loop (fun (st : (Int32 × Int32 × am_S)) => f_X12_items_41b a1 p2 m2 a3 a4 st.1 st.2.1 st.2.2) n1 (x5, x6, w) = some ww → am_H G w s H locs → lv_has ls 7 [(0, .ref (G.1 + 271)), (1, .int a1), (2, .ref (G.1 + p2)), (3, .int a3), (5, .int x5), (6, .int x6)] → W p l e { frames := 3, cells := 0, slots := 0, locals := 192 } s m [.ref (G.1 + 271), .int a1, .ref (G.1 + p2), .int a3, .int a4].toArray below meth c H locs 0 0 (MQ below (va_Qv (fun (u : am_S) => u = ww) (am_U G) (am_A G)) [.ref (G.1 + 271), .int a1, .ref (G.1 + p2), .int a3, .int a4].toArray s 0 0 (am_A G)) (F0 m 41 ls []) := by
    intro n1
    induction n1 with
    | zero =>
      intro x5 x6 w H locs ls hf hH hl
      exact (am_loop_zero hf).elim
    | succ n1 ih1 =>
      intro x5 x6 w H locs ls hf hH hl
      obtain ⟨z1, hf, hk1⟩ := am_loop_succ hf
      have hf : f_X12_items_41b a1 p2 m2 a3 a4 x5 x6 w = some z1 := hf
      have P126 : ∀ (x5 : Int32) (s0 : Int32) (w : am_S) (z1 : (am_S ⊕ (Int32 × Int32 × am_S))) (H : Heap) (locs : List Loc) (ls : Array Slot), f_X12_items_126 a1 p2 m2 a3 a4 x5 s0 w = some z1 → am_lk (fun (st : (Int32 × Int32 × am_S)) => f_X12_items_41b a1 p2 m2 a3 a4 st.1 st.2.1 st.2.2) n1 ww z1 → am_H G w s H locs → lv_has ls 7 [(0, .ref (G.1 + 271)), (1, .int a1), (2, .ref (G.1 + p2)), (3, .int a3), (5, .int x5)] → W p l e { frames := 3, cells := 0, slots := 0, locals := 192 } s m [.ref (G.1 + 271), .int a1, .ref (G.1 + p2), .int a3, .int a4].toArray below meth c H locs 0 0 (MQ below (va_Qv (fun (u : am_S) => u = ww) (am_U G) (am_A G)) [.ref (G.1 + 271), .int a1, .ref (G.1 + p2), .int a3, .int a4].toArray s 0 0 (am_A G)) (F0 m 126 ls [.int s0]) := by
        intro x5 s0 w z1 H locs ls hf hk1 hH hl
        unfold f_X12_items_126 at hf
        refine lv_istore (lv' := [(6, .int s0), (0, .ref (G.1 + 271)), (1, .int a1), (2, .ref (G.1 + p2)), (3, .int a3), (5, .int x5)]) hx hb dX12_items_126 hl (by decide) rfl (fun ls hl => ?_)
        refine lv_goto (tgt := 41) hx hb dX12_items_128 (by decide) ?_
        obtain rfl := Option.some.inj hf
        exact ih1 x5 s0 w H locs ls hk1 hH (lv_sub hl [1, 2, 3, 4, 5, 0] rfl)
      unfold f_X12_items_41b at hf
      refine lv_aload_n hx hb dX12_items_41 rfl (lv_at hl 0 rfl) ?_
      refine am_get hx hb hts hK hown hH (am_o12 (p := 271) (by decide +kernel)) rfl am_inX12 4 (by decide) am_q1323 (v := .int (w.1 271 4)) rfl dX12_items_42 ?_
      refine lv_iconst (v := -1) hx hb dX12_items_45 (by decide) ?_
      refine lv_icmp_ne (tgt := 131) hx hb dX12_items_46 (by decide) (fun hc_40 => ?_) (fun hc_40 => ?_)
      · have hf := (if_neg hc_40).symm.trans hf
        obtain ⟨y_41, hf, hzy_41⟩ := am_x_some hf
        rw [hzy_41] at hk1
        have hf := hf.trans (congrArg some (show y_41 = ww from hk1))
        exact P131 w H locs ls hf hH (lv_sub hl [] rfl)
      · have hf := (if_pos hc_40).symm.trans hf
        refine lv_iload hx hb dX12_items_49 (lv_at hl 5 rfl) ?_
        refine lv_iconst (v := -1) hx hb dX12_items_51 (by decide) ?_
        refine lv_icmp_eq (tgt := 131) hx hb dX12_items_52 (by decide) (fun hc_42 => ?_) (fun hc_42 => ?_)
        · have hf := (if_pos hc_42).symm.trans hf
          obtain ⟨y_43, hf, hzy_43⟩ := am_x_some hf
          rw [hzy_43] at hk1
          have hf := hf.trans (congrArg some (show y_43 = ww from hk1))
          exact P131 w H locs ls hf hH (lv_sub hl [] rfl)
        · have hf := (if_neg hc_42).symm.trans hf
          refine lv_iload hx hb dX12_items_55 (lv_at hl 4 rfl) ?_
          refine lv_iload hx hb dX12_items_57 (lv_at hl 5 rfl) ?_
          obtain ⟨r_46, w_44, hq_45, hf⟩ := am_b2_some hf
          refine am_calli (r := r_46) (w' := w_44) (am_runS (n := 2) (As := [.int x5, .int x6]) (rest := []) ⟨hx, hb, hml, hown, hts⟩ hK hE hH (k_X12_has hq_45) (am_gS am_q1454 am_q1455 am_q13 am_q1456) ⟨rfl, rfl⟩ (by decide +kernel) ⟨Nat.le_of_ble_eq_true rfl, Nat.le_of_ble_eq_true rfl⟩ rfl hl.1 rfl (Nat.le_of_ble_eq_true rfl) ⟨Nat.zero_le _, Nat.zero_le _⟩ dX12_items_59) hH (fun H locs hH => ?_)
          refine lv_if_ne (tgt := 131) hx hb dX12_items_62 (by decide) (fun hc_47 => ?_) (fun hc_47 => ?_)
          · have hf := (if_neg hc_47).symm.trans hf
            obtain ⟨y_48, hf, hzy_48⟩ := am_x_some hf
            rw [hzy_48] at hk1
            have hf := hf.trans (congrArg some (show y_48 = ww from hk1))
            exact P131 w_44 H locs ls hf hH (lv_sub hl [] rfl)
          · have hf := (if_pos hc_47).symm.trans hf
            refine lv_iload hx hb dX12_items_65 (lv_at hl 4 rfl) ?_
            refine lv_iconst (v := 1) hx hb dX12_items_67 (by decide) ?_
            refine lv_iload hx hb dX12_items_68 (lv_at hl 5 rfl) ?_
            refine lv_ishl hx hb dX12_items_70 ?_
            refine lv_ior hx hb dX12_items_71 ?_
            obtain ⟨x5_49, hx5_49, hf⟩ := am_v_some hf
            refine am_topi hx5_49 ?_
            refine lv_istore (lv' := [(5, .int x5_49), (0, .ref (G.1 + 271)), (1, .int a1), (2, .ref (G.1 + p2)), (3, .int a3), (6, .int x6)]) hx hb dX12_items_72 hl (by decide) rfl (fun ls hl => ?_)
            refine lv_aload_n hx hb dX12_items_74 rfl (lv_at hl 1 rfl) ?_
            refine lv_dup hx hb dX12_items_75 rfl ?_
            refine am_get hx hb hts hK hown hH (am_o12 (p := 271) (by decide +kernel)) rfl am_inX12 3 (by decide) am_q1322 (v := .int (w_44.1 271 3)) rfl dX12_items_76 ?_
            refine lv_iconst (v := 1) hx hb dX12_items_79 (by decide) ?_
            refine lv_iadd hx hb dX12_items_80 ?_
            obtain ⟨w_50, hw_50, hf⟩ := am_v_some hf
            refine am_puti hx hb hts hK hown hH (am_o12 (p := 271) (by decide +kernel)) rfl am_inX12 tyX12 tyX12_ok nmX12 3 (by decide) am_q1322 rfl rfl rfl (fun _ _ => Nat.le_of_ble_eq_true rfl) (fun _ _ _ => rfl) dX12_items_81 (fun H locs hH => ?_)
            rw [← hw_50] at hH
            refine lv_aload_n hx hb dX12_items_84 rfl (lv_at hl 3 rfl) ?_
            refine lv_iload_n hx hb dX12_items_85 rfl (lv_at hl 4 rfl) ?_
            refine lv_iload hx hb dX12_items_86 (lv_at hl 5 rfl) ?_
            refine lv_iadd hx hb dX12_items_88 ?_
            refine lv_aload_n hx hb dX12_items_89 rfl (lv_at hl 1 rfl) ?_
            refine lv_iload_n hx hb dX12_items_90 rfl (lv_at hl 2 rfl) ?_
            refine lv_iload hx hb dX12_items_91 (lv_at hl 5 rfl) ?_
            obtain ⟨r_53, w_51, hq_52, hf⟩ := am_b2_some hf
            refine am_calli (r := r_53) (w' := w_51) (am_runS (n := 2) (As := [.int a1, .int x6]) (rest := [.ref (G.1 + 271), .int (a3 + x6), .ref (G.1 + p2)]) ⟨hx, hb, hml, hown, hts⟩ hK hE hH (k_X12_lowest hq_52) (am_gS am_q1457 am_q1458 am_q13 am_q1459) ⟨rfl, rfl⟩ (by decide +kernel) ⟨Nat.le_of_ble_eq_true rfl, Nat.le_of_ble_eq_true rfl⟩ rfl hl.1 rfl (Nat.le_of_ble_eq_true rfl) ⟨Nat.zero_le _, Nat.zero_le _⟩ dX12_items_93) hH (fun H locs hH => ?_)
            refine lv_iload_n hx hb dX12_items_96 rfl (lv_at hl 2 rfl) ?_
            refine lv_iload hx hb dX12_items_97 (lv_at hl 5 rfl) ?_
            obtain ⟨r_56, w_54, hq_55, hf⟩ := am_b2_some hf
            refine am_calli (r := r_56) (w' := w_54) (am_runS (n := 2) (As := [.int a1, .int x6]) (rest := [.int r_53, .ref (G.1 + 271), .int (a3 + x6), .ref (G.1 + p2)]) ⟨hx, hb, hml, hown, hts⟩ hK hE hH (k_X12_highest hq_55) (am_gS am_q1460 am_q1461 am_q13 am_q1462) ⟨rfl, rfl⟩ (by decide +kernel) ⟨Nat.le_of_ble_eq_true rfl, Nat.le_of_ble_eq_true rfl⟩ rfl hl.1 rfl (Nat.le_of_ble_eq_true rfl) ⟨Nat.zero_le _, Nat.zero_le _⟩ dX12_items_99) hH (fun H locs hH => ?_)
            obtain ⟨r_59, w_57, hq_58, hf⟩ := am_b2_some hf
            refine am_calli (r := r_59) (w' := w_57) (am_runV (n := 2) (As := [.int r_53, .int r_56]) (rest := [.int (a3 + x6), .ref (G.1 + p2)]) ⟨hx, hb, hml, hown, hts⟩ hK hE hH (k_X12_number hq_58) (am_gV am_q1463 am_q1465 am_qs50 am_q13 am_q1466) (am_o12 (p := 271) (by decide +kernel)) rfl ⟨rfl, rfl⟩ (by decide +kernel) ⟨Nat.le_of_ble_eq_true rfl, Nat.le_of_ble_eq_true rfl⟩ rfl hl.1 rfl (Nat.le_of_ble_eq_true rfl) ⟨Nat.zero_le _, Nat.zero_le _⟩ dX12_items_102) hH (fun H locs hH => ?_)
            obtain ⟨hi_60, hf⟩ := am_chk_some hf
            obtain ⟨w_61, hw_61, hf⟩ := am_v_some hf
            refine am_iast hx hb hK hH ha2 hi_60 dX12_items_105 (fun H locs hH => ?_)
            rw [← hw_61] at hH
            refine lv_aload_n hx hb dX12_items_106 rfl (lv_at hl 1 rfl) ?_
            refine am_get hx hb hts hK hown hH (am_o12 (p := 271) (by decide +kernel)) rfl am_inX12 4 (by decide) am_q1323 (v := .int (w_61.1 271 4)) rfl dX12_items_107 ?_
            refine lv_iconst (v := -1) hx hb dX12_items_110 (by decide) ?_
            refine lv_icmp_ne (tgt := 125) hx hb dX12_items_111 (by decide) (fun hc_62 => ?_) (fun hc_62 => ?_)
            · have hf := (if_neg hc_62).symm.trans hf
              refine lv_iconst (v := -1) hx hb dX12_items_125 (by decide) ?_
              exact P126 x5_49 (-1 : Int32) w_61 z1 H locs ls hf hk1 hH (lv_sub hl [1, 2, 3, 4, 0] rfl)
            · have hf := (if_pos hc_62).symm.trans hf
              refine lv_iload_n hx hb dX12_items_114 rfl (lv_at hl 2 rfl) ?_
              refine lv_aload_n hx hb dX12_items_115 rfl (lv_at hl 1 rfl) ?_
              obtain ⟨r_65, w_63, hq_64, hf⟩ := am_b2_some hf
              refine am_calli (r := r_65) (w' := w_63) (am_runV (n := 0) (As := []) (rest := [.int a1]) ⟨hx, hb, hml, hown, hts⟩ hK hE hH (k_X12_ahead hq_64) (am_gV am_q1439 am_q1441 am_qs47 am_q13 am_q1442) (am_o12 (p := 271) (by decide +kernel)) rfl ⟨rfl, rfl⟩ (by decide +kernel) ⟨Nat.le_of_ble_eq_true rfl, Nat.le_of_ble_eq_true rfl⟩ rfl hl.1 rfl (Nat.le_of_ble_eq_true rfl) ⟨Nat.zero_le _, Nat.zero_le _⟩ dX12_items_116) hH (fun H locs hH => ?_)
              obtain ⟨r_68, w_66, hq_67, hf⟩ := am_b2_some hf
              refine am_calli (r := r_68) (w' := w_66) (am_runS (n := 2) (As := [.int a1, .int r_65]) (rest := []) ⟨hx, hb, hml, hown, hts⟩ hK hE hH (k_X12_itemOf hq_67) (am_gS am_q1451 am_q1452 am_q13 am_q1453) ⟨rfl, rfl⟩ (by decide +kernel) ⟨Nat.le_of_ble_eq_true rfl, Nat.le_of_ble_eq_true rfl⟩ rfl hl.1 rfl (Nat.le_of_ble_eq_true rfl) ⟨Nat.zero_le _, Nat.zero_le _⟩ dX12_items_119) hH (fun H locs hH => ?_)
              refine lv_goto (tgt := 126) hx hb dX12_items_122 (by decide) ?_
              exact P126 x5_49 r_68 w_66 z1 H locs ls hf hk1 hH (lv_sub hl [1, 2, 3, 4, 0] rfl)
  have P3 : ∀ (n1 : Nat) (x5 : Int32) (w : am_S) (H : Heap) (locs : List Loc) (ls : Array Slot), am_loop (fun (st : (Int32 × am_S)) => f_X12_items_3b a1 p2 m2 a3 a4 st.1 st.2) n1 (x5, w) = some ww → am_H G w s H locs → lv_has ls 7 [(0, .ref (G.1 + 271)), (1, .int a1), (2, .ref (G.1 + p2)), (3, .int a3), (4, .int a4), (5, .int x5)] → W p l e { frames := 3, cells := 0, slots := 0, locals := 192 } s m [.ref (G.1 + 271), .int a1, .ref (G.1 + p2), .int a3, .int a4].toArray below meth c H locs 0 0 (MQ below (va_Qv (fun (u : am_S) => u = ww) (am_U G) (am_A G)) [.ref (G.1 + 271), .int a1, .ref (G.1 + p2), .int a3, .int a4].toArray s 0 0 (am_A G)) (F0 m 3 ls []) := by
    intro n1
    induction n1 with
    | zero =>
      intro x5 w H locs ls hf hH hl
      exact (am_loop_zero hf).elim
    | succ n1 ih1 =>
      intro x5 w H locs ls hf hH hl
      obtain ⟨z1, hf, hk1⟩ := am_loop_succ hf
      have hf : f_X12_items_3b a1 p2 m2 a3 a4 x5 w = some z1 := hf
      unfold f_X12_items_3b at hf
      refine lv_iload hx hb dX12_items_3 (lv_at hl 5 rfl) ?_
      refine lv_iload hx hb dX12_items_5 (lv_at hl 4 rfl) ?_
      refine lv_icmp_ge (tgt := 28) hx hb dX12_items_7 (by decide) (fun hc_69 => ?_) (fun hc_69 => ?_)
      · have hf := (if_pos hc_69).symm.trans hf
        obtain ⟨y_70, hf, hzy_70⟩ := am_x_some hf
        rw [hzy_70] at hk1
        have hf := hf.trans (congrArg some (show y_70 = ww from hk1))
        refine lv_iconst (v := 0) hx hb dX12_items_28 (by decide) ?_
        refine lv_istore (lv' := [(5, .int (0 : Int32)), (0, .ref (G.1 + 271)), (1, .int a1), (2, .ref (G.1 + p2)), (3, .int a3), (4, .int a4)]) hx hb dX12_items_29 hl (by decide) rfl (fun ls hl => ?_)
        refine lv_iload_n hx hb dX12_items_31 rfl (lv_at hl 2 rfl) ?_
        refine lv_aload_n hx hb dX12_items_32 rfl (lv_at hl 1 rfl) ?_
        obtain ⟨r_73, w_71, hq_72, hf⟩ := am_b2_some hf
        refine am_calli (r := r_73) (w' := w_71) (am_runV (n := 0) (As := []) (rest := [.int a1]) ⟨hx, hb, hml, hown, hts⟩ hK hE hH (k_X12_ahead hq_72) (am_gV am_q1439 am_q1441 am_qs47 am_q13 am_q1442) (am_o12 (p := 271) (by decide +kernel)) rfl ⟨rfl, rfl⟩ (by decide +kernel) ⟨Nat.le_of_ble_eq_true rfl, Nat.le_of_ble_eq_true rfl⟩ rfl hl.1 rfl (Nat.le_of_ble_eq_true rfl) ⟨Nat.zero_le _, Nat.zero_le _⟩ dX12_items_33) hH (fun H locs hH => ?_)
        obtain ⟨r_76, w_74, hq_75, hf⟩ := am_b2_some hf
        refine am_calli (r := r_76) (w' := w_74) (am_runS (n := 2) (As := [.int a1, .int r_73]) (rest := []) ⟨hx, hb, hml, hown, hts⟩ hK hE hH (k_X12_itemOf hq_75) (am_gS am_q1451 am_q1452 am_q13 am_q1453) ⟨rfl, rfl⟩ (by decide +kernel) ⟨Nat.le_of_ble_eq_true rfl, Nat.le_of_ble_eq_true rfl⟩ rfl hl.1 rfl (Nat.le_of_ble_eq_true rfl) ⟨Nat.zero_le _, Nat.zero_le _⟩ dX12_items_36) hH (fun H locs hH => ?_)
        refine lv_istore (lv' := [(6, .int r_76), (5, .int (0 : Int32)), (0, .ref (G.1 + 271)), (1, .int a1), (2, .ref (G.1 + p2)), (3, .int a3), (4, .int a4)]) hx hb dX12_items_39 hl (by decide) rfl (fun ls hl => ?_)
        exact P41 am_fuel (0 : Int32) r_76 w_74 H locs ls hf hH (lv_sub hl [2, 3, 4, 5, 1, 0] rfl)
      · have hf := (if_neg hc_69).symm.trans hf
        refine lv_aload_n hx hb dX12_items_10 rfl (lv_at hl 2 rfl) ?_
        refine lv_iload_n hx hb dX12_items_11 rfl (lv_at hl 3 rfl) ?_
        refine lv_iload hx hb dX12_items_12 (lv_at hl 5 rfl) ?_
        refine lv_iadd hx hb dX12_items_14 ?_
        refine lv_iload_n hx hb dX12_items_15 rfl (lv_at hl 1 rfl) ?_
        refine lv_iload hx hb dX12_items_16 (lv_at hl 5 rfl) ?_
        obtain ⟨r_79, w_77, hq_78, hf⟩ := am_b2_some hf
        refine am_calli (r := r_79) (w' := w_77) (am_runS (n := 2) (As := [.int a1, .int x5]) (rest := [.int (a3 + x5), .ref (G.1 + p2)]) ⟨hx, hb, hml, hown, hts⟩ hK hE hH (k_X12_usual hq_78) (am_gS am_q1436 am_q1437 am_q13 am_q1438) ⟨rfl, rfl⟩ (by decide +kernel) ⟨Nat.le_of_ble_eq_true rfl, Nat.le_of_ble_eq_true rfl⟩ rfl hl.1 rfl (Nat.le_of_ble_eq_true rfl) ⟨Nat.zero_le _, Nat.zero_le _⟩ dX12_items_18) hH (fun H locs hH => ?_)
        obtain ⟨hi_80, hf⟩ := am_chk_some hf
        obtain ⟨w_81, hw_81, hf⟩ := am_v_some hf
        refine am_iast hx hb hK hH ha2 hi_80 dX12_items_21 (fun H locs hH => ?_)
        rw [← hw_81] at hH
        obtain ⟨x5_82, hx5_82, hf⟩ := am_v_some hf
        refine lv_iinc (v := x5_82) (lv' := [(5, .int x5_82), (0, .ref (G.1 + 271)), (1, .int a1), (2, .ref (G.1 + p2)), (3, .int a3), (4, .int a4)]) hx hb dX12_items_22 hl (k := 5) rfl (by rw [hx5_82]; rfl) (by decide) rfl (fun ls hl => ?_)
        refine lv_goto (tgt := 3) hx hb dX12_items_25 (by decide) ?_
        obtain rfl := Option.some.inj hf
        exact ih1 x5_82 w_81 H locs ls hk1 hH (lv_sub hl [1, 2, 3, 4, 5, 0] rfl)
  refine am_enter (lv := [(0, .ref (G.1 + 271)), (1, .int a1), (2, .ref (G.1 + p2)), (3, .int a3), (4, .int a4)]) (Nat.le_of_ble_eq_true rfl) rfl (fun ls hl => ?_)
  unfold f_X12_items at hf
  refine am_start hH (fun H locs hH => ?_)
  refine lv_iconst (v := 0) hx hb dX12_items_0 (by decide) ?_
  refine lv_istore (lv' := [(5, .int (0 : Int32)), (0, .ref (G.1 + 271)), (1, .int a1), (2, .ref (G.1 + p2)), (3, .int a3), (4, .int a4)]) hx hb dX12_items_1 hl (by decide) rfl (fun ls hl => ?_)
  exact P3 am_fuel (0 : Int32) w H locs ls hf hH (lv_sub hl [1, 2, 3, 4, 5, 0] rfl)

def f_X12_readField_285  (w : am_S) : Option (Int32 × am_S) :=
  some (w.1 271 4, w)
def f_X12_readField_281  (w : am_S) : Option (Int32 × am_S) :=
  am_b1 (f_X12_bad w) fun w_54 => f_X12_readField_285 w_54
def f_X12_readField_258  (w : am_S) : Option (Int32 × am_S) :=
  if (w.1 271 4) = (-1 : Int32) then (am_b2 (f_X12_ahead w) fun r_59 w_57 => if r_59 = (-1 : Int32) then (am_b2 (f_X12_isWhole w_57) fun r_63 w_61 => if r_63 = 0 then (f_X12_readField_281 w_61) else (f_X12_readField_285 w_61)) else (f_X12_readField_281 w_57)) else (f_X12_readField_285 w)
def f_X12_readField_251  (x1 : Int32) (x2 : Int32) (s0 : Int32) (s1 : Int32) (w : am_S) : Option ((Int32 × am_S) ⊕ (Int32 × Int32 × am_S)) :=
  am_v (am_pi w 271 3 (s1 + s0)) fun (w_65 : am_S) => some (.inr (x1, x2, w_65))
def f_X12_readField_236  (x1 : Int32) (s0 : Int32) (w : am_S) : Option ((Int32 × am_S) ⊕ (Int32 × Int32 × am_S)) :=
  if s0 = 0 then (f_X12_readField_251 x1 s0 (0 : Int32) (w.1 271 3) w) else (f_X12_readField_251 x1 s0 (1 : Int32) (w.1 271 3) w)
def f_X12_readField_235  (x1 : Int32) (w : am_S) : Option ((Int32 × am_S) ⊕ (Int32 × Int32 × am_S)) :=
  f_X12_readField_236 x1 (0 : Int32) w
def f_X12_readField_214  (x1 : Int32) (w : am_S) : Option ((Int32 × am_S) ⊕ (Int32 × Int32 × am_S)) :=
  if (w.1 271 4) = (-1 : Int32) then (am_b2 (f_X12_ahead w) fun r_70 w_68 => if r_70 = (59 : Int32) then (f_X12_readField_236 x1 (1 : Int32) w_68) else (f_X12_readField_235 x1 w_68)) else (f_X12_readField_235 x1 w)
def f_X12_readField_210  (x1 : Int32) (w : am_S) : Option ((Int32 × am_S) ⊕ (Int32 × Int32 × am_S)) :=
  am_b1 (f_X12_bad w) fun w_72 => f_X12_readField_214 x1 w_72
def f_X12_readField_156  (x1 : Int32) (x3 : Int32) (w : am_S) : Option ((Int32 × am_S) ⊕ (Int32 × Int32 × am_S)) :=
  if x3 = (100 : Int32) then (if (6 : Int32) ≤ (w.1 271 9) then (f_X12_readField_210 x1 w) else (am_v (am_pi w 271 3 ((w.1 271 3) + (1 : Int32))) fun (w_76 : am_S) => am_b1 (f_X12_items x3 275 12 ((2 : Int32) * (w_76.1 271 9)) (2 : Int32) w_76) fun w_77 => am_v (am_pi w_77 271 9 ((w_77.1 271 9) + (1 : Int32))) fun (w_79 : am_S) => f_X12_readField_214 x1 w_79)) else (f_X12_readField_210 x1 w)
def f_X12_readField_102  (x1 : Int32) (x3 : Int32) (w : am_S) : Option ((Int32 × am_S) ⊕ (Int32 × Int32 × am_S)) :=
  if x3 = (117 : Int32) then (if (10 : Int32) ≤ (w.1 271 8) then (f_X12_readField_156 x1 x3 w) else (am_v (am_pi w 271 3 ((w.1 271 3) + (1 : Int32))) fun (w_82 : am_S) => am_b1 (f_X12_items x3 274 50 ((5 : Int32) * (w_82.1 271 8)) (5 : Int32) w_82) fun w_83 => am_v (am_pi w_83 271 8 ((w_83.1 271 8) + (1 : Int32))) fun (w_85 : am_S) => f_X12_readField_214 x1 w_85)) else (f_X12_readField_156 x1 x3 w)
def f_X12_readField_49b  (x1 : Int32) (x2 : Int32) (w : am_S) : Option ((Int32 × am_S) ⊕ (Int32 × Int32 × am_S)) :=
  if x2 = 0 then (am_x (f_X12_readField_258 w)) else (if (w.1 271 4) = (-1 : Int32) then (am_b2 (f_X12_ahead w) fun r_92 w_90 => if r_92 = (115 : Int32) then (if x1 = 0 then (am_v (am_pi w_90 271 3 ((w_90.1 271 3) + (1 : Int32))) fun (w_95 : am_S) => am_b1 (f_X12_items r_92 273 4 (0 : Int32) (4 : Int32) w_95) fun w_96 => f_X12_readField_214 (1 : Int32) w_96) else (f_X12_readField_102 x1 r_92 w_90)) else (f_X12_readField_102 x1 r_92 w_90)) else (am_x (f_X12_readField_258 w)))
def f_X12_readField_49  (x1 : Int32) (x2 : Int32) (w : am_S) : Option (Int32 × am_S) :=
  am_loop (fun (st : (Int32 × Int32 × am_S)) => f_X12_readField_49b st.1 st.2.1 st.2.2) am_fuel (x1, x2, w)
def f_X12_readField_24b  (x1 : Int32) (x2 : Int32) (w : am_S) : Option ((Int32 × am_S) ⊕ (Int32 × am_S)) :=
  if (4 : Int32) ≤ x2 then (am_x (f_X12_readField_49 x1 (1 : Int32) w)) else (am_b2 (f_X12_usual (115 : Int32) x2 w) fun r_102 w_100 => am_chk x2 4 (am_v (am_pi w_100 273 x2.toNatClampNeg r_102) fun (w_104 : am_S) => am_v (x2 + (1 : Int32)) fun (x2_105 : Int32) => some (.inr (x2_105, w_104))))
def f_X12_readField_24  (x1 : Int32) (x2 : Int32) (w : am_S) : Option (Int32 × am_S) :=
  am_loop (fun (st : (Int32 × am_S)) => f_X12_readField_24b x1 st.1 st.2) am_fuel (x2, w)
def f_X12_readField  (w : am_S) : Option (Int32 × am_S) :=
  am_v (am_pi w 271 3 (0 : Int32)) fun (w_106 : am_S) => am_v (am_pi w_106 271 4 (-1 : Int32)) fun (w_107 : am_S) => am_v (am_pi w_107 271 8 (0 : Int32)) fun (w_108 : am_S) => am_v (am_pi w_108 271 9 (0 : Int32)) fun (w_109 : am_S) => f_X12_readField_24 (0 : Int32) (0 : Int32) w_109
set_option maxRecDepth 100000 in
set_option maxHeartbeats 4000000 in
theorem k_X12_readField {G : am_G} {l : Launch}   {w : am_S} {rr : Int32} {ww : am_S} (hf : f_X12_readField  w = some (rr, ww)) : am_Mi G l yX12_readField (Cond.code yX12_readField cX12_readField 4 (some .int) :: am_T) { frames := 4, cells := 0, slots := 0, locals := 256 } [.ref (G.1 + 271)] w rr ww := by
  refine Met.ofW (cc := cX12_readField) (maxL := 4) (ret := (some .int)) (by decide) rfl ?_
  intro p e s m args below meth c s₁ B hml hv
  obtain ⟨rfl, hx, hb, hr, hts, hown, hlocks, hK, hE, hH⟩ := am_begin B hv
  have hown : s.vm.findClass RX12 = some m.cls := hown
  show W p l e { frames := 4, cells := 0, slots := 0, locals := 256 } s m _ below meth c s.heap [] 0 0 _ _
  have P285 : ∀ (w : am_S) (H : Heap) (locs : List Loc) (ls : Array Slot), f_X12_readField_285 w = some (rr, ww) → am_H G w s H locs → lv_has ls 4 [(0, .ref (G.1 + 271))] → W p l e { frames := 4, cells := 0, slots := 0, locals := 256 } s m [.ref (G.1 + 271)].toArray below meth c H locs 0 0 (MQ below (va_Qi (fun (x : Int32) (u : am_S) => x = rr ∧ u = ww) (am_U G) (am_A G)) [.ref (G.1 + 271)].toArray s 0 0 (am_A G)) (F0 m 285 ls []) := by
    intro w H locs ls hf hH hl
    unfold f_X12_readField_285 at hf
    refine lv_aload_n hx hb dX12_readField_285 rfl (lv_at hl 0 rfl) ?_
    refine am_get hx hb hts hK hown hH (am_o12 (p := 271) (by decide +kernel)) rfl am_inX12 4 (by decide) am_q1323 (v := .int (w.1 271 4)) rfl dX12_readField_286 ?_
    exact am_reti hx hb hr hlocks hH hf dX12_readField_289
  have P281 : ∀ (w : am_S) (H : Heap) (locs : List Loc) (ls : Array Slot), f_X12_readField_281 w = some (rr, ww) → am_H G w s H locs → lv_has ls 4 [(0, .ref (G.1 + 271))] → W p l e { frames := 4, cells := 0, slots := 0, locals := 256 } s m [.ref (G.1 + 271)].toArray below meth c H locs 0 0 (MQ below (va_Qi (fun (x : Int32) (u : am_S) => x = rr ∧ u = ww) (am_U G) (am_A G)) [.ref (G.1 + 271)].toArray s 0 0 (am_A G)) (F0 m 281 ls []) := by
    intro w H locs ls hf hH hl
    unfold f_X12_readField_281 at hf
    refine lv_aload_n hx hb dX12_readField_281 rfl (lv_at hl 0 rfl) ?_
    obtain ⟨w_54, hq_55, hf⟩ := am_b1_some hf
    refine am_callv (w' := w_54) (am_runV (n := 0) (As := []) (rest := []) ⟨hx, hb, hml, hown, hts⟩ hK hE hH (k_X12_bad hq_55) (am_gV am_q1470 am_q1472 am_qs51 am_q13 am_q1473) (am_o12 (p := 271) (by decide +kernel)) rfl ⟨rfl, rfl⟩ (by decide +kernel) ⟨Nat.le_of_ble_eq_true rfl, Nat.le_of_ble_eq_true rfl⟩ rfl hl.1 rfl (Nat.le_of_ble_eq_true rfl) ⟨Nat.zero_le _, Nat.zero_le _⟩ dX12_readField_282) hH (fun H locs hH => ?_)
    exact P285 w_54 H locs ls hf hH (lv_sub hl [0] rfl)
  have P258 : ∀ (w : am_S) (H : Heap) (locs : List Loc) (ls : Array Slot), f_X12_readField_258 w = some (rr, ww) → am_H G w s H locs → lv_has ls 4 [(0, .ref (G.1 + 271))] → W p l e { frames := 4, cells := 0, slots := 0, locals := 256 } s m [.ref (G.1 + 271)].toArray below meth c H locs 0 0 (MQ below (va_Qi (fun (x : Int32) (u : am_S) => x = rr ∧ u = ww) (am_U G) (am_A G)) [.ref (G.1 + 271)].toArray s 0 0 (am_A G)) (F0 m 258 ls []) := by
    intro w H locs ls hf hH hl
    unfold f_X12_readField_258 at hf
    refine lv_aload_n hx hb dX12_readField_258 rfl (lv_at hl 0 rfl) ?_
    refine am_get hx hb hts hK hown hH (am_o12 (p := 271) (by decide +kernel)) rfl am_inX12 4 (by decide) am_q1323 (v := .int (w.1 271 4)) rfl dX12_readField_259 ?_
    refine lv_iconst (v := -1) hx hb dX12_readField_262 (by decide) ?_
    refine lv_icmp_ne (tgt := 285) hx hb dX12_readField_263 (by decide) (fun hc_56 => ?_) (fun hc_56 => ?_)
    · have hf := (if_neg hc_56).symm.trans hf
      exact P285 w H locs ls hf hH (lv_sub hl [0] rfl)
    · have hf := (if_pos hc_56).symm.trans hf
      refine lv_aload_n hx hb dX12_readField_266 rfl (lv_at hl 0 rfl) ?_
      obtain ⟨r_59, w_57, hq_58, hf⟩ := am_b2_some hf
      refine am_calli (r := r_59) (w' := w_57) (am_runV (n := 0) (As := []) (rest := []) ⟨hx, hb, hml, hown, hts⟩ hK hE hH (k_X12_ahead hq_58) (am_gV am_q1439 am_q1441 am_qs47 am_q13 am_q1442) (am_o12 (p := 271) (by decide +kernel)) rfl ⟨rfl, rfl⟩ (by decide +kernel) ⟨Nat.le_of_ble_eq_true rfl, Nat.le_of_ble_eq_true rfl⟩ rfl hl.1 rfl (Nat.le_of_ble_eq_true rfl) ⟨Nat.zero_le _, Nat.zero_le _⟩ dX12_readField_267) hH (fun H locs hH => ?_)
      refine lv_iconst (v := -1) hx hb dX12_readField_270 (by decide) ?_
      refine lv_icmp_ne (tgt := 281) hx hb dX12_readField_271 (by decide) (fun hc_60 => ?_) (fun hc_60 => ?_)
      · have hf := (if_neg hc_60).symm.trans hf
        exact P281 w_57 H locs ls hf hH (lv_sub hl [0] rfl)
      · have hf := (if_pos hc_60).symm.trans hf
        refine lv_aload_n hx hb dX12_readField_274 rfl (lv_at hl 0 rfl) ?_
        obtain ⟨r_63, w_61, hq_62, hf⟩ := am_b2_some hf
        refine am_calli (r := r_63) (w' := w_61) (am_runV (n := 0) (As := []) (rest := []) ⟨hx, hb, hml, hown, hts⟩ hK hE hH (k_X12_isWhole hq_62) (am_gV am_q1474 am_q1476 am_qs52 am_q13 am_q1477) (am_o12 (p := 271) (by decide +kernel)) rfl ⟨rfl, rfl⟩ (by decide +kernel) ⟨Nat.le_of_ble_eq_true rfl, Nat.le_of_ble_eq_true rfl⟩ rfl hl.1 rfl (Nat.le_of_ble_eq_true rfl) ⟨Nat.zero_le _, Nat.zero_le _⟩ dX12_readField_275) hH (fun H locs hH => ?_)
        refine lv_if_ne (tgt := 285) hx hb dX12_readField_278 (by decide) (fun hc_64 => ?_) (fun hc_64 => ?_)
        · have hf := (if_neg hc_64).symm.trans hf
          exact P285 w_61 H locs ls hf hH (lv_sub hl [0] rfl)
        · have hf := (if_pos hc_64).symm.trans hf
          exact P281 w_61 H locs ls hf hH (lv_sub hl [0] rfl)
  have P49 : ∀ (n1 : Nat) (x1 : Int32) (x2 : Int32) (w : am_S) (H : Heap) (locs : List Loc) (ls : Array Slot), am_loop (fun (st : (Int32 × Int32 × am_S)) => f_X12_readField_49b st.1 st.2.1 st.2.2) n1 (x1, x2, w) = some (rr, ww) → am_H G w s H locs → lv_has ls 4 [(0, .ref (G.1 + 271)), (1, .int x1), (2, .int x2)] → W p l e { frames := 4, cells := 0, slots := 0, locals := 256 } s m [.ref (G.1 + 271)].toArray below meth c H locs 0 0 (MQ below (va_Qi (fun (x : Int32) (u : am_S) => x = rr ∧ u = ww) (am_U G) (am_A G)) [.ref (G.1 + 271)].toArray s 0 0 (am_A G)) (F0 m 49 ls []) := by
    intro n1
    induction n1 with
    | zero =>
      intro x1 x2 w H locs ls hf hH hl
      exact (am_loop_zero hf).elim
    | succ n1 ih1 =>
      intro x1 x2 w H locs ls hf hH hl
      obtain ⟨z1, hf, hk1⟩ := am_loop_succ hf
      have hf : f_X12_readField_49b x1 x2 w = some z1 := hf
      have P251 : ∀ (x1 : Int32) (x2 : Int32) (s0 : Int32) (s1 : Int32) (w : am_S) (z1 : ((Int32 × am_S) ⊕ (Int32 × Int32 × am_S))) (H : Heap) (locs : List Loc) (ls : Array Slot), f_X12_readField_251 x1 x2 s0 s1 w = some z1 → am_lk (fun (st : (Int32 × Int32 × am_S)) => f_X12_readField_49b st.1 st.2.1 st.2.2) n1 (rr, ww) z1 → am_H G w s H locs → lv_has ls 4 [(0, .ref (G.1 + 271)), (1, .int x1), (2, .int x2)] → W p l e { frames := 4, cells := 0, slots := 0, locals := 256 } s m [.ref (G.1 + 271)].toArray below meth c H locs 0 0 (MQ below (va_Qi (fun (x : Int32) (u : am_S) => x = rr ∧ u = ww) (am_U G) (am_A G)) [.ref (G.1 + 271)].toArray s 0 0 (am_A G)) (F0 m 251 ls [.int s0, .int s1, .ref (G.1 + 271)]) := by
        intro x1 x2 s0 s1 w z1 H locs ls hf hk1 hH hl
        unfold f_X12_readField_251 at hf
        refine lv_iadd hx hb dX12_readField_251 ?_
        obtain ⟨w_65, hw_65, hf⟩ := am_v_some hf
        refine am_puti hx hb hts hK hown hH (am_o12 (p := 271) (by decide +kernel)) rfl am_inX12 tyX12 tyX12_ok nmX12 3 (by decide) am_q1322 rfl rfl rfl (fun _ _ => Nat.le_of_ble_eq_true rfl) (fun _ _ _ => rfl) dX12_readField_252 (fun H locs hH => ?_)
        rw [← hw_65] at hH
        refine lv_goto (tgt := 49) hx hb dX12_readField_255 (by decide) ?_
        obtain rfl := Option.some.inj hf
        exact ih1 x1 x2 w_65 H locs ls hk1 hH (lv_sub hl [0, 1, 2] rfl)
      have P236 : ∀ (x1 : Int32) (s0 : Int32) (w : am_S) (z1 : ((Int32 × am_S) ⊕ (Int32 × Int32 × am_S))) (H : Heap) (locs : List Loc) (ls : Array Slot), f_X12_readField_236 x1 s0 w = some z1 → am_lk (fun (st : (Int32 × Int32 × am_S)) => f_X12_readField_49b st.1 st.2.1 st.2.2) n1 (rr, ww) z1 → am_H G w s H locs → lv_has ls 4 [(0, .ref (G.1 + 271)), (1, .int x1)] → W p l e { frames := 4, cells := 0, slots := 0, locals := 256 } s m [.ref (G.1 + 271)].toArray below meth c H locs 0 0 (MQ below (va_Qi (fun (x : Int32) (u : am_S) => x = rr ∧ u = ww) (am_U G) (am_A G)) [.ref (G.1 + 271)].toArray s 0 0 (am_A G)) (F0 m 236 ls [.int s0]) := by
        intro x1 s0 w z1 H locs ls hf hk1 hH hl
        unfold f_X12_readField_236 at hf
        refine lv_istore_n (lv' := [(2, .int s0), (0, .ref (G.1 + 271)), (1, .int x1)]) hx hb dX12_readField_236 rfl hl (by decide) rfl (fun ls hl => ?_)
        refine lv_aload_n hx hb dX12_readField_237 rfl (lv_at hl 1 rfl) ?_
        refine lv_dup hx hb dX12_readField_238 rfl ?_
        refine am_get hx hb hts hK hown hH (am_o12 (p := 271) (by decide +kernel)) rfl am_inX12 3 (by decide) am_q1322 (v := .int (w.1 271 3)) rfl dX12_readField_239 ?_
        refine lv_iload_n hx hb dX12_readField_242 rfl (lv_at hl 0 rfl) ?_
        refine lv_if_eq (tgt := 250) hx hb dX12_readField_243 (by decide) (fun hc_66 => ?_) (fun hc_66 => ?_)
        · have hf := (if_pos hc_66).symm.trans hf
          refine lv_iconst (v := 0) hx hb dX12_readField_250 (by decide) ?_
          exact P251 x1 s0 (0 : Int32) (w.1 271 3) w z1 H locs ls hf hk1 hH (lv_sub hl [1, 2, 0] rfl)
        · have hf := (if_neg hc_66).symm.trans hf
          refine lv_iconst (v := 1) hx hb dX12_readField_246 (by decide) ?_
          refine lv_goto (tgt := 251) hx hb dX12_readField_247 (by decide) ?_
          exact P251 x1 s0 (1 : Int32) (w.1 271 3) w z1 H locs ls hf hk1 hH (lv_sub hl [1, 2, 0] rfl)
      have P235 : ∀ (x1 : Int32) (w : am_S) (z1 : ((Int32 × am_S) ⊕ (Int32 × Int32 × am_S))) (H : Heap) (locs : List Loc) (ls : Array Slot), f_X12_readField_235 x1 w = some z1 → am_lk (fun (st : (Int32 × Int32 × am_S)) => f_X12_readField_49b st.1 st.2.1 st.2.2) n1 (rr, ww) z1 → am_H G w s H locs → lv_has ls 4 [(0, .ref (G.1 + 271)), (1, .int x1)] → W p l e { frames := 4, cells := 0, slots := 0, locals := 256 } s m [.ref (G.1 + 271)].toArray below meth c H locs 0 0 (MQ below (va_Qi (fun (x : Int32) (u : am_S) => x = rr ∧ u = ww) (am_U G) (am_A G)) [.ref (G.1 + 271)].toArray s 0 0 (am_A G)) (F0 m 235 ls []) := by
        intro x1 w z1 H locs ls hf hk1 hH hl
        unfold f_X12_readField_235 at hf
        refine lv_iconst (v := 0) hx hb dX12_readField_235 (by decide) ?_
        exact P236 x1 (0 : Int32) w z1 H locs ls hf hk1 hH (lv_sub hl [0, 1] rfl)
      have P214 : ∀ (x1 : Int32) (w : am_S) (z1 : ((Int32 × am_S) ⊕ (Int32 × Int32 × am_S))) (H : Heap) (locs : List Loc) (ls : Array Slot), f_X12_readField_214 x1 w = some z1 → am_lk (fun (st : (Int32 × Int32 × am_S)) => f_X12_readField_49b st.1 st.2.1 st.2.2) n1 (rr, ww) z1 → am_H G w s H locs → lv_has ls 4 [(0, .ref (G.1 + 271)), (1, .int x1)] → W p l e { frames := 4, cells := 0, slots := 0, locals := 256 } s m [.ref (G.1 + 271)].toArray below meth c H locs 0 0 (MQ below (va_Qi (fun (x : Int32) (u : am_S) => x = rr ∧ u = ww) (am_U G) (am_A G)) [.ref (G.1 + 271)].toArray s 0 0 (am_A G)) (F0 m 214 ls []) := by
        intro x1 w z1 H locs ls hf hk1 hH hl
        unfold f_X12_readField_214 at hf
        refine lv_aload_n hx hb dX12_readField_214 rfl (lv_at hl 0 rfl) ?_
        refine am_get hx hb hts hK hown hH (am_o12 (p := 271) (by decide +kernel)) rfl am_inX12 4 (by decide) am_q1323 (v := .int (w.1 271 4)) rfl dX12_readField_215 ?_
        refine lv_iconst (v := -1) hx hb dX12_readField_218 (by decide) ?_
        refine lv_icmp_ne (tgt := 235) hx hb dX12_readField_219 (by decide) (fun hc_67 => ?_) (fun hc_67 => ?_)
        · have hf := (if_neg hc_67).symm.trans hf
          exact P235 x1 w z1 H locs ls hf hk1 hH (lv_sub hl [0, 1] rfl)
        · have hf := (if_pos hc_67).symm.trans hf
          refine lv_aload_n hx hb dX12_readField_222 rfl (lv_at hl 0 rfl) ?_
          obtain ⟨r_70, w_68, hq_69, hf⟩ := am_b2_some hf
          refine am_calli (r := r_70) (w' := w_68) (am_runV (n := 0) (As := []) (rest := []) ⟨hx, hb, hml, hown, hts⟩ hK hE hH (k_X12_ahead hq_69) (am_gV am_q1439 am_q1441 am_qs47 am_q13 am_q1442) (am_o12 (p := 271) (by decide +kernel)) rfl ⟨rfl, rfl⟩ (by decide +kernel) ⟨Nat.le_of_ble_eq_true rfl, Nat.le_of_ble_eq_true rfl⟩ rfl hl.1 rfl (Nat.le_of_ble_eq_true rfl) ⟨Nat.zero_le _, Nat.zero_le _⟩ dX12_readField_223) hH (fun H locs hH => ?_)
          refine lv_bipush (v := 59) hx hb dX12_readField_226 (by decide) ?_
          refine lv_icmp_ne (tgt := 235) hx hb dX12_readField_228 (by decide) (fun hc_71 => ?_) (fun hc_71 => ?_)
          · have hf := (if_neg hc_71).symm.trans hf
            exact P235 x1 w_68 z1 H locs ls hf hk1 hH (lv_sub hl [0, 1] rfl)
          · have hf := (if_pos hc_71).symm.trans hf
            refine lv_iconst (v := 1) hx hb dX12_readField_231 (by decide) ?_
            refine lv_goto (tgt := 236) hx hb dX12_readField_232 (by decide) ?_
            exact P236 x1 (1 : Int32) w_68 z1 H locs ls hf hk1 hH (lv_sub hl [0, 1] rfl)
      have P210 : ∀ (x1 : Int32) (w : am_S) (z1 : ((Int32 × am_S) ⊕ (Int32 × Int32 × am_S))) (H : Heap) (locs : List Loc) (ls : Array Slot), f_X12_readField_210 x1 w = some z1 → am_lk (fun (st : (Int32 × Int32 × am_S)) => f_X12_readField_49b st.1 st.2.1 st.2.2) n1 (rr, ww) z1 → am_H G w s H locs → lv_has ls 4 [(0, .ref (G.1 + 271)), (1, .int x1)] → W p l e { frames := 4, cells := 0, slots := 0, locals := 256 } s m [.ref (G.1 + 271)].toArray below meth c H locs 0 0 (MQ below (va_Qi (fun (x : Int32) (u : am_S) => x = rr ∧ u = ww) (am_U G) (am_A G)) [.ref (G.1 + 271)].toArray s 0 0 (am_A G)) (F0 m 210 ls []) := by
        intro x1 w z1 H locs ls hf hk1 hH hl
        unfold f_X12_readField_210 at hf
        refine lv_aload_n hx hb dX12_readField_210 rfl (lv_at hl 0 rfl) ?_
        obtain ⟨w_72, hq_73, hf⟩ := am_b1_some hf
        refine am_callv (w' := w_72) (am_runV (n := 0) (As := []) (rest := []) ⟨hx, hb, hml, hown, hts⟩ hK hE hH (k_X12_bad hq_73) (am_gV am_q1470 am_q1472 am_qs51 am_q13 am_q1473) (am_o12 (p := 271) (by decide +kernel)) rfl ⟨rfl, rfl⟩ (by decide +kernel) ⟨Nat.le_of_ble_eq_true rfl, Nat.le_of_ble_eq_true rfl⟩ rfl hl.1 rfl (Nat.le_of_ble_eq_true rfl) ⟨Nat.zero_le _, Nat.zero_le _⟩ dX12_readField_211) hH (fun H locs hH => ?_)
        exact P214 x1 w_72 z1 H locs ls hf hk1 hH (lv_sub hl [0, 1] rfl)
      have P156 : ∀ (x1 : Int32) (x3 : Int32) (w : am_S) (z1 : ((Int32 × am_S) ⊕ (Int32 × Int32 × am_S))) (H : Heap) (locs : List Loc) (ls : Array Slot), f_X12_readField_156 x1 x3 w = some z1 → am_lk (fun (st : (Int32 × Int32 × am_S)) => f_X12_readField_49b st.1 st.2.1 st.2.2) n1 (rr, ww) z1 → am_H G w s H locs → lv_has ls 4 [(0, .ref (G.1 + 271)), (1, .int x1), (3, .int x3)] → W p l e { frames := 4, cells := 0, slots := 0, locals := 256 } s m [.ref (G.1 + 271)].toArray below meth c H locs 0 0 (MQ below (va_Qi (fun (x : Int32) (u : am_S) => x = rr ∧ u = ww) (am_U G) (am_A G)) [.ref (G.1 + 271)].toArray s 0 0 (am_A G)) (F0 m 156 ls []) := by
        intro x1 x3 w z1 H locs ls hf hk1 hH hl
        unfold f_X12_readField_156 at hf
        refine lv_iload_n hx hb dX12_readField_156 rfl (lv_at hl 2 rfl) ?_
        refine lv_bipush (v := 100) hx hb dX12_readField_157 (by decide) ?_
        refine lv_icmp_ne (tgt := 210) hx hb dX12_readField_159 (by decide) (fun hc_74 => ?_) (fun hc_74 => ?_)
        · have hf := (if_neg hc_74).symm.trans hf
          exact P210 x1 w z1 H locs ls hf hk1 hH (lv_sub hl [0, 1] rfl)
        · have hf := (if_pos hc_74).symm.trans hf
          refine lv_aload_n hx hb dX12_readField_162 rfl (lv_at hl 0 rfl) ?_
          refine am_get hx hb hts hK hown hH (am_o12 (p := 271) (by decide +kernel)) rfl am_inX12 9 (by decide) am_q1328 (v := .int (w.1 271 9)) rfl dX12_readField_163 ?_
          refine lv_bipush (v := 6) hx hb dX12_readField_166 (by decide) ?_
          refine lv_icmp_ge (tgt := 210) hx hb dX12_readField_168 (by decide) (fun hc_75 => ?_) (fun hc_75 => ?_)
          · have hf := (if_pos hc_75).symm.trans hf
            exact P210 x1 w z1 H locs ls hf hk1 hH (lv_sub hl [0, 1] rfl)
          · have hf := (if_neg hc_75).symm.trans hf
            refine lv_aload_n hx hb dX12_readField_171 rfl (lv_at hl 0 rfl) ?_
            refine lv_dup hx hb dX12_readField_172 rfl ?_
            refine am_get hx hb hts hK hown hH (am_o12 (p := 271) (by decide +kernel)) rfl am_inX12 3 (by decide) am_q1322 (v := .int (w.1 271 3)) rfl dX12_readField_173 ?_
            refine lv_iconst (v := 1) hx hb dX12_readField_176 (by decide) ?_
            refine lv_iadd hx hb dX12_readField_177 ?_
            obtain ⟨w_76, hw_76, hf⟩ := am_v_some hf
            refine am_puti hx hb hts hK hown hH (am_o12 (p := 271) (by decide +kernel)) rfl am_inX12 tyX12 tyX12_ok nmX12 3 (by decide) am_q1322 rfl rfl rfl (fun _ _ => Nat.le_of_ble_eq_true rfl) (fun _ _ _ => rfl) dX12_readField_178 (fun H locs hH => ?_)
            rw [← hw_76] at hH
            refine lv_aload_n hx hb dX12_readField_181 rfl (lv_at hl 0 rfl) ?_
            refine lv_iload_n hx hb dX12_readField_182 rfl (lv_at hl 2 rfl) ?_
            refine lv_aload_n hx hb dX12_readField_183 rfl (lv_at hl 0 rfl) ?_
            refine am_get hx hb hts hK hown hH (am_o12 (p := 271) (by decide +kernel)) rfl am_inX12 7 (by decide) am_q1326 (v := .ref (G.1 + 275)) rfl dX12_readField_184 ?_
            refine lv_iconst (v := 2) hx hb dX12_readField_187 (by decide) ?_
            refine lv_aload_n hx hb dX12_readField_188 rfl (lv_at hl 0 rfl) ?_
            refine am_get hx hb hts hK hown hH (am_o12 (p := 271) (by decide +kernel)) rfl am_inX12 9 (by decide) am_q1328 (v := .int (w_76.1 271 9)) rfl dX12_readField_189 ?_
            refine lv_imul hx hb dX12_readField_192 ?_
            refine lv_iconst (v := 2) hx hb dX12_readField_193 (by decide) ?_
            obtain ⟨w_77, hq_78, hf⟩ := am_b1_some hf
            refine am_callv (w' := w_77) (am_runV (n := 4) (As := [.int x3, .ref (G.1 + 275), .int ((2 : Int32) * (w_76.1 271 9)), .int (2 : Int32)]) (rest := []) ⟨hx, hb, hml, hown, hts⟩ hK hE hH (k_X12_items (am_ai_of (N := 12) (by decide +kernel)) hq_78) (am_gV am_q1447 am_q1449 am_qs49 am_q13 am_q1450) (am_o12 (p := 271) (by decide +kernel)) rfl ⟨rfl, rfl⟩ (by decide +kernel) ⟨Nat.le_of_ble_eq_true rfl, Nat.le_of_ble_eq_true rfl⟩ rfl hl.1 rfl (Nat.le_of_ble_eq_true rfl) ⟨Nat.zero_le _, Nat.zero_le _⟩ dX12_readField_194) hH (fun H locs hH => ?_)
            refine lv_aload_n hx hb dX12_readField_197 rfl (lv_at hl 0 rfl) ?_
            refine lv_dup hx hb dX12_readField_198 rfl ?_
            refine am_get hx hb hts hK hown hH (am_o12 (p := 271) (by decide +kernel)) rfl am_inX12 9 (by decide) am_q1328 (v := .int (w_77.1 271 9)) rfl dX12_readField_199 ?_
            refine lv_iconst (v := 1) hx hb dX12_readField_202 (by decide) ?_
            refine lv_iadd hx hb dX12_readField_203 ?_
            obtain ⟨w_79, hw_79, hf⟩ := am_v_some hf
            refine am_puti hx hb hts hK hown hH (am_o12 (p := 271) (by decide +kernel)) rfl am_inX12 tyX12 tyX12_ok nmX12 9 (by decide) am_q1328 rfl rfl rfl (fun _ _ => Nat.le_of_ble_eq_true rfl) (fun _ _ _ => rfl) dX12_readField_204 (fun H locs hH => ?_)
            rw [← hw_79] at hH
            refine lv_goto (tgt := 214) hx hb dX12_readField_207 (by decide) ?_
            exact P214 x1 w_79 z1 H locs ls hf hk1 hH (lv_sub hl [0, 1] rfl)
      have P102 : ∀ (x1 : Int32) (x3 : Int32) (w : am_S) (z1 : ((Int32 × am_S) ⊕ (Int32 × Int32 × am_S))) (H : Heap) (locs : List Loc) (ls : Array Slot), f_X12_readField_102 x1 x3 w = some z1 → am_lk (fun (st : (Int32 × Int32 × am_S)) => f_X12_readField_49b st.1 st.2.1 st.2.2) n1 (rr, ww) z1 → am_H G w s H locs → lv_has ls 4 [(0, .ref (G.1 + 271)), (1, .int x1), (3, .int x3)] → W p l e { frames := 4, cells := 0, slots := 0, locals := 256 } s m [.ref (G.1 + 271)].toArray below meth c H locs 0 0 (MQ below (va_Qi (fun (x : Int32) (u : am_S) => x = rr ∧ u = ww) (am_U G) (am_A G)) [.ref (G.1 + 271)].toArray s 0 0 (am_A G)) (F0 m 102 ls []) := by
        intro x1 x3 w z1 H locs ls hf hk1 hH hl
        unfold f_X12_readField_102 at hf
        refine lv_iload_n hx hb dX12_readField_102 rfl (lv_at hl 2 rfl) ?_
        refine lv_bipush (v := 117) hx hb dX12_readField_103 (by decide) ?_
        refine lv_icmp_ne (tgt := 156) hx hb dX12_readField_105 (by decide) (fun hc_80 => ?_) (fun hc_80 => ?_)
        · have hf := (if_neg hc_80).symm.trans hf
          exact P156 x1 x3 w z1 H locs ls hf hk1 hH (lv_sub hl [0, 1, 2] rfl)
        · have hf := (if_pos hc_80).symm.trans hf
          refine lv_aload_n hx hb dX12_readField_108 rfl (lv_at hl 0 rfl) ?_
          refine am_get hx hb hts hK hown hH (am_o12 (p := 271) (by decide +kernel)) rfl am_inX12 8 (by decide) am_q1327 (v := .int (w.1 271 8)) rfl dX12_readField_109 ?_
          refine lv_bipush (v := 10) hx hb dX12_readField_112 (by decide) ?_
          refine lv_icmp_ge (tgt := 156) hx hb dX12_readField_114 (by decide) (fun hc_81 => ?_) (fun hc_81 => ?_)
          · have hf := (if_pos hc_81).symm.trans hf
            exact P156 x1 x3 w z1 H locs ls hf hk1 hH (lv_sub hl [0, 1, 2] rfl)
          · have hf := (if_neg hc_81).symm.trans hf
            refine lv_aload_n hx hb dX12_readField_117 rfl (lv_at hl 0 rfl) ?_
            refine lv_dup hx hb dX12_readField_118 rfl ?_
            refine am_get hx hb hts hK hown hH (am_o12 (p := 271) (by decide +kernel)) rfl am_inX12 3 (by decide) am_q1322 (v := .int (w.1 271 3)) rfl dX12_readField_119 ?_
            refine lv_iconst (v := 1) hx hb dX12_readField_122 (by decide) ?_
            refine lv_iadd hx hb dX12_readField_123 ?_
            obtain ⟨w_82, hw_82, hf⟩ := am_v_some hf
            refine am_puti hx hb hts hK hown hH (am_o12 (p := 271) (by decide +kernel)) rfl am_inX12 tyX12 tyX12_ok nmX12 3 (by decide) am_q1322 rfl rfl rfl (fun _ _ => Nat.le_of_ble_eq_true rfl) (fun _ _ _ => rfl) dX12_readField_124 (fun H locs hH => ?_)
            rw [← hw_82] at hH
            refine lv_aload_n hx hb dX12_readField_127 rfl (lv_at hl 0 rfl) ?_
            refine lv_iload_n hx hb dX12_readField_128 rfl (lv_at hl 2 rfl) ?_
            refine lv_aload_n hx hb dX12_readField_129 rfl (lv_at hl 0 rfl) ?_
            refine am_get hx hb hts hK hown hH (am_o12 (p := 271) (by decide +kernel)) rfl am_inX12 6 (by decide) am_q1325 (v := .ref (G.1 + 274)) rfl dX12_readField_130 ?_
            refine lv_iconst (v := 5) hx hb dX12_readField_133 (by decide) ?_
            refine lv_aload_n hx hb dX12_readField_134 rfl (lv_at hl 0 rfl) ?_
            refine am_get hx hb hts hK hown hH (am_o12 (p := 271) (by decide +kernel)) rfl am_inX12 8 (by decide) am_q1327 (v := .int (w_82.1 271 8)) rfl dX12_readField_135 ?_
            refine lv_imul hx hb dX12_readField_138 ?_
            refine lv_iconst (v := 5) hx hb dX12_readField_139 (by decide) ?_
            obtain ⟨w_83, hq_84, hf⟩ := am_b1_some hf
            refine am_callv (w' := w_83) (am_runV (n := 4) (As := [.int x3, .ref (G.1 + 274), .int ((5 : Int32) * (w_82.1 271 8)), .int (5 : Int32)]) (rest := []) ⟨hx, hb, hml, hown, hts⟩ hK hE hH (k_X12_items (am_ai_of (N := 50) (by decide +kernel)) hq_84) (am_gV am_q1447 am_q1449 am_qs49 am_q13 am_q1450) (am_o12 (p := 271) (by decide +kernel)) rfl ⟨rfl, rfl⟩ (by decide +kernel) ⟨Nat.le_of_ble_eq_true rfl, Nat.le_of_ble_eq_true rfl⟩ rfl hl.1 rfl (Nat.le_of_ble_eq_true rfl) ⟨Nat.zero_le _, Nat.zero_le _⟩ dX12_readField_140) hH (fun H locs hH => ?_)
            refine lv_aload_n hx hb dX12_readField_143 rfl (lv_at hl 0 rfl) ?_
            refine lv_dup hx hb dX12_readField_144 rfl ?_
            refine am_get hx hb hts hK hown hH (am_o12 (p := 271) (by decide +kernel)) rfl am_inX12 8 (by decide) am_q1327 (v := .int (w_83.1 271 8)) rfl dX12_readField_145 ?_
            refine lv_iconst (v := 1) hx hb dX12_readField_148 (by decide) ?_
            refine lv_iadd hx hb dX12_readField_149 ?_
            obtain ⟨w_85, hw_85, hf⟩ := am_v_some hf
            refine am_puti hx hb hts hK hown hH (am_o12 (p := 271) (by decide +kernel)) rfl am_inX12 tyX12 tyX12_ok nmX12 8 (by decide) am_q1327 rfl rfl rfl (fun _ _ => Nat.le_of_ble_eq_true rfl) (fun _ _ _ => rfl) dX12_readField_150 (fun H locs hH => ?_)
            rw [← hw_85] at hH
            refine lv_goto (tgt := 214) hx hb dX12_readField_153 (by decide) ?_
            exact P214 x1 w_85 z1 H locs ls hf hk1 hH (lv_sub hl [0, 1] rfl)
      unfold f_X12_readField_49b at hf
      refine lv_iload_n hx hb dX12_readField_49 rfl (lv_at hl 2 rfl) ?_
      refine lv_if_eq (tgt := 258) hx hb dX12_readField_50 (by decide) (fun hc_86 => ?_) (fun hc_86 => ?_)
      · have hf := (if_pos hc_86).symm.trans hf
        obtain ⟨y_87, hf, hzy_87⟩ := am_x_some hf
        rw [hzy_87] at hk1
        have hf := hf.trans (congrArg some (show y_87 = (rr, ww) from hk1))
        exact P258 w H locs ls hf hH (lv_sub hl [0] rfl)
      · have hf := (if_neg hc_86).symm.trans hf
        refine lv_aload_n hx hb dX12_readField_53 rfl (lv_at hl 0 rfl) ?_
        refine am_get hx hb hts hK hown hH (am_o12 (p := 271) (by decide +kernel)) rfl am_inX12 4 (by decide) am_q1323 (v := .int (w.1 271 4)) rfl dX12_readField_54 ?_
        refine lv_iconst (v := -1) hx hb dX12_readField_57 (by decide) ?_
        refine lv_icmp_ne (tgt := 258) hx hb dX12_readField_58 (by decide) (fun hc_88 => ?_) (fun hc_88 => ?_)
        · have hf := (if_neg hc_88).symm.trans hf
          obtain ⟨y_89, hf, hzy_89⟩ := am_x_some hf
          rw [hzy_89] at hk1
          have hf := hf.trans (congrArg some (show y_89 = (rr, ww) from hk1))
          exact P258 w H locs ls hf hH (lv_sub hl [0] rfl)
        · have hf := (if_pos hc_88).symm.trans hf
          refine lv_aload_n hx hb dX12_readField_61 rfl (lv_at hl 0 rfl) ?_
          obtain ⟨r_92, w_90, hq_91, hf⟩ := am_b2_some hf
          refine am_calli (r := r_92) (w' := w_90) (am_runV (n := 0) (As := []) (rest := []) ⟨hx, hb, hml, hown, hts⟩ hK hE hH (k_X12_ahead hq_91) (am_gV am_q1439 am_q1441 am_qs47 am_q13 am_q1442) (am_o12 (p := 271) (by decide +kernel)) rfl ⟨rfl, rfl⟩ (by decide +kernel) ⟨Nat.le_of_ble_eq_true rfl, Nat.le_of_ble_eq_true rfl⟩ rfl hl.1 rfl (Nat.le_of_ble_eq_true rfl) ⟨Nat.zero_le _, Nat.zero_le _⟩ dX12_readField_62) hH (fun H locs hH => ?_)
          refine lv_istore_n (lv' := [(3, .int r_92), (0, .ref (G.1 + 271)), (1, .int x1), (2, .int x2)]) hx hb dX12_readField_65 rfl hl (by decide) rfl (fun ls hl => ?_)
          refine lv_iload_n hx hb dX12_readField_66 rfl (lv_at hl 0 rfl) ?_
          refine lv_bipush (v := 115) hx hb dX12_readField_67 (by decide) ?_
          refine lv_icmp_ne (tgt := 102) hx hb dX12_readField_69 (by decide) (fun hc_93 => ?_) (fun hc_93 => ?_)
          · have hf := (if_neg hc_93).symm.trans hf
            exact P102 x1 r_92 w_90 z1 H locs ls hf hk1 hH (lv_sub hl [1, 2, 0] rfl)
          · have hf := (if_pos hc_93).symm.trans hf
            refine lv_iload_n hx hb dX12_readField_72 rfl (lv_at hl 2 rfl) ?_
            refine lv_if_ne (tgt := 102) hx hb dX12_readField_73 (by decide) (fun hc_94 => ?_) (fun hc_94 => ?_)
            · have hf := (if_neg hc_94).symm.trans hf
              exact P102 x1 r_92 w_90 z1 H locs ls hf hk1 hH (lv_sub hl [1, 2, 0] rfl)
            · have hf := (if_pos hc_94).symm.trans hf
              refine lv_iconst (v := 1) hx hb dX12_readField_76 (by decide) ?_
              refine lv_istore_n (lv' := [(1, .int (1 : Int32)), (3, .int r_92), (0, .ref (G.1 + 271)), (2, .int x2)]) hx hb dX12_readField_77 rfl hl (by decide) rfl (fun ls hl => ?_)
              refine lv_aload_n hx hb dX12_readField_78 rfl (lv_at hl 2 rfl) ?_
              refine lv_dup hx hb dX12_readField_79 rfl ?_
              refine am_get hx hb hts hK hown hH (am_o12 (p := 271) (by decide +kernel)) rfl am_inX12 3 (by decide) am_q1322 (v := .int (w_90.1 271 3)) rfl dX12_readField_80 ?_
              refine lv_iconst (v := 1) hx hb dX12_readField_83 (by decide) ?_
              refine lv_iadd hx hb dX12_readField_84 ?_
              obtain ⟨w_95, hw_95, hf⟩ := am_v_some hf
              refine am_puti hx hb hts hK hown hH (am_o12 (p := 271) (by decide +kernel)) rfl am_inX12 tyX12 tyX12_ok nmX12 3 (by decide) am_q1322 rfl rfl rfl (fun _ _ => Nat.le_of_ble_eq_true rfl) (fun _ _ _ => rfl) dX12_readField_85 (fun H locs hH => ?_)
              rw [← hw_95] at hH
              refine lv_aload_n hx hb dX12_readField_88 rfl (lv_at hl 2 rfl) ?_
              refine lv_iload_n hx hb dX12_readField_89 rfl (lv_at hl 1 rfl) ?_
              refine lv_aload_n hx hb dX12_readField_90 rfl (lv_at hl 2 rfl) ?_
              refine am_get hx hb hts hK hown hH (am_o12 (p := 271) (by decide +kernel)) rfl am_inX12 5 (by decide) am_q1324 (v := .ref (G.1 + 273)) rfl dX12_readField_91 ?_
              refine lv_iconst (v := 0) hx hb dX12_readField_94 (by decide) ?_
              refine lv_iconst (v := 4) hx hb dX12_readField_95 (by decide) ?_
              obtain ⟨w_96, hq_97, hf⟩ := am_b1_some hf
              refine am_callv (w' := w_96) (am_runV (n := 4) (As := [.int r_92, .ref (G.1 + 273), .int (0 : Int32), .int (4 : Int32)]) (rest := []) ⟨hx, hb, hml, hown, hts⟩ hK hE hH (k_X12_items (am_ai_of (N := 4) (by decide +kernel)) hq_97) (am_gV am_q1447 am_q1449 am_qs49 am_q13 am_q1450) (am_o12 (p := 271) (by decide +kernel)) rfl ⟨rfl, rfl⟩ (by decide +kernel) ⟨Nat.le_of_ble_eq_true rfl, Nat.le_of_ble_eq_true rfl⟩ rfl hl.1 rfl (Nat.le_of_ble_eq_true rfl) ⟨Nat.zero_le _, Nat.zero_le _⟩ dX12_readField_96) hH (fun H locs hH => ?_)
              refine lv_goto (tgt := 214) hx hb dX12_readField_99 (by decide) ?_
              exact P214 (1 : Int32) w_96 z1 H locs ls hf hk1 hH (lv_sub hl [2, 0] rfl)
  have P24 : ∀ (x1 : Int32) (n1 : Nat) (x2 : Int32) (w : am_S) (H : Heap) (locs : List Loc) (ls : Array Slot), am_loop (fun (st : (Int32 × am_S)) => f_X12_readField_24b x1 st.1 st.2) n1 (x2, w) = some (rr, ww) → am_H G w s H locs → lv_has ls 4 [(0, .ref (G.1 + 271)), (1, .int x1), (2, .int x2)] → W p l e { frames := 4, cells := 0, slots := 0, locals := 256 } s m [.ref (G.1 + 271)].toArray below meth c H locs 0 0 (MQ below (va_Qi (fun (x : Int32) (u : am_S) => x = rr ∧ u = ww) (am_U G) (am_A G)) [.ref (G.1 + 271)].toArray s 0 0 (am_A G)) (F0 m 24 ls []) := by
    intro x1 n1
    induction n1 with
    | zero =>
      intro x2 w H locs ls hf hH hl
      exact (am_loop_zero hf).elim
    | succ n1 ih1 =>
      intro x2 w H locs ls hf hH hl
      obtain ⟨z1, hf, hk1⟩ := am_loop_succ hf
      have hf : f_X12_readField_24b x1 x2 w = some z1 := hf
      unfold f_X12_readField_24b at hf
      refine lv_iload_n hx hb dX12_readField_24 rfl (lv_at hl 2 rfl) ?_
      refine lv_iconst (v := 4) hx hb dX12_readField_25 (by decide) ?_
      refine lv_icmp_ge (tgt := 47) hx hb dX12_readField_26 (by decide) (fun hc_98 => ?_) (fun hc_98 => ?_)
      · have hf := (if_pos hc_98).symm.trans hf
        obtain ⟨y_99, hf, hzy_99⟩ := am_x_some hf
        rw [hzy_99] at hk1
        have hf := hf.trans (congrArg some (show y_99 = (rr, ww) from hk1))
        refine lv_iconst (v := 1) hx hb dX12_readField_47 (by decide) ?_
        refine lv_istore_n (lv' := [(2, .int (1 : Int32)), (0, .ref (G.1 + 271)), (1, .int x1)]) hx hb dX12_readField_48 rfl hl (by decide) rfl (fun ls hl => ?_)
        exact P49 am_fuel x1 (1 : Int32) w H locs ls hf hH (lv_sub hl [1, 2, 0] rfl)
      · have hf := (if_neg hc_98).symm.trans hf
        refine lv_aload_n hx hb dX12_readField_29 rfl (lv_at hl 0 rfl) ?_
        refine am_get hx hb hts hK hown hH (am_o12 (p := 271) (by decide +kernel)) rfl am_inX12 5 (by decide) am_q1324 (v := .ref (G.1 + 273)) rfl dX12_readField_30 ?_
        refine lv_iload_n hx hb dX12_readField_33 rfl (lv_at hl 2 rfl) ?_
        refine lv_bipush (v := 115) hx hb dX12_readField_34 (by decide) ?_
        refine lv_iload_n hx hb dX12_readField_36 rfl (lv_at hl 2 rfl) ?_
        obtain ⟨r_102, w_100, hq_101, hf⟩ := am_b2_some hf
        refine am_calli (r := r_102) (w' := w_100) (am_runS (n := 2) (As := [.int (115 : Int32), .int x2]) (rest := [.int x2, .ref (G.1 + 273)]) ⟨hx, hb, hml, hown, hts⟩ hK hE hH (k_X12_usual hq_101) (am_gS am_q1436 am_q1437 am_q13 am_q1438) ⟨rfl, rfl⟩ (by decide +kernel) ⟨Nat.le_of_ble_eq_true rfl, Nat.le_of_ble_eq_true rfl⟩ rfl hl.1 rfl (Nat.le_of_ble_eq_true rfl) ⟨Nat.zero_le _, Nat.zero_le _⟩ dX12_readField_37) hH (fun H locs hH => ?_)
        obtain ⟨hi_103, hf⟩ := am_chk_some hf
        obtain ⟨w_104, hw_104, hf⟩ := am_v_some hf
        refine am_iast hx hb hK hH (am_ai_of (N := 4) (by decide +kernel)) hi_103 dX12_readField_40 (fun H locs hH => ?_)
        rw [← hw_104] at hH
        obtain ⟨x2_105, hx2_105, hf⟩ := am_v_some hf
        refine lv_iinc (v := x2_105) (lv' := [(2, .int x2_105), (0, .ref (G.1 + 271)), (1, .int x1)]) hx hb dX12_readField_41 hl (k := 2) rfl (by rw [hx2_105]; rfl) (by decide) rfl (fun ls hl => ?_)
        refine lv_goto (tgt := 24) hx hb dX12_readField_44 (by decide) ?_
        obtain rfl := Option.some.inj hf
        exact ih1 x2_105 w_104 H locs ls hk1 hH (lv_sub hl [1, 2, 0] rfl)
  refine am_enter (lv := [(0, .ref (G.1 + 271))]) (Nat.le_of_ble_eq_true rfl) rfl (fun ls hl => ?_)
  unfold f_X12_readField at hf
  refine am_start hH (fun H locs hH => ?_)
  refine lv_aload_n hx hb dX12_readField_0 rfl (lv_at hl 0 rfl) ?_
  refine lv_iconst (v := 0) hx hb dX12_readField_1 (by decide) ?_
  obtain ⟨w_106, hw_106, hf⟩ := am_v_some hf
  refine am_puti hx hb hts hK hown hH (am_o12 (p := 271) (by decide +kernel)) rfl am_inX12 tyX12 tyX12_ok nmX12 3 (by decide) am_q1322 rfl rfl rfl (fun _ _ => Nat.le_of_ble_eq_true rfl) (fun _ _ _ => rfl) dX12_readField_2 (fun H locs hH => ?_)
  rw [← hw_106] at hH
  refine lv_aload_n hx hb dX12_readField_5 rfl (lv_at hl 0 rfl) ?_
  refine lv_iconst (v := -1) hx hb dX12_readField_6 (by decide) ?_
  obtain ⟨w_107, hw_107, hf⟩ := am_v_some hf
  refine am_puti hx hb hts hK hown hH (am_o12 (p := 271) (by decide +kernel)) rfl am_inX12 tyX12 tyX12_ok nmX12 4 (by decide) am_q1323 rfl rfl rfl (fun _ _ => Nat.le_of_ble_eq_true rfl) (fun _ _ _ => rfl) dX12_readField_7 (fun H locs hH => ?_)
  rw [← hw_107] at hH
  refine lv_aload_n hx hb dX12_readField_10 rfl (lv_at hl 0 rfl) ?_
  refine lv_iconst (v := 0) hx hb dX12_readField_11 (by decide) ?_
  obtain ⟨w_108, hw_108, hf⟩ := am_v_some hf
  refine am_puti hx hb hts hK hown hH (am_o12 (p := 271) (by decide +kernel)) rfl am_inX12 tyX12 tyX12_ok nmX12 8 (by decide) am_q1327 rfl rfl rfl (fun _ _ => Nat.le_of_ble_eq_true rfl) (fun _ _ _ => rfl) dX12_readField_12 (fun H locs hH => ?_)
  rw [← hw_108] at hH
  refine lv_aload_n hx hb dX12_readField_15 rfl (lv_at hl 0 rfl) ?_
  refine lv_iconst (v := 0) hx hb dX12_readField_16 (by decide) ?_
  obtain ⟨w_109, hw_109, hf⟩ := am_v_some hf
  refine am_puti hx hb hts hK hown hH (am_o12 (p := 271) (by decide +kernel)) rfl am_inX12 tyX12 tyX12_ok nmX12 9 (by decide) am_q1328 rfl rfl rfl (fun _ _ => Nat.le_of_ble_eq_true rfl) (fun _ _ _ => rfl) dX12_readField_17 (fun H locs hH => ?_)
  rw [← hw_109] at hH
  refine lv_iconst (v := 0) hx hb dX12_readField_20 (by decide) ?_
  refine lv_istore_n (lv' := [(1, .int (0 : Int32)), (0, .ref (G.1 + 271))]) hx hb dX12_readField_21 rfl hl (by decide) rfl (fun ls hl => ?_)
  refine lv_iconst (v := 0) hx hb dX12_readField_22 (by decide) ?_
  refine lv_istore_n (lv' := [(2, .int (0 : Int32)), (1, .int (0 : Int32)), (0, .ref (G.1 + 271))]) hx hb dX12_readField_23 rfl hl (by decide) rfl (fun ls hl => ?_)
  exact P24 (0 : Int32) am_fuel (0 : Int32) w_109 H locs ls hf hH (lv_sub hl [2, 1, 0] rfl)

def f_X12_sortOf (a0 : Int32) (w : am_S) : Option (Int32 × am_S) :=
  (if a0 = (99 : Int32) then (some ((5 : Int32), w)) else (if a0 = (102 : Int32) then (some ((3 : Int32), w)) else (if a0 = (112 : Int32) then (some ((0 : Int32), w)) else (if a0 = (114 : Int32) then (some ((1 : Int32), w)) else (if a0 = (116 : Int32) then (some ((2 : Int32), w)) else (if a0 = (120 : Int32) then (some ((4 : Int32), w)) else (some ((-1 : Int32), w))))))))
set_option maxRecDepth 100000 in
set_option maxHeartbeats 4000000 in
theorem k_X12_sortOf {G : am_G} {l : Launch} {a0 : Int32}  {w : am_S} {rr : Int32} {ww : am_S} (hf : f_X12_sortOf a0 w = some (rr, ww)) : am_Mi G l yX12_sortOf (Cond.code yX12_sortOf cX12_sortOf 1 (some .int) :: am_T) { frames := 0, cells := 0, slots := 0, locals := 0 } [.int a0] w rr ww := by
  refine Met.ofW (cc := cX12_sortOf) (maxL := 1) (ret := (some .int)) (by decide) rfl ?_
  intro p e s m args below meth c s₁ B hml hv
  obtain ⟨rfl, hx, hb, hr, hts, hown, hlocks, hK, hE, hH⟩ := am_begin B hv
  have hown : s.vm.findClass RX12 = some m.cls := hown
  show W p l e { frames := 0, cells := 0, slots := 0, locals := 0 } s m _ below meth c s.heap [] 0 0 _ _
  refine am_enter (lv := [(0, .int a0)]) (Nat.le_of_ble_eq_true rfl) rfl (fun ls hl => ?_)
  unfold f_X12_sortOf at hf
  refine am_start hH (fun H locs hH => ?_)
  refine lv_iload_n hx hb dX12_sortOf_0 rfl (lv_at hl 0 rfl) ?_
  by_cases he_7 : a0 = (99 : Int32)
  · have hf := (if_pos he_7).symm.trans hf
    refine lv_lookup (off := 69) (tgt := 70) hx hb dX12_sortOf_1 (by decide) (by rw [he_7]; decide) (by decide) ?_
    refine lv_iconst (v := 5) hx hb dX12_sortOf_70 (by decide) ?_
    exact am_reti hx hb hr hlocks hH hf dX12_sortOf_71
  have hf := (if_neg he_7).symm.trans hf
  by_cases he_8 : a0 = (102 : Int32)
  · have hf := (if_pos he_8).symm.trans hf
    refine lv_lookup (off := 65) (tgt := 66) hx hb dX12_sortOf_1 (by decide) (by rw [he_8]; decide) (by decide) ?_
    refine lv_iconst (v := 3) hx hb dX12_sortOf_66 (by decide) ?_
    exact am_reti hx hb hr hlocks hH hf dX12_sortOf_67
  have hf := (if_neg he_8).symm.trans hf
  by_cases he_9 : a0 = (112 : Int32)
  · have hf := (if_pos he_9).symm.trans hf
    refine lv_lookup (off := 59) (tgt := 60) hx hb dX12_sortOf_1 (by decide) (by rw [he_9]; decide) (by decide) ?_
    refine lv_iconst (v := 0) hx hb dX12_sortOf_60 (by decide) ?_
    exact am_reti hx hb hr hlocks hH hf dX12_sortOf_61
  have hf := (if_neg he_9).symm.trans hf
  by_cases he_10 : a0 = (114 : Int32)
  · have hf := (if_pos he_10).symm.trans hf
    refine lv_lookup (off := 61) (tgt := 62) hx hb dX12_sortOf_1 (by decide) (by rw [he_10]; decide) (by decide) ?_
    refine lv_iconst (v := 1) hx hb dX12_sortOf_62 (by decide) ?_
    exact am_reti hx hb hr hlocks hH hf dX12_sortOf_63
  have hf := (if_neg he_10).symm.trans hf
  by_cases he_11 : a0 = (116 : Int32)
  · have hf := (if_pos he_11).symm.trans hf
    refine lv_lookup (off := 63) (tgt := 64) hx hb dX12_sortOf_1 (by decide) (by rw [he_11]; decide) (by decide) ?_
    refine lv_iconst (v := 2) hx hb dX12_sortOf_64 (by decide) ?_
    exact am_reti hx hb hr hlocks hH hf dX12_sortOf_65
  have hf := (if_neg he_11).symm.trans hf
  by_cases he_12 : a0 = (120 : Int32)
  · have hf := (if_pos he_12).symm.trans hf
    refine lv_lookup (off := 67) (tgt := 68) hx hb dX12_sortOf_1 (by decide) (by rw [he_12]; decide) (by decide) ?_
    refine lv_iconst (v := 4) hx hb dX12_sortOf_68 (by decide) ?_
    exact am_reti hx hb hr hlocks hH hf dX12_sortOf_69
  have hf := (if_neg he_12).symm.trans hf
  have nhe_7 := am_tne (k := 99) (99 : Int32) (by decide) he_7
  have nhe_8 := am_tne (k := 102) (102 : Int32) (by decide) he_8
  have nhe_9 := am_tne (k := 112) (112 : Int32) (by decide) he_9
  have nhe_10 := am_tne (k := 114) (114 : Int32) (by decide) he_10
  have nhe_11 := am_tne (k := 116) (116 : Int32) (by decide) he_11
  have nhe_12 := am_tne (k := 120) (120 : Int32) (by decide) he_12
  refine lv_lookup (off := 71) (tgt := 72) hx hb dX12_sortOf_1 (by decide) (by simp [Op.lookupswitch.offset, Ne.symm nhe_7, Ne.symm nhe_8, Ne.symm nhe_9, Ne.symm nhe_10, Ne.symm nhe_11, Ne.symm nhe_12]) (by decide) ?_
  refine lv_iconst (v := -1) hx hb dX12_sortOf_72 (by decide) ?_
  exact am_reti hx hb hr hlocks hH hf dX12_sortOf_73

def f_X12_readStep_113 (a1 : Int32) (w : am_S) : Option am_S :=
  some w
def f_X12_readStep (a1 : Int32) (w : am_S) : Option am_S :=
  am_b2 (f_X12_ahead w) fun r_39 w_37 => am_b2 (f_X12_sortOf r_39 w_37) fun r_42 w_40 => if r_42 = (-1 : Int32) then (am_b1 (f_X12_bad w_40) fun w_71 => some w_71) else (am_v (am_pi w_40 271 3 ((w_40.1 271 3) + (1 : Int32))) fun (w_44 : am_S) => am_chk a1 160 (am_v (am_pi w_44 279 a1.toNatClampNeg r_42) fun (w_46 : am_S) => am_chk (a1 + (1 : Int32)) 160 (am_v (am_pi w_46 279 (a1 + (1 : Int32)).toNatClampNeg (-1 : Int32)) fun (w_48 : am_S) => if r_42 = (5 : Int32) then (am_b2 (f_X12_number (0 : Int32) (9999 : Int32) w_48) fun r_68 w_66 => am_chk (a1 + (1 : Int32)) 160 (am_v (am_pi w_66 279 (a1 + (1 : Int32)).toNatClampNeg r_68) fun (w_70 : am_S) => f_X12_readStep_113 a1 w_70)) else (if r_42 ≤ (1 : Int32) then (f_X12_readStep_113 a1 w_48) else (am_b2 (f_X12_ahead w_48) fun r_53 w_51 => am_b2 (f_X12_isDigit r_53 w_51) fun r_56 w_54 => if r_56 = 0 then (am_b1 (f_X12_bad w_54) fun w_64 => some w_64) else (am_b2 (f_X12_here w_54) fun r_60 w_58 => am_chk (a1 + (1 : Int32)) 160 (am_v (am_pi w_58 279 (a1 + (1 : Int32)).toNatClampNeg (r_60 - (48 : Int32))) fun (w_62 : am_S) => am_v (am_pi w_62 271 3 ((w_62.1 271 3) + (1 : Int32))) fun (w_63 : am_S) => f_X12_readStep_113 a1 w_63)))))))
set_option maxRecDepth 100000 in
set_option maxHeartbeats 4000000 in
theorem k_X12_readStep {G : am_G} {l : Launch} {a1 : Int32}  {w : am_S} {ww : am_S} (hf : f_X12_readStep a1 w = some ww) : am_Mv G l yX12_readStep (Cond.code yX12_readStep cX12_readStep 3 none :: am_T) { frames := 3, cells := 0, slots := 0, locals := 192 } [.ref (G.1 + 271), .int a1] w ww := by
  refine Met.ofW (cc := cX12_readStep) (maxL := 3) (ret := none) (by decide) rfl ?_
  intro p e s m args below meth c s₁ B hml hv
  obtain ⟨rfl, hx, hb, hr, hts, hown, hlocks, hK, hE, hH⟩ := am_begin B hv
  have hown : s.vm.findClass RX12 = some m.cls := hown
  show W p l e { frames := 3, cells := 0, slots := 0, locals := 192 } s m _ below meth c s.heap [] 0 0 _ _
  have P113 : ∀ (w : am_S) (H : Heap) (locs : List Loc) (ls : Array Slot), f_X12_readStep_113 a1 w = some ww → am_H G w s H locs → lv_has ls 3 [] → W p l e { frames := 3, cells := 0, slots := 0, locals := 192 } s m [.ref (G.1 + 271), .int a1].toArray below meth c H locs 0 0 (MQ below (va_Qv (fun (u : am_S) => u = ww) (am_U G) (am_A G)) [.ref (G.1 + 271), .int a1].toArray s 0 0 (am_A G)) (F0 m 113 ls []) := by
    intro w H locs ls hf hH hl
    unfold f_X12_readStep_113 at hf
    exact am_retv hx hb hr hlocks hH hf dX12_readStep_113
  refine am_enter (lv := [(0, .ref (G.1 + 271)), (1, .int a1)]) (Nat.le_of_ble_eq_true rfl) rfl (fun ls hl => ?_)
  unfold f_X12_readStep at hf
  refine am_start hH (fun H locs hH => ?_)
  refine lv_aload_n hx hb dX12_readStep_0 rfl (lv_at hl 0 rfl) ?_
  obtain ⟨r_39, w_37, hq_38, hf⟩ := am_b2_some hf
  refine am_calli (r := r_39) (w' := w_37) (am_runV (n := 0) (As := []) (rest := []) ⟨hx, hb, hml, hown, hts⟩ hK hE hH (k_X12_ahead hq_38) (am_gV am_q1439 am_q1441 am_qs47 am_q13 am_q1442) (am_o12 (p := 271) (by decide +kernel)) rfl ⟨rfl, rfl⟩ (by decide +kernel) ⟨Nat.le_of_ble_eq_true rfl, Nat.le_of_ble_eq_true rfl⟩ rfl hl.1 rfl (Nat.le_of_ble_eq_true rfl) ⟨Nat.zero_le _, Nat.zero_le _⟩ dX12_readStep_1) hH (fun H locs hH => ?_)
  obtain ⟨r_42, w_40, hq_41, hf⟩ := am_b2_some hf
  refine am_calli (r := r_42) (w' := w_40) (am_runS (n := 1) (As := [.int r_39]) (rest := []) ⟨hx, hb, hml, hown, hts⟩ hK hE hH (k_X12_sortOf hq_41) (am_gS am_q1486 am_q1487 am_q13 am_q1488) ⟨rfl, rfl⟩ (by decide +kernel) ⟨Nat.le_of_ble_eq_true rfl, Nat.le_of_ble_eq_true rfl⟩ rfl hl.1 rfl (Nat.le_of_ble_eq_true rfl) ⟨Nat.zero_le _, Nat.zero_le _⟩ dX12_readStep_4) hH (fun H locs hH => ?_)
  refine lv_istore_n (lv' := [(2, .int r_42), (0, .ref (G.1 + 271)), (1, .int a1)]) hx hb dX12_readStep_7 rfl hl (by decide) rfl (fun ls hl => ?_)
  refine lv_iload_n hx hb dX12_readStep_8 rfl (lv_at hl 0 rfl) ?_
  refine lv_iconst (v := -1) hx hb dX12_readStep_9 (by decide) ?_
  refine lv_icmp_ne (tgt := 18) hx hb dX12_readStep_10 (by decide) (fun hc_43 => ?_) (fun hc_43 => ?_)
  · have hf := (if_neg hc_43).symm.trans hf
    refine lv_aload_n hx hb dX12_readStep_18 rfl (lv_at hl 1 rfl) ?_
    refine lv_dup hx hb dX12_readStep_19 rfl ?_
    refine am_get hx hb hts hK hown hH (am_o12 (p := 271) (by decide +kernel)) rfl am_inX12 3 (by decide) am_q1322 (v := .int (w_40.1 271 3)) rfl dX12_readStep_20 ?_
    refine lv_iconst (v := 1) hx hb dX12_readStep_23 (by decide) ?_
    refine lv_iadd hx hb dX12_readStep_24 ?_
    obtain ⟨w_44, hw_44, hf⟩ := am_v_some hf
    refine am_puti hx hb hts hK hown hH (am_o12 (p := 271) (by decide +kernel)) rfl am_inX12 tyX12 tyX12_ok nmX12 3 (by decide) am_q1322 rfl rfl rfl (fun _ _ => Nat.le_of_ble_eq_true rfl) (fun _ _ _ => rfl) dX12_readStep_25 (fun H locs hH => ?_)
    rw [← hw_44] at hH
    refine lv_aload_n hx hb dX12_readStep_28 rfl (lv_at hl 1 rfl) ?_
    refine am_get hx hb hts hK hown hH (am_o12 (p := 271) (by decide +kernel)) rfl am_inX12 14 (by decide) am_q1333 (v := .ref (G.1 + 279)) rfl dX12_readStep_29 ?_
    refine lv_iload_n hx hb dX12_readStep_32 rfl (lv_at hl 2 rfl) ?_
    refine lv_iload_n hx hb dX12_readStep_33 rfl (lv_at hl 0 rfl) ?_
    obtain ⟨hi_45, hf⟩ := am_chk_some hf
    obtain ⟨w_46, hw_46, hf⟩ := am_v_some hf
    refine am_iast hx hb hK hH (am_ai_of (N := 160) (by decide +kernel)) hi_45 dX12_readStep_34 (fun H locs hH => ?_)
    rw [← hw_46] at hH
    refine lv_aload_n hx hb dX12_readStep_35 rfl (lv_at hl 1 rfl) ?_
    refine am_get hx hb hts hK hown hH (am_o12 (p := 271) (by decide +kernel)) rfl am_inX12 14 (by decide) am_q1333 (v := .ref (G.1 + 279)) rfl dX12_readStep_36 ?_
    refine lv_iload_n hx hb dX12_readStep_39 rfl (lv_at hl 2 rfl) ?_
    refine lv_iconst (v := 1) hx hb dX12_readStep_40 (by decide) ?_
    refine lv_iadd hx hb dX12_readStep_41 ?_
    refine lv_iconst (v := -1) hx hb dX12_readStep_42 (by decide) ?_
    obtain ⟨hi_47, hf⟩ := am_chk_some hf
    obtain ⟨w_48, hw_48, hf⟩ := am_v_some hf
    refine am_iast hx hb hK hH (am_ai_of (N := 160) (by decide +kernel)) hi_47 dX12_readStep_43 (fun H locs hH => ?_)
    rw [← hw_48] at hH
    refine lv_iload_n hx hb dX12_readStep_44 rfl (lv_at hl 0 rfl) ?_
    refine lv_iconst (v := 5) hx hb dX12_readStep_45 (by decide) ?_
    refine lv_icmp_ne (tgt := 68) hx hb dX12_readStep_46 (by decide) (fun hc_49 => ?_) (fun hc_49 => ?_)
    · have hf := (if_neg hc_49).symm.trans hf
      refine lv_iload_n hx hb dX12_readStep_68 rfl (lv_at hl 0 rfl) ?_
      refine lv_iconst (v := 1) hx hb dX12_readStep_69 (by decide) ?_
      refine lv_icmp_le (tgt := 113) hx hb dX12_readStep_70 (by decide) (fun hc_50 => ?_) (fun hc_50 => ?_)
      · have hf := (if_pos hc_50).symm.trans hf
        exact P113 w_48 H locs ls hf hH (lv_sub hl [] rfl)
      · have hf := (if_neg hc_50).symm.trans hf
        refine lv_aload_n hx hb dX12_readStep_73 rfl (lv_at hl 1 rfl) ?_
        obtain ⟨r_53, w_51, hq_52, hf⟩ := am_b2_some hf
        refine am_calli (r := r_53) (w' := w_51) (am_runV (n := 0) (As := []) (rest := []) ⟨hx, hb, hml, hown, hts⟩ hK hE hH (k_X12_ahead hq_52) (am_gV am_q1439 am_q1441 am_qs47 am_q13 am_q1442) (am_o12 (p := 271) (by decide +kernel)) rfl ⟨rfl, rfl⟩ (by decide +kernel) ⟨Nat.le_of_ble_eq_true rfl, Nat.le_of_ble_eq_true rfl⟩ rfl hl.1 rfl (Nat.le_of_ble_eq_true rfl) ⟨Nat.zero_le _, Nat.zero_le _⟩ dX12_readStep_74) hH (fun H locs hH => ?_)
        obtain ⟨r_56, w_54, hq_55, hf⟩ := am_b2_some hf
        refine am_calli (r := r_56) (w' := w_54) (am_runS (n := 1) (As := [.int r_53]) (rest := []) ⟨hx, hb, hml, hown, hts⟩ hK hE hH (k_X12_isDigit hq_55) (am_gS am_q1467 am_q1468 am_q13 am_q1469) ⟨rfl, rfl⟩ (by decide +kernel) ⟨Nat.le_of_ble_eq_true rfl, Nat.le_of_ble_eq_true rfl⟩ rfl hl.1 rfl (Nat.le_of_ble_eq_true rfl) ⟨Nat.zero_le _, Nat.zero_le _⟩ dX12_readStep_77) hH (fun H locs hH => ?_)
        refine lv_if_ne (tgt := 88) hx hb dX12_readStep_80 (by decide) (fun hc_57 => ?_) (fun hc_57 => ?_)
        · have hf := (if_neg hc_57).symm.trans hf
          refine lv_aload_n hx hb dX12_readStep_88 rfl (lv_at hl 1 rfl) ?_
          refine am_get hx hb hts hK hown hH (am_o12 (p := 271) (by decide +kernel)) rfl am_inX12 14 (by decide) am_q1333 (v := .ref (G.1 + 279)) rfl dX12_readStep_89 ?_
          refine lv_iload_n hx hb dX12_readStep_92 rfl (lv_at hl 2 rfl) ?_
          refine lv_iconst (v := 1) hx hb dX12_readStep_93 (by decide) ?_
          refine lv_iadd hx hb dX12_readStep_94 ?_
          refine lv_aload_n hx hb dX12_readStep_95 rfl (lv_at hl 1 rfl) ?_
          obtain ⟨r_60, w_58, hq_59, hf⟩ := am_b2_some hf
          refine am_calli (r := r_60) (w' := w_58) (am_runV (n := 0) (As := []) (rest := [.int (a1 + (1 : Int32)), .ref (G.1 + 279)]) ⟨hx, hb, hml, hown, hts⟩ hK hE hH (k_X12_here hq_59) (am_gV am_q1443 am_q1445 am_qs48 am_q13 am_q1446) (am_o12 (p := 271) (by decide +kernel)) rfl ⟨rfl, rfl⟩ (by decide +kernel) ⟨Nat.le_of_ble_eq_true rfl, Nat.le_of_ble_eq_true rfl⟩ rfl hl.1 rfl (Nat.le_of_ble_eq_true rfl) ⟨Nat.zero_le _, Nat.zero_le _⟩ dX12_readStep_96) hH (fun H locs hH => ?_)
          refine lv_bipush (v := 48) hx hb dX12_readStep_99 (by decide) ?_
          refine lv_isub hx hb dX12_readStep_101 ?_
          obtain ⟨hi_61, hf⟩ := am_chk_some hf
          obtain ⟨w_62, hw_62, hf⟩ := am_v_some hf
          refine am_iast hx hb hK hH (am_ai_of (N := 160) (by decide +kernel)) hi_61 dX12_readStep_102 (fun H locs hH => ?_)
          rw [← hw_62] at hH
          refine lv_aload_n hx hb dX12_readStep_103 rfl (lv_at hl 1 rfl) ?_
          refine lv_dup hx hb dX12_readStep_104 rfl ?_
          refine am_get hx hb hts hK hown hH (am_o12 (p := 271) (by decide +kernel)) rfl am_inX12 3 (by decide) am_q1322 (v := .int (w_62.1 271 3)) rfl dX12_readStep_105 ?_
          refine lv_iconst (v := 1) hx hb dX12_readStep_108 (by decide) ?_
          refine lv_iadd hx hb dX12_readStep_109 ?_
          obtain ⟨w_63, hw_63, hf⟩ := am_v_some hf
          refine am_puti hx hb hts hK hown hH (am_o12 (p := 271) (by decide +kernel)) rfl am_inX12 tyX12 tyX12_ok nmX12 3 (by decide) am_q1322 rfl rfl rfl (fun _ _ => Nat.le_of_ble_eq_true rfl) (fun _ _ _ => rfl) dX12_readStep_110 (fun H locs hH => ?_)
          rw [← hw_63] at hH
          exact P113 w_63 H locs ls hf hH (lv_sub hl [] rfl)
        · have hf := (if_pos hc_57).symm.trans hf
          refine lv_aload_n hx hb dX12_readStep_83 rfl (lv_at hl 1 rfl) ?_
          obtain ⟨w_64, hq_65, hf⟩ := am_b1_some hf
          refine am_callv (w' := w_64) (am_runV (n := 0) (As := []) (rest := []) ⟨hx, hb, hml, hown, hts⟩ hK hE hH (k_X12_bad hq_65) (am_gV am_q1470 am_q1472 am_qs51 am_q13 am_q1473) (am_o12 (p := 271) (by decide +kernel)) rfl ⟨rfl, rfl⟩ (by decide +kernel) ⟨Nat.le_of_ble_eq_true rfl, Nat.le_of_ble_eq_true rfl⟩ rfl hl.1 rfl (Nat.le_of_ble_eq_true rfl) ⟨Nat.zero_le _, Nat.zero_le _⟩ dX12_readStep_84) hH (fun H locs hH => ?_)
          exact am_retv hx hb hr hlocks hH hf dX12_readStep_87
    · have hf := (if_pos hc_49).symm.trans hf
      refine lv_aload_n hx hb dX12_readStep_49 rfl (lv_at hl 1 rfl) ?_
      refine am_get hx hb hts hK hown hH (am_o12 (p := 271) (by decide +kernel)) rfl am_inX12 14 (by decide) am_q1333 (v := .ref (G.1 + 279)) rfl dX12_readStep_50 ?_
      refine lv_iload_n hx hb dX12_readStep_53 rfl (lv_at hl 2 rfl) ?_
      refine lv_iconst (v := 1) hx hb dX12_readStep_54 (by decide) ?_
      refine lv_iadd hx hb dX12_readStep_55 ?_
      refine lv_aload_n hx hb dX12_readStep_56 rfl (lv_at hl 1 rfl) ?_
      refine lv_iconst (v := 0) hx hb dX12_readStep_57 (by decide) ?_
      refine lv_sipush (v := 9999) hx hb dX12_readStep_58 (by decide) ?_
      obtain ⟨r_68, w_66, hq_67, hf⟩ := am_b2_some hf
      refine am_calli (r := r_68) (w' := w_66) (am_runV (n := 2) (As := [.int (0 : Int32), .int (9999 : Int32)]) (rest := [.int (a1 + (1 : Int32)), .ref (G.1 + 279)]) ⟨hx, hb, hml, hown, hts⟩ hK hE hH (k_X12_number hq_67) (am_gV am_q1463 am_q1465 am_qs50 am_q13 am_q1466) (am_o12 (p := 271) (by decide +kernel)) rfl ⟨rfl, rfl⟩ (by decide +kernel) ⟨Nat.le_of_ble_eq_true rfl, Nat.le_of_ble_eq_true rfl⟩ rfl hl.1 rfl (Nat.le_of_ble_eq_true rfl) ⟨Nat.zero_le _, Nat.zero_le _⟩ dX12_readStep_61) hH (fun H locs hH => ?_)
      obtain ⟨hi_69, hf⟩ := am_chk_some hf
      obtain ⟨w_70, hw_70, hf⟩ := am_v_some hf
      refine am_iast hx hb hK hH (am_ai_of (N := 160) (by decide +kernel)) hi_69 dX12_readStep_64 (fun H locs hH => ?_)
      rw [← hw_70] at hH
      refine lv_goto (tgt := 113) hx hb dX12_readStep_65 (by decide) ?_
      exact P113 w_70 H locs ls hf hH (lv_sub hl [] rfl)
  · have hf := (if_pos hc_43).symm.trans hf
    refine lv_aload_n hx hb dX12_readStep_13 rfl (lv_at hl 1 rfl) ?_
    obtain ⟨w_71, hq_72, hf⟩ := am_b1_some hf
    refine am_callv (w' := w_71) (am_runV (n := 0) (As := []) (rest := []) ⟨hx, hb, hml, hown, hts⟩ hK hE hH (k_X12_bad hq_72) (am_gV am_q1470 am_q1472 am_qs51 am_q13 am_q1473) (am_o12 (p := 271) (by decide +kernel)) rfl ⟨rfl, rfl⟩ (by decide +kernel) ⟨Nat.le_of_ble_eq_true rfl, Nat.le_of_ble_eq_true rfl⟩ rfl hl.1 rfl (Nat.le_of_ble_eq_true rfl) ⟨Nat.zero_le _, Nat.zero_le _⟩ dX12_readStep_14) hH (fun H locs hH => ?_)
    exact am_retv hx hb hr hlocks hH hf dX12_readStep_17

def f_X12_readScript_125 (a1 : Int32) (w : am_S) : Option (Int32 × am_S) :=
  some (w.1 271 4, w)
def f_X12_readScript_98 (a1 : Int32) (x2 : Int32) (s0 : Int32) (s1 : Int32) (w : am_S) : Option ((Int32 × am_S) ⊕ (Int32 × am_S)) :=
  am_v (am_pi w 271 3 (s1 + s0)) fun (w_28 : am_S) => some (.inr (x2, w_28))
def f_X12_readScript_83 (a1 : Int32) (s0 : Int32) (w : am_S) : Option ((Int32 × am_S) ⊕ (Int32 × am_S)) :=
  if s0 = 0 then (f_X12_readScript_98 a1 s0 (0 : Int32) (w.1 271 3) w) else (f_X12_readScript_98 a1 s0 (1 : Int32) (w.1 271 3) w)
def f_X12_readScript_82 (a1 : Int32) (w : am_S) : Option ((Int32 × am_S) ⊕ (Int32 × am_S)) :=
  f_X12_readScript_83 a1 (0 : Int32) w
def f_X12_readScript_19b (a1 : Int32) (x2 : Int32) (w : am_S) : Option ((Int32 × am_S) ⊕ (Int32 × am_S)) :=
  if x2 = 0 then (am_x (if (w.1 271 4) = (-1 : Int32) then (am_b2 (f_X12_ahead w) fun r_35 w_33 => if r_35 = (-1 : Int32) then (f_X12_readScript_125 a1 w_33) else (am_b1 (f_X12_bad w_33) fun w_37 => f_X12_readScript_125 a1 w_37)) else (f_X12_readScript_125 a1 w))) else (am_chk a1 5 (am_b1 (f_X12_readStep ((2 : Int32) * (((16 : Int32) * a1) + (w.1 280 a1.toNatClampNeg))) w) fun w_40 => am_chk a1 5 (am_chk a1 5 (am_v (am_pi w_40 280 a1.toNatClampNeg ((w_40.1 280 a1.toNatClampNeg) + (1 : Int32))) fun (w_44 : am_S) => if (w_44.1 271 4) = (-1 : Int32) then (am_b2 (f_X12_ahead w_44) fun r_48 w_46 => if r_48 = (59 : Int32) then (am_chk a1 5 (if (16 : Int32) ≤ (w_46.1 280 a1.toNatClampNeg) then (f_X12_readScript_82 a1 w_46) else (f_X12_readScript_83 a1 (1 : Int32) w_46))) else (f_X12_readScript_82 a1 w_46)) else (f_X12_readScript_82 a1 w_44)))))
def f_X12_readScript_19 (a1 : Int32) (x2 : Int32) (w : am_S) : Option (Int32 × am_S) :=
  am_loop (fun (st : (Int32 × am_S)) => f_X12_readScript_19b a1 st.1 st.2) am_fuel (x2, w)
def f_X12_readScript (a1 : Int32) (w : am_S) : Option (Int32 × am_S) :=
  am_v (am_pi w 271 3 (0 : Int32)) fun (w_52 : am_S) => am_v (am_pi w_52 271 4 (-1 : Int32)) fun (w_53 : am_S) => am_chk a1 5 (am_v (am_pi w_53 280 a1.toNatClampNeg (0 : Int32)) fun (w_55 : am_S) => f_X12_readScript_19 a1 (1 : Int32) w_55)
set_option maxRecDepth 100000 in
set_option maxHeartbeats 4000000 in
theorem k_X12_readScript {G : am_G} {l : Launch} {a1 : Int32}  {w : am_S} {rr : Int32} {ww : am_S} (hf : f_X12_readScript a1 w = some (rr, ww)) : am_Mi G l yX12_readScript (Cond.code yX12_readScript cX12_readScript 3 (some .int) :: am_T) { frames := 4, cells := 0, slots := 0, locals := 256 } [.ref (G.1 + 271), .int a1] w rr ww := by
  refine Met.ofW (cc := cX12_readScript) (maxL := 3) (ret := (some .int)) (by decide) rfl ?_
  intro p e s m args below meth c s₁ B hml hv
  obtain ⟨rfl, hx, hb, hr, hts, hown, hlocks, hK, hE, hH⟩ := am_begin B hv
  have hown : s.vm.findClass RX12 = some m.cls := hown
  show W p l e { frames := 4, cells := 0, slots := 0, locals := 256 } s m _ below meth c s.heap [] 0 0 _ _
  have P125 : ∀ (w : am_S) (H : Heap) (locs : List Loc) (ls : Array Slot), f_X12_readScript_125 a1 w = some (rr, ww) → am_H G w s H locs → lv_has ls 3 [(0, .ref (G.1 + 271))] → W p l e { frames := 4, cells := 0, slots := 0, locals := 256 } s m [.ref (G.1 + 271), .int a1].toArray below meth c H locs 0 0 (MQ below (va_Qi (fun (x : Int32) (u : am_S) => x = rr ∧ u = ww) (am_U G) (am_A G)) [.ref (G.1 + 271), .int a1].toArray s 0 0 (am_A G)) (F0 m 125 ls []) := by
    intro w H locs ls hf hH hl
    unfold f_X12_readScript_125 at hf
    refine lv_aload_n hx hb dX12_readScript_125 rfl (lv_at hl 0 rfl) ?_
    refine am_get hx hb hts hK hown hH (am_o12 (p := 271) (by decide +kernel)) rfl am_inX12 4 (by decide) am_q1323 (v := .int (w.1 271 4)) rfl dX12_readScript_126 ?_
    exact am_reti hx hb hr hlocks hH hf dX12_readScript_129
  have P19 : ∀ (n1 : Nat) (x2 : Int32) (w : am_S) (H : Heap) (locs : List Loc) (ls : Array Slot), am_loop (fun (st : (Int32 × am_S)) => f_X12_readScript_19b a1 st.1 st.2) n1 (x2, w) = some (rr, ww) → am_H G w s H locs → lv_has ls 3 [(0, .ref (G.1 + 271)), (1, .int a1), (2, .int x2)] → W p l e { frames := 4, cells := 0, slots := 0, locals := 256 } s m [.ref (G.1 + 271), .int a1].toArray below meth c H locs 0 0 (MQ below (va_Qi (fun (x : Int32) (u : am_S) => x = rr ∧ u = ww) (am_U G) (am_A G)) [.ref (G.1 + 271), .int a1].toArray s 0 0 (am_A G)) (F0 m 19 ls []) := by
    intro n1
    induction n1 with
    | zero =>
      intro x2 w H locs ls hf hH hl
      exact (am_loop_zero hf).elim
    | succ n1 ih1 =>
      intro x2 w H locs ls hf hH hl
      obtain ⟨z1, hf, hk1⟩ := am_loop_succ hf
      have hf : f_X12_readScript_19b a1 x2 w = some z1 := hf
      have P98 : ∀ (x2 : Int32) (s0 : Int32) (s1 : Int32) (w : am_S) (z1 : ((Int32 × am_S) ⊕ (Int32 × am_S))) (H : Heap) (locs : List Loc) (ls : Array Slot), f_X12_readScript_98 a1 x2 s0 s1 w = some z1 → am_lk (fun (st : (Int32 × am_S)) => f_X12_readScript_19b a1 st.1 st.2) n1 (rr, ww) z1 → am_H G w s H locs → lv_has ls 3 [(0, .ref (G.1 + 271)), (1, .int a1), (2, .int x2)] → W p l e { frames := 4, cells := 0, slots := 0, locals := 256 } s m [.ref (G.1 + 271), .int a1].toArray below meth c H locs 0 0 (MQ below (va_Qi (fun (x : Int32) (u : am_S) => x = rr ∧ u = ww) (am_U G) (am_A G)) [.ref (G.1 + 271), .int a1].toArray s 0 0 (am_A G)) (F0 m 98 ls [.int s0, .int s1, .ref (G.1 + 271)]) := by
        intro x2 s0 s1 w z1 H locs ls hf hk1 hH hl
        unfold f_X12_readScript_98 at hf
        refine lv_iadd hx hb dX12_readScript_98 ?_
        obtain ⟨w_28, hw_28, hf⟩ := am_v_some hf
        refine am_puti hx hb hts hK hown hH (am_o12 (p := 271) (by decide +kernel)) rfl am_inX12 tyX12 tyX12_ok nmX12 3 (by decide) am_q1322 rfl rfl rfl (fun _ _ => Nat.le_of_ble_eq_true rfl) (fun _ _ _ => rfl) dX12_readScript_99 (fun H locs hH => ?_)
        rw [← hw_28] at hH
        refine lv_goto (tgt := 19) hx hb dX12_readScript_102 (by decide) ?_
        obtain rfl := Option.some.inj hf
        exact ih1 x2 w_28 H locs ls hk1 hH (lv_sub hl [0, 1, 2] rfl)
      have P83 : ∀ (s0 : Int32) (w : am_S) (z1 : ((Int32 × am_S) ⊕ (Int32 × am_S))) (H : Heap) (locs : List Loc) (ls : Array Slot), f_X12_readScript_83 a1 s0 w = some z1 → am_lk (fun (st : (Int32 × am_S)) => f_X12_readScript_19b a1 st.1 st.2) n1 (rr, ww) z1 → am_H G w s H locs → lv_has ls 3 [(0, .ref (G.1 + 271)), (1, .int a1)] → W p l e { frames := 4, cells := 0, slots := 0, locals := 256 } s m [.ref (G.1 + 271), .int a1].toArray below meth c H locs 0 0 (MQ below (va_Qi (fun (x : Int32) (u : am_S) => x = rr ∧ u = ww) (am_U G) (am_A G)) [.ref (G.1 + 271), .int a1].toArray s 0 0 (am_A G)) (F0 m 83 ls [.int s0]) := by
        intro s0 w z1 H locs ls hf hk1 hH hl
        unfold f_X12_readScript_83 at hf
        refine lv_istore_n (lv' := [(2, .int s0), (0, .ref (G.1 + 271)), (1, .int a1)]) hx hb dX12_readScript_83 rfl hl (by decide) rfl (fun ls hl => ?_)
        refine lv_aload_n hx hb dX12_readScript_84 rfl (lv_at hl 1 rfl) ?_
        refine lv_dup hx hb dX12_readScript_85 rfl ?_
        refine am_get hx hb hts hK hown hH (am_o12 (p := 271) (by decide +kernel)) rfl am_inX12 3 (by decide) am_q1322 (v := .int (w.1 271 3)) rfl dX12_readScript_86 ?_
        refine lv_iload_n hx hb dX12_readScript_89 rfl (lv_at hl 0 rfl) ?_
        refine lv_if_eq (tgt := 97) hx hb dX12_readScript_90 (by decide) (fun hc_29 => ?_) (fun hc_29 => ?_)
        · have hf := (if_pos hc_29).symm.trans hf
          refine lv_iconst (v := 0) hx hb dX12_readScript_97 (by decide) ?_
          exact P98 s0 (0 : Int32) (w.1 271 3) w z1 H locs ls hf hk1 hH (lv_sub hl [1, 2, 0] rfl)
        · have hf := (if_neg hc_29).symm.trans hf
          refine lv_iconst (v := 1) hx hb dX12_readScript_93 (by decide) ?_
          refine lv_goto (tgt := 98) hx hb dX12_readScript_94 (by decide) ?_
          exact P98 s0 (1 : Int32) (w.1 271 3) w z1 H locs ls hf hk1 hH (lv_sub hl [1, 2, 0] rfl)
      have P82 : ∀ (w : am_S) (z1 : ((Int32 × am_S) ⊕ (Int32 × am_S))) (H : Heap) (locs : List Loc) (ls : Array Slot), f_X12_readScript_82 a1 w = some z1 → am_lk (fun (st : (Int32 × am_S)) => f_X12_readScript_19b a1 st.1 st.2) n1 (rr, ww) z1 → am_H G w s H locs → lv_has ls 3 [(0, .ref (G.1 + 271)), (1, .int a1)] → W p l e { frames := 4, cells := 0, slots := 0, locals := 256 } s m [.ref (G.1 + 271), .int a1].toArray below meth c H locs 0 0 (MQ below (va_Qi (fun (x : Int32) (u : am_S) => x = rr ∧ u = ww) (am_U G) (am_A G)) [.ref (G.1 + 271), .int a1].toArray s 0 0 (am_A G)) (F0 m 82 ls []) := by
        intro w z1 H locs ls hf hk1 hH hl
        unfold f_X12_readScript_82 at hf
        refine lv_iconst (v := 0) hx hb dX12_readScript_82 (by decide) ?_
        exact P83 (0 : Int32) w z1 H locs ls hf hk1 hH (lv_sub hl [0, 1] rfl)
      unfold f_X12_readScript_19b at hf
      refine lv_iload_n hx hb dX12_readScript_19 rfl (lv_at hl 2 rfl) ?_
      refine lv_if_eq (tgt := 105) hx hb dX12_readScript_20 (by decide) (fun hc_30 => ?_) (fun hc_30 => ?_)
      · have hf := (if_pos hc_30).symm.trans hf
        obtain ⟨y_31, hf, hzy_31⟩ := am_x_some hf
        rw [hzy_31] at hk1
        have hf := hf.trans (congrArg some (show y_31 = (rr, ww) from hk1))
        refine lv_aload_n hx hb dX12_readScript_105 rfl (lv_at hl 0 rfl) ?_
        refine am_get hx hb hts hK hown hH (am_o12 (p := 271) (by decide +kernel)) rfl am_inX12 4 (by decide) am_q1323 (v := .int (w.1 271 4)) rfl dX12_readScript_106 ?_
        refine lv_iconst (v := -1) hx hb dX12_readScript_109 (by decide) ?_
        refine lv_icmp_ne (tgt := 125) hx hb dX12_readScript_110 (by decide) (fun hc_32 => ?_) (fun hc_32 => ?_)
        · have hf := (if_neg hc_32).symm.trans hf
          exact P125 w H locs ls hf hH (lv_sub hl [0] rfl)
        · have hf := (if_pos hc_32).symm.trans hf
          refine lv_aload_n hx hb dX12_readScript_113 rfl (lv_at hl 0 rfl) ?_
          obtain ⟨r_35, w_33, hq_34, hf⟩ := am_b2_some hf
          refine am_calli (r := r_35) (w' := w_33) (am_runV (n := 0) (As := []) (rest := []) ⟨hx, hb, hml, hown, hts⟩ hK hE hH (k_X12_ahead hq_34) (am_gV am_q1439 am_q1441 am_qs47 am_q13 am_q1442) (am_o12 (p := 271) (by decide +kernel)) rfl ⟨rfl, rfl⟩ (by decide +kernel) ⟨Nat.le_of_ble_eq_true rfl, Nat.le_of_ble_eq_true rfl⟩ rfl hl.1 rfl (Nat.le_of_ble_eq_true rfl) ⟨Nat.zero_le _, Nat.zero_le _⟩ dX12_readScript_114) hH (fun H locs hH => ?_)
          refine lv_iconst (v := -1) hx hb dX12_readScript_117 (by decide) ?_
          refine lv_icmp_eq (tgt := 125) hx hb dX12_readScript_118 (by decide) (fun hc_36 => ?_) (fun hc_36 => ?_)
          · have hf := (if_pos hc_36).symm.trans hf
            exact P125 w_33 H locs ls hf hH (lv_sub hl [0] rfl)
          · have hf := (if_neg hc_36).symm.trans hf
            refine lv_aload_n hx hb dX12_readScript_121 rfl (lv_at hl 0 rfl) ?_
            obtain ⟨w_37, hq_38, hf⟩ := am_b1_some hf
            refine am_callv (w' := w_37) (am_runV (n := 0) (As := []) (rest := []) ⟨hx, hb, hml, hown, hts⟩ hK hE hH (k_X12_bad hq_38) (am_gV am_q1470 am_q1472 am_qs51 am_q13 am_q1473) (am_o12 (p := 271) (by decide +kernel)) rfl ⟨rfl, rfl⟩ (by decide +kernel) ⟨Nat.le_of_ble_eq_true rfl, Nat.le_of_ble_eq_true rfl⟩ rfl hl.1 rfl (Nat.le_of_ble_eq_true rfl) ⟨Nat.zero_le _, Nat.zero_le _⟩ dX12_readScript_122) hH (fun H locs hH => ?_)
            exact P125 w_37 H locs ls hf hH (lv_sub hl [0] rfl)
      · have hf := (if_neg hc_30).symm.trans hf
        refine lv_aload_n hx hb dX12_readScript_23 rfl (lv_at hl 0 rfl) ?_
        refine lv_iconst (v := 2) hx hb dX12_readScript_24 (by decide) ?_
        refine lv_bipush (v := 16) hx hb dX12_readScript_25 (by decide) ?_
        refine lv_iload_n hx hb dX12_readScript_27 rfl (lv_at hl 1 rfl) ?_
        refine lv_imul hx hb dX12_readScript_28 ?_
        refine lv_aload_n hx hb dX12_readScript_29 rfl (lv_at hl 0 rfl) ?_
        refine am_get hx hb hts hK hown hH (am_o12 (p := 271) (by decide +kernel)) rfl am_inX12 15 (by decide) am_q1334 (v := .ref (G.1 + 280)) rfl dX12_readScript_30 ?_
        refine lv_iload_n hx hb dX12_readScript_33 rfl (lv_at hl 1 rfl) ?_
        obtain ⟨hi_39, hf⟩ := am_chk_some hf
        refine am_iald hx hb hK hH (am_ai_of (N := 5) (by decide +kernel)) hi_39 dX12_readScript_34 ?_
        refine lv_iadd hx hb dX12_readScript_35 ?_
        refine lv_imul hx hb dX12_readScript_36 ?_
        obtain ⟨w_40, hq_41, hf⟩ := am_b1_some hf
        refine am_callv (w' := w_40) (am_runV (n := 1) (As := [.int ((2 : Int32) * (((16 : Int32) * a1) + (w.1 280 a1.toNatClampNeg)))]) (rest := []) ⟨hx, hb, hml, hown, hts⟩ hK hE hH (k_X12_readStep hq_41) (am_gV am_q1482 am_q1484 am_qs54 am_q13 am_q1485) (am_o12 (p := 271) (by decide +kernel)) rfl ⟨rfl, rfl⟩ (by decide +kernel) ⟨Nat.le_of_ble_eq_true rfl, Nat.le_of_ble_eq_true rfl⟩ rfl hl.1 rfl (Nat.le_of_ble_eq_true rfl) ⟨Nat.zero_le _, Nat.zero_le _⟩ dX12_readScript_37) hH (fun H locs hH => ?_)
        refine lv_aload_n hx hb dX12_readScript_40 rfl (lv_at hl 0 rfl) ?_
        refine am_get hx hb hts hK hown hH (am_o12 (p := 271) (by decide +kernel)) rfl am_inX12 15 (by decide) am_q1334 (v := .ref (G.1 + 280)) rfl dX12_readScript_41 ?_
        refine lv_iload_n hx hb dX12_readScript_44 rfl (lv_at hl 1 rfl) ?_
        refine lv_dup2_11 hx hb dX12_readScript_45 rfl rfl ?_
        obtain ⟨hi_42, hf⟩ := am_chk_some hf
        refine am_iald hx hb hK hH (am_ai_of (N := 5) (by decide +kernel)) hi_42 dX12_readScript_46 ?_
        refine lv_iconst (v := 1) hx hb dX12_readScript_47 (by decide) ?_
        refine lv_iadd hx hb dX12_readScript_48 ?_
        obtain ⟨hi_43, hf⟩ := am_chk_some hf
        obtain ⟨w_44, hw_44, hf⟩ := am_v_some hf
        refine am_iast hx hb hK hH (am_ai_of (N := 5) (by decide +kernel)) hi_43 dX12_readScript_49 (fun H locs hH => ?_)
        rw [← hw_44] at hH
        refine lv_aload_n hx hb dX12_readScript_50 rfl (lv_at hl 0 rfl) ?_
        refine am_get hx hb hts hK hown hH (am_o12 (p := 271) (by decide +kernel)) rfl am_inX12 4 (by decide) am_q1323 (v := .int (w_44.1 271 4)) rfl dX12_readScript_51 ?_
        refine lv_iconst (v := -1) hx hb dX12_readScript_54 (by decide) ?_
        refine lv_icmp_ne (tgt := 82) hx hb dX12_readScript_55 (by decide) (fun hc_45 => ?_) (fun hc_45 => ?_)
        · have hf := (if_neg hc_45).symm.trans hf
          exact P82 w_44 z1 H locs ls hf hk1 hH (lv_sub hl [0, 1] rfl)
        · have hf := (if_pos hc_45).symm.trans hf
          refine lv_aload_n hx hb dX12_readScript_58 rfl (lv_at hl 0 rfl) ?_
          obtain ⟨r_48, w_46, hq_47, hf⟩ := am_b2_some hf
          refine am_calli (r := r_48) (w' := w_46) (am_runV (n := 0) (As := []) (rest := []) ⟨hx, hb, hml, hown, hts⟩ hK hE hH (k_X12_ahead hq_47) (am_gV am_q1439 am_q1441 am_qs47 am_q13 am_q1442) (am_o12 (p := 271) (by decide +kernel)) rfl ⟨rfl, rfl⟩ (by decide +kernel) ⟨Nat.le_of_ble_eq_true rfl, Nat.le_of_ble_eq_true rfl⟩ rfl hl.1 rfl (Nat.le_of_ble_eq_true rfl) ⟨Nat.zero_le _, Nat.zero_le _⟩ dX12_readScript_59) hH (fun H locs hH => ?_)
          refine lv_bipush (v := 59) hx hb dX12_readScript_62 (by decide) ?_
          refine lv_icmp_ne (tgt := 82) hx hb dX12_readScript_64 (by decide) (fun hc_49 => ?_) (fun hc_49 => ?_)
          · have hf := (if_neg hc_49).symm.trans hf
            exact P82 w_46 z1 H locs ls hf hk1 hH (lv_sub hl [0, 1] rfl)
          · have hf := (if_pos hc_49).symm.trans hf
            refine lv_aload_n hx hb dX12_readScript_67 rfl (lv_at hl 0 rfl) ?_
            refine am_get hx hb hts hK hown hH (am_o12 (p := 271) (by decide +kernel)) rfl am_inX12 15 (by decide) am_q1334 (v := .ref (G.1 + 280)) rfl dX12_readScript_68 ?_
            refine lv_iload_n hx hb dX12_readScript_71 rfl (lv_at hl 1 rfl) ?_
            obtain ⟨hi_50, hf⟩ := am_chk_some hf
            refine am_iald hx hb hK hH (am_ai_of (N := 5) (by decide +kernel)) hi_50 dX12_readScript_72 ?_
            refine lv_bipush (v := 16) hx hb dX12_readScript_73 (by decide) ?_
            refine lv_icmp_ge (tgt := 82) hx hb dX12_readScript_75 (by decide) (fun hc_51 => ?_) (fun hc_51 => ?_)
            · have hf := (if_pos hc_51).symm.trans hf
              exact P82 w_46 z1 H locs ls hf hk1 hH (lv_sub hl [0, 1] rfl)
            · have hf := (if_neg hc_51).symm.trans hf
              refine lv_iconst (v := 1) hx hb dX12_readScript_78 (by decide) ?_
              refine lv_goto (tgt := 83) hx hb dX12_readScript_79 (by decide) ?_
              exact P83 (1 : Int32) w_46 z1 H locs ls hf hk1 hH (lv_sub hl [0, 1] rfl)
  refine am_enter (lv := [(0, .ref (G.1 + 271)), (1, .int a1)]) (Nat.le_of_ble_eq_true rfl) rfl (fun ls hl => ?_)
  unfold f_X12_readScript at hf
  refine am_start hH (fun H locs hH => ?_)
  refine lv_aload_n hx hb dX12_readScript_0 rfl (lv_at hl 0 rfl) ?_
  refine lv_iconst (v := 0) hx hb dX12_readScript_1 (by decide) ?_
  obtain ⟨w_52, hw_52, hf⟩ := am_v_some hf
  refine am_puti hx hb hts hK hown hH (am_o12 (p := 271) (by decide +kernel)) rfl am_inX12 tyX12 tyX12_ok nmX12 3 (by decide) am_q1322 rfl rfl rfl (fun _ _ => Nat.le_of_ble_eq_true rfl) (fun _ _ _ => rfl) dX12_readScript_2 (fun H locs hH => ?_)
  rw [← hw_52] at hH
  refine lv_aload_n hx hb dX12_readScript_5 rfl (lv_at hl 0 rfl) ?_
  refine lv_iconst (v := -1) hx hb dX12_readScript_6 (by decide) ?_
  obtain ⟨w_53, hw_53, hf⟩ := am_v_some hf
  refine am_puti hx hb hts hK hown hH (am_o12 (p := 271) (by decide +kernel)) rfl am_inX12 tyX12 tyX12_ok nmX12 4 (by decide) am_q1323 rfl rfl rfl (fun _ _ => Nat.le_of_ble_eq_true rfl) (fun _ _ _ => rfl) dX12_readScript_7 (fun H locs hH => ?_)
  rw [← hw_53] at hH
  refine lv_aload_n hx hb dX12_readScript_10 rfl (lv_at hl 0 rfl) ?_
  refine am_get hx hb hts hK hown hH (am_o12 (p := 271) (by decide +kernel)) rfl am_inX12 15 (by decide) am_q1334 (v := .ref (G.1 + 280)) rfl dX12_readScript_11 ?_
  refine lv_iload_n hx hb dX12_readScript_14 rfl (lv_at hl 1 rfl) ?_
  refine lv_iconst (v := 0) hx hb dX12_readScript_15 (by decide) ?_
  obtain ⟨hi_54, hf⟩ := am_chk_some hf
  obtain ⟨w_55, hw_55, hf⟩ := am_v_some hf
  refine am_iast hx hb hK hH (am_ai_of (N := 5) (by decide +kernel)) hi_54 dX12_readScript_16 (fun H locs hH => ?_)
  rw [← hw_55] at hH
  refine lv_iconst (v := 1) hx hb dX12_readScript_17 (by decide) ?_
  refine lv_istore_n (lv' := [(2, .int (1 : Int32)), (0, .ref (G.1 + 271)), (1, .int a1)]) hx hb dX12_readScript_18 rfl hl (by decide) rfl (fun ls hl => ?_)
  exact P19 am_fuel (1 : Int32) w_55 H locs ls hf hH (lv_sub hl [1, 2, 0] rfl)
