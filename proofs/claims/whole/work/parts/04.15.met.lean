/-! functions and contracts of methods, by program (wip/whole/gen.py) -/
def f_X12_text_69 (a1 : Int32) (w : am_S) : Option (Int32 × am_S) :=
  some ((-1 : Int32), w)
def f_X12_text_22 (a1 : Int32) (w : am_S) : Option (Int32 × am_S) :=
  if a1 = (1 : Int32) then (if (4 : Int32) ≤ (w.1 271 16) then (f_X12_text_69 a1 w) else (am_b2 (f_X12_readScript (w.1 271 16) w) fun r_22 w_20 => if r_22 = (-1 : Int32) then (am_v (am_pi w_20 271 2 (0 : Int32)) fun (w_24 : am_S) => am_v (am_pi w_24 271 16 ((w_24.1 271 16) + (1 : Int32))) fun (w_25 : am_S) => some ((w_25.1 271 16) - (1 : Int32), w_25)) else (f_X12_text_69 a1 w_20))) else (f_X12_text_69 a1 w)
def f_X12_text (a1 : Int32) (w : am_S) : Option (Int32 × am_S) :=
  if a1 = 0 then (am_b2 (f_X12_readField w) fun r_29 w_27 => if r_29 = (-1 : Int32) then (am_v (am_pi w_27 271 2 (0 : Int32)) fun (w_31 : am_S) => am_b2 (f_X12_takeField w_31) fun r_34 w_32 => some (r_34, w_32)) else (f_X12_text_22 a1 w_27)) else (f_X12_text_22 a1 w)
set_option maxRecDepth 100000 in
set_option maxHeartbeats 4000000 in
theorem k_X12_text {G : am_G} {l : Launch} {a1 : Int32}  {w : am_S} {rr : Int32} {ww : am_S} (hf : f_X12_text a1 w = some (rr, ww)) : am_Mi G l yX12_text (Cond.code yX12_text cX12_text 2 (some .int) :: am_T) { frames := 5, cells := 0, slots := 0, locals := 320 } [.ref (G.1 + 271), .int a1] w rr ww := by
  refine Met.ofW (cc := cX12_text) (maxL := 2) (ret := (some .int)) (by decide) rfl ?_
  intro p e s m args below meth c s₁ B hml hv
  obtain ⟨rfl, hx, hb, hr, hts, hown, hlocks, hK, hE, hH⟩ := am_begin B hv
  have hown : s.vm.findClass RX12 = some m.cls := hown
  show W p l e { frames := 5, cells := 0, slots := 0, locals := 320 } s m _ below meth c s.heap [] 0 0 _ _
  have P69 : ∀ (w : am_S) (H : Heap) (locs : List Loc) (ls : Array Slot), f_X12_text_69 a1 w = some (rr, ww) → am_H G w s H locs → lv_has ls 2 [] → W p l e { frames := 5, cells := 0, slots := 0, locals := 320 } s m [.ref (G.1 + 271), .int a1].toArray below meth c H locs 0 0 (MQ below (va_Qi (fun (x : Int32) (u : am_S) => x = rr ∧ u = ww) (am_U G) (am_A G)) [.ref (G.1 + 271), .int a1].toArray s 0 0 (am_A G)) (F0 m 69 ls []) := by
    intro w H locs ls hf hH hl
    unfold f_X12_text_69 at hf
    refine lv_iconst (v := -1) hx hb dX12_text_69 (by decide) ?_
    exact am_reti hx hb hr hlocks hH hf dX12_text_70
  have P22 : ∀ (w : am_S) (H : Heap) (locs : List Loc) (ls : Array Slot), f_X12_text_22 a1 w = some (rr, ww) → am_H G w s H locs → lv_has ls 2 [(0, .ref (G.1 + 271)), (1, .int a1)] → W p l e { frames := 5, cells := 0, slots := 0, locals := 320 } s m [.ref (G.1 + 271), .int a1].toArray below meth c H locs 0 0 (MQ below (va_Qi (fun (x : Int32) (u : am_S) => x = rr ∧ u = ww) (am_U G) (am_A G)) [.ref (G.1 + 271), .int a1].toArray s 0 0 (am_A G)) (F0 m 22 ls []) := by
    intro w H locs ls hf hH hl
    unfold f_X12_text_22 at hf
    refine lv_iload_n hx hb dX12_text_22 rfl (lv_at hl 1 rfl) ?_
    refine lv_iconst (v := 1) hx hb dX12_text_23 (by decide) ?_
    refine lv_icmp_ne (tgt := 69) hx hb dX12_text_24 (by decide) (fun hc_18 => ?_) (fun hc_18 => ?_)
    · have hf := (if_neg hc_18).symm.trans hf
      exact P69 w H locs ls hf hH (lv_sub hl [] rfl)
    · have hf := (if_pos hc_18).symm.trans hf
      refine lv_aload_n hx hb dX12_text_27 rfl (lv_at hl 0 rfl) ?_
      refine am_get hx hb hts hK hown hH (am_o12 (p := 271) (by decide +kernel)) rfl am_inX12 16 (by decide) am_q1335 (v := .int (w.1 271 16)) rfl dX12_text_28 ?_
      refine lv_iconst (v := 4) hx hb dX12_text_31 (by decide) ?_
      refine lv_icmp_ge (tgt := 69) hx hb dX12_text_32 (by decide) (fun hc_19 => ?_) (fun hc_19 => ?_)
      · have hf := (if_pos hc_19).symm.trans hf
        exact P69 w H locs ls hf hH (lv_sub hl [] rfl)
      · have hf := (if_neg hc_19).symm.trans hf
        refine lv_aload_n hx hb dX12_text_35 rfl (lv_at hl 0 rfl) ?_
        refine lv_aload_n hx hb dX12_text_36 rfl (lv_at hl 0 rfl) ?_
        refine am_get hx hb hts hK hown hH (am_o12 (p := 271) (by decide +kernel)) rfl am_inX12 16 (by decide) am_q1335 (v := .int (w.1 271 16)) rfl dX12_text_37 ?_
        obtain ⟨r_22, w_20, hq_21, hf⟩ := am_b2_some hf
        refine am_calli (r := r_22) (w' := w_20) (am_runV (n := 1) (As := [.int (w.1 271 16)]) (rest := []) ⟨hx, hb, hml, hown, hts⟩ hK hE hH (k_X12_readScript hq_21) (am_gV am_q1478 am_q1480 am_qs53 am_q13 am_q1481) (am_o12 (p := 271) (by decide +kernel)) rfl ⟨rfl, rfl⟩ (by decide +kernel) ⟨Nat.le_of_ble_eq_true rfl, Nat.le_of_ble_eq_true rfl⟩ rfl hl.1 rfl (Nat.le_of_ble_eq_true rfl) ⟨Nat.zero_le _, Nat.zero_le _⟩ dX12_text_40) hH (fun H locs hH => ?_)
        refine lv_iconst (v := -1) hx hb dX12_text_43 (by decide) ?_
        refine lv_icmp_ne (tgt := 69) hx hb dX12_text_44 (by decide) (fun hc_23 => ?_) (fun hc_23 => ?_)
        · have hf := (if_neg hc_23).symm.trans hf
          exact P69 w_20 H locs ls hf hH (lv_sub hl [] rfl)
        · have hf := (if_pos hc_23).symm.trans hf
          refine lv_aload_n hx hb dX12_text_47 rfl (lv_at hl 0 rfl) ?_
          refine lv_iconst (v := 0) hx hb dX12_text_48 (by decide) ?_
          obtain ⟨w_24, hw_24, hf⟩ := am_v_some hf
          refine am_puti hx hb hts hK hown hH (am_o12 (p := 271) (by decide +kernel)) rfl am_inX12 tyX12 tyX12_ok nmX12 2 (by decide) am_q1321 rfl rfl rfl (fun _ _ => Nat.le_of_ble_eq_true rfl) (fun _ _ _ => rfl) dX12_text_49 (fun H locs hH => ?_)
          rw [← hw_24] at hH
          refine lv_aload_n hx hb dX12_text_52 rfl (lv_at hl 0 rfl) ?_
          refine lv_dup hx hb dX12_text_53 rfl ?_
          refine am_get hx hb hts hK hown hH (am_o12 (p := 271) (by decide +kernel)) rfl am_inX12 16 (by decide) am_q1335 (v := .int (w_24.1 271 16)) rfl dX12_text_54 ?_
          refine lv_iconst (v := 1) hx hb dX12_text_57 (by decide) ?_
          refine lv_iadd hx hb dX12_text_58 ?_
          obtain ⟨w_25, hw_25, hf⟩ := am_v_some hf
          refine am_puti hx hb hts hK hown hH (am_o12 (p := 271) (by decide +kernel)) rfl am_inX12 tyX12 tyX12_ok nmX12 16 (by decide) am_q1335 rfl rfl rfl (fun _ _ => Nat.le_of_ble_eq_true rfl) (fun _ _ _ => rfl) dX12_text_59 (fun H locs hH => ?_)
          rw [← hw_25] at hH
          refine lv_aload_n hx hb dX12_text_62 rfl (lv_at hl 0 rfl) ?_
          refine am_get hx hb hts hK hown hH (am_o12 (p := 271) (by decide +kernel)) rfl am_inX12 16 (by decide) am_q1335 (v := .int (w_25.1 271 16)) rfl dX12_text_63 ?_
          refine lv_iconst (v := 1) hx hb dX12_text_66 (by decide) ?_
          refine lv_isub hx hb dX12_text_67 ?_
          exact am_reti hx hb hr hlocks hH hf dX12_text_68
  refine am_enter (lv := [(0, .ref (G.1 + 271)), (1, .int a1)]) (Nat.le_of_ble_eq_true rfl) rfl (fun ls hl => ?_)
  unfold f_X12_text at hf
  refine am_start hH (fun H locs hH => ?_)
  refine lv_iload_n hx hb dX12_text_0 rfl (lv_at hl 1 rfl) ?_
  refine lv_if_ne (tgt := 22) hx hb dX12_text_1 (by decide) (fun hc_26 => ?_) (fun hc_26 => ?_)
  · have hf := (if_neg hc_26).symm.trans hf
    exact P22 w H locs ls hf hH (lv_sub hl [0, 1] rfl)
  · have hf := (if_pos hc_26).symm.trans hf
    refine lv_aload_n hx hb dX12_text_4 rfl (lv_at hl 0 rfl) ?_
    obtain ⟨r_29, w_27, hq_28, hf⟩ := am_b2_some hf
    refine am_calli (r := r_29) (w' := w_27) (am_runV (n := 0) (As := []) (rest := []) ⟨hx, hb, hml, hown, hts⟩ hK hE hH (k_X12_readField hq_28) (am_gV am_q1432 am_q1434 am_qs46 am_q13 am_q1435) (am_o12 (p := 271) (by decide +kernel)) rfl ⟨rfl, rfl⟩ (by decide +kernel) ⟨Nat.le_of_ble_eq_true rfl, Nat.le_of_ble_eq_true rfl⟩ rfl hl.1 rfl (Nat.le_of_ble_eq_true rfl) ⟨Nat.zero_le _, Nat.zero_le _⟩ dX12_text_5) hH (fun H locs hH => ?_)
    refine lv_iconst (v := -1) hx hb dX12_text_8 (by decide) ?_
    refine lv_icmp_ne (tgt := 22) hx hb dX12_text_9 (by decide) (fun hc_30 => ?_) (fun hc_30 => ?_)
    · have hf := (if_neg hc_30).symm.trans hf
      exact P22 w_27 H locs ls hf hH (lv_sub hl [0, 1] rfl)
    · have hf := (if_pos hc_30).symm.trans hf
      refine lv_aload_n hx hb dX12_text_12 rfl (lv_at hl 0 rfl) ?_
      refine lv_iconst (v := 0) hx hb dX12_text_13 (by decide) ?_
      obtain ⟨w_31, hw_31, hf⟩ := am_v_some hf
      refine am_puti hx hb hts hK hown hH (am_o12 (p := 271) (by decide +kernel)) rfl am_inX12 tyX12 tyX12_ok nmX12 2 (by decide) am_q1321 rfl rfl rfl (fun _ _ => Nat.le_of_ble_eq_true rfl) (fun _ _ _ => rfl) dX12_text_14 (fun H locs hH => ?_)
      rw [← hw_31] at hH
      refine lv_aload_n hx hb dX12_text_17 rfl (lv_at hl 0 rfl) ?_
      obtain ⟨r_34, w_32, hq_33, hf⟩ := am_b2_some hf
      refine am_calli (r := r_34) (w' := w_32) (am_runV (n := 0) (As := []) (rest := []) ⟨hx, hb, hml, hown, hts⟩ hK hE hH (k_X12_takeField hq_33) (am_gV am_q1493 am_q1495 am_qs55 am_q13 am_q1496) (am_o12 (p := 271) (by decide +kernel)) rfl ⟨rfl, rfl⟩ (by decide +kernel) ⟨Nat.le_of_ble_eq_true rfl, Nat.le_of_ble_eq_true rfl⟩ rfl hl.1 rfl (Nat.le_of_ble_eq_true rfl) ⟨Nat.zero_le _, Nat.zero_le _⟩ dX12_text_18) hH (fun H locs hH => ?_)
      exact am_reti hx hb hr hlocks hH hf dX12_text_21

def f_X12_thrown  (w : am_S) : Option (Int32 × am_S) :=
  some (w.1 271 0, w)
set_option maxRecDepth 100000 in
set_option maxHeartbeats 4000000 in
theorem k_X12_thrown {G : am_G} {l : Launch}   {w : am_S} {rr : Int32} {ww : am_S} (hf : f_X12_thrown  w = some (rr, ww)) : am_Mi G l yX12_thrown (Cond.code yX12_thrown cX12_thrown 1 (some .int) :: am_T) { frames := 0, cells := 0, slots := 0, locals := 0 } [.ref (G.1 + 271)] w rr ww := by
  refine Met.ofW (cc := cX12_thrown) (maxL := 1) (ret := (some .int)) (by decide) rfl ?_
  intro p e s m args below meth c s₁ B hml hv
  obtain ⟨rfl, hx, hb, hr, hts, hown, hlocks, hK, hE, hH⟩ := am_begin B hv
  have hown : s.vm.findClass RX12 = some m.cls := hown
  show W p l e { frames := 0, cells := 0, slots := 0, locals := 0 } s m _ below meth c s.heap [] 0 0 _ _
  refine am_enter (lv := [(0, .ref (G.1 + 271))]) (Nat.le_of_ble_eq_true rfl) rfl (fun ls hl => ?_)
  unfold f_X12_thrown at hf
  refine am_start hH (fun H locs hH => ?_)
  refine lv_aload_n hx hb dX12_thrown_0 rfl (lv_at hl 0 rfl) ?_
  refine am_get hx hb hts hK hown hH (am_o12 (p := 271) (by decide +kernel)) rfl am_inX12 0 (by decide) am_q1319 (v := .int (w.1 271 0)) rfl dX12_thrown_1 ?_
  exact am_reti hx hb hr hlocks hH hf dX12_thrown_4

def f_X12_tight_66  (x1 : Int32) (w : am_S) : Option (Int32 × am_S) :=
  some (x1, w)
def f_X12_tight_55  (x2 : Int32) (s0 : Int32) (w : am_S) : Option ((Int32 × am_S) ⊕ (Int32 × Int32 × am_S)) :=
  am_b1 (f_X12_bringBack w) fun w_23 => am_v (x2 + (-1 : Int32)) fun (x2_25 : Int32) => some (.inr (s0, x2_25, w_23))
def f_X12_tight_18b  (x1 : Int32) (x2 : Int32) (w : am_S) : Option ((Int32 × am_S) ⊕ (Int32 × Int32 × am_S)) :=
  if x2 ≤ 0 then (am_x (f_X12_tight_66 x1 w)) else (if x1 = (-1 : Int32) then (am_b1 (f_X12_putAside w) fun w_30 => am_chk (30 : Int32) 245 (am_v (am_pi w_30 281 (30 : Int32).toNatClampNeg x2) fun (w_33 : am_S) => am_b2 (f_X12_unknownOnes w_33) fun r_36 w_34 => am_b2 (f_X12_remaining r_36 w_34) fun r_39 w_37 => if r_39 = 0 then (f_X12_tight_55 x2 x2 w_37) else (f_X12_tight_55 x2 (-1 : Int32) w_37))) else (am_x (f_X12_tight_66 x1 w)))
def f_X12_tight_18  (x1 : Int32) (x2 : Int32) (w : am_S) : Option (Int32 × am_S) :=
  am_loop (fun (st : (Int32 × Int32 × am_S)) => f_X12_tight_18b st.1 st.2.1 st.2.2) am_fuel (x1, x2, w)
def f_X12_tight  (w : am_S) : Option (Int32 × am_S) :=
  am_b2 (f_X12_isField w) fun r_43 w_41 => if r_43 = 0 then (some ((-1 : Int32), w_41)) else (am_b1 (f_X12_layOccupied w_41) fun w_45 => f_X12_tight_18 (-1 : Int32) (99 : Int32) w_45)
set_option maxRecDepth 100000 in
set_option maxHeartbeats 4000000 in
theorem k_X12_tight {G : am_G} {l : Launch}   {w : am_S} {rr : Int32} {ww : am_S} (hf : f_X12_tight  w = some (rr, ww)) : am_Mi G l yX12_tight (Cond.code yX12_tight cX12_tight 3 (some .int) :: am_T) { frames := 3, cells := 0, slots := 0, locals := 192 } [.ref (G.1 + 271)] w rr ww := by
  refine Met.ofW (cc := cX12_tight) (maxL := 3) (ret := (some .int)) (by decide) rfl ?_
  intro p e s m args below meth c s₁ B hml hv
  obtain ⟨rfl, hx, hb, hr, hts, hown, hlocks, hK, hE, hH⟩ := am_begin B hv
  have hown : s.vm.findClass RX12 = some m.cls := hown
  show W p l e { frames := 3, cells := 0, slots := 0, locals := 192 } s m _ below meth c s.heap [] 0 0 _ _
  have P66 : ∀ (x1 : Int32) (w : am_S) (H : Heap) (locs : List Loc) (ls : Array Slot), f_X12_tight_66 x1 w = some (rr, ww) → am_H G w s H locs → lv_has ls 3 [(1, .int x1)] → W p l e { frames := 3, cells := 0, slots := 0, locals := 192 } s m [.ref (G.1 + 271)].toArray below meth c H locs 0 0 (MQ below (va_Qi (fun (x : Int32) (u : am_S) => x = rr ∧ u = ww) (am_U G) (am_A G)) [.ref (G.1 + 271)].toArray s 0 0 (am_A G)) (F0 m 66 ls []) := by
    intro x1 w H locs ls hf hH hl
    unfold f_X12_tight_66 at hf
    refine lv_iload_n hx hb dX12_tight_66 rfl (lv_at hl 0 rfl) ?_
    exact am_reti hx hb hr hlocks hH hf dX12_tight_67
  have P18 : ∀ (n1 : Nat) (x1 : Int32) (x2 : Int32) (w : am_S) (H : Heap) (locs : List Loc) (ls : Array Slot), am_loop (fun (st : (Int32 × Int32 × am_S)) => f_X12_tight_18b st.1 st.2.1 st.2.2) n1 (x1, x2, w) = some (rr, ww) → am_H G w s H locs → lv_has ls 3 [(0, .ref (G.1 + 271)), (1, .int x1), (2, .int x2)] → W p l e { frames := 3, cells := 0, slots := 0, locals := 192 } s m [.ref (G.1 + 271)].toArray below meth c H locs 0 0 (MQ below (va_Qi (fun (x : Int32) (u : am_S) => x = rr ∧ u = ww) (am_U G) (am_A G)) [.ref (G.1 + 271)].toArray s 0 0 (am_A G)) (F0 m 18 ls []) := by
    intro n1
    induction n1 with
    | zero =>
      intro x1 x2 w H locs ls hf hH hl
      exact (am_loop_zero hf).elim
    | succ n1 ih1 =>
      intro x1 x2 w H locs ls hf hH hl
      obtain ⟨z1, hf, hk1⟩ := am_loop_succ hf
      have hf : f_X12_tight_18b x1 x2 w = some z1 := hf
      have P55 : ∀ (x2 : Int32) (s0 : Int32) (w : am_S) (z1 : ((Int32 × am_S) ⊕ (Int32 × Int32 × am_S))) (H : Heap) (locs : List Loc) (ls : Array Slot), f_X12_tight_55 x2 s0 w = some z1 → am_lk (fun (st : (Int32 × Int32 × am_S)) => f_X12_tight_18b st.1 st.2.1 st.2.2) n1 (rr, ww) z1 → am_H G w s H locs → lv_has ls 3 [(0, .ref (G.1 + 271)), (2, .int x2)] → W p l e { frames := 3, cells := 0, slots := 0, locals := 192 } s m [.ref (G.1 + 271)].toArray below meth c H locs 0 0 (MQ below (va_Qi (fun (x : Int32) (u : am_S) => x = rr ∧ u = ww) (am_U G) (am_A G)) [.ref (G.1 + 271)].toArray s 0 0 (am_A G)) (F0 m 55 ls [.int s0]) := by
        intro x2 s0 w z1 H locs ls hf hk1 hH hl
        unfold f_X12_tight_55 at hf
        refine lv_istore_n (lv' := [(1, .int s0), (0, .ref (G.1 + 271)), (2, .int x2)]) hx hb dX12_tight_55 rfl hl (by decide) rfl (fun ls hl => ?_)
        refine lv_aload_n hx hb dX12_tight_56 rfl (lv_at hl 1 rfl) ?_
        obtain ⟨w_23, hq_24, hf⟩ := am_b1_some hf
        refine am_callv (w' := w_23) (am_runV (n := 0) (As := []) (rest := []) ⟨hx, hb, hml, hown, hts⟩ hK hE hH (k_X12_bringBack hq_24) (am_gV am_q1744 am_q1746 am_qs98 am_q13 am_q1747) (am_o12 (p := 271) (by decide +kernel)) rfl ⟨rfl, rfl⟩ (by decide +kernel) ⟨Nat.le_of_ble_eq_true rfl, Nat.le_of_ble_eq_true rfl⟩ rfl hl.1 rfl (Nat.le_of_ble_eq_true rfl) ⟨Nat.zero_le _, Nat.zero_le _⟩ dX12_tight_57) hH (fun H locs hH => ?_)
        obtain ⟨x2_25, hx2_25, hf⟩ := am_v_some hf
        refine lv_iinc (v := x2_25) (lv' := [(2, .int x2_25), (1, .int s0), (0, .ref (G.1 + 271))]) hx hb dX12_tight_60 hl (k := 2) rfl (by rw [hx2_25]; rfl) (by decide) rfl (fun ls hl => ?_)
        refine lv_goto (tgt := 18) hx hb dX12_tight_63 (by decide) ?_
        obtain rfl := Option.some.inj hf
        exact ih1 s0 x2_25 w_23 H locs ls hk1 hH (lv_sub hl [2, 1, 0] rfl)
      unfold f_X12_tight_18b at hf
      refine lv_iload_n hx hb dX12_tight_18 rfl (lv_at hl 2 rfl) ?_
      refine lv_if_le (tgt := 66) hx hb dX12_tight_19 (by decide) (fun hc_26 => ?_) (fun hc_26 => ?_)
      · have hf := (if_pos hc_26).symm.trans hf
        obtain ⟨y_27, hf, hzy_27⟩ := am_x_some hf
        rw [hzy_27] at hk1
        have hf := hf.trans (congrArg some (show y_27 = (rr, ww) from hk1))
        exact P66 x1 w H locs ls hf hH (lv_sub hl [1] rfl)
      · have hf := (if_neg hc_26).symm.trans hf
        refine lv_iload_n hx hb dX12_tight_22 rfl (lv_at hl 1 rfl) ?_
        refine lv_iconst (v := -1) hx hb dX12_tight_23 (by decide) ?_
        refine lv_icmp_ne (tgt := 66) hx hb dX12_tight_24 (by decide) (fun hc_28 => ?_) (fun hc_28 => ?_)
        · have hf := (if_neg hc_28).symm.trans hf
          obtain ⟨y_29, hf, hzy_29⟩ := am_x_some hf
          rw [hzy_29] at hk1
          have hf := hf.trans (congrArg some (show y_29 = (rr, ww) from hk1))
          exact P66 x1 w H locs ls hf hH (lv_sub hl [1] rfl)
        · have hf := (if_pos hc_28).symm.trans hf
          refine lv_aload_n hx hb dX12_tight_27 rfl (lv_at hl 0 rfl) ?_
          obtain ⟨w_30, hq_31, hf⟩ := am_b1_some hf
          refine am_callv (w' := w_30) (am_runV (n := 0) (As := []) (rest := []) ⟨hx, hb, hml, hown, hts⟩ hK hE hH (k_X12_putAside hq_31) (am_gV am_q1740 am_q1742 am_qs97 am_q13 am_q1743) (am_o12 (p := 271) (by decide +kernel)) rfl ⟨rfl, rfl⟩ (by decide +kernel) ⟨Nat.le_of_ble_eq_true rfl, Nat.le_of_ble_eq_true rfl⟩ rfl hl.1 rfl (Nat.le_of_ble_eq_true rfl) ⟨Nat.zero_le _, Nat.zero_le _⟩ dX12_tight_28) hH (fun H locs hH => ?_)
          refine lv_aload_n hx hb dX12_tight_31 rfl (lv_at hl 0 rfl) ?_
          refine am_get hx hb hts hK hown hH (am_o12 (p := 271) (by decide +kernel)) rfl am_inX12 17 (by decide) am_q1336 (v := .ref (G.1 + 281)) rfl dX12_tight_32 ?_
          refine lv_bipush (v := 30) hx hb dX12_tight_35 (by decide) ?_
          refine lv_iload_n hx hb dX12_tight_37 rfl (lv_at hl 2 rfl) ?_
          obtain ⟨hi_32, hf⟩ := am_chk_some hf
          obtain ⟨w_33, hw_33, hf⟩ := am_v_some hf
          refine am_iast hx hb hK hH (am_ai_of (N := 245) (by decide +kernel)) hi_32 dX12_tight_38 (fun H locs hH => ?_)
          rw [← hw_33] at hH
          refine lv_aload_n hx hb dX12_tight_39 rfl (lv_at hl 0 rfl) ?_
          refine lv_aload_n hx hb dX12_tight_40 rfl (lv_at hl 0 rfl) ?_
          obtain ⟨r_36, w_34, hq_35, hf⟩ := am_b2_some hf
          refine am_calli (r := r_36) (w' := w_34) (am_runV (n := 0) (As := []) (rest := [.ref (G.1 + 271)]) ⟨hx, hb, hml, hown, hts⟩ hK hE hH (k_X12_unknownOnes hq_35) (am_gV am_q1798 am_q1800 am_qs102 am_q13 am_q1801) (am_o12 (p := 271) (by decide +kernel)) rfl ⟨rfl, rfl⟩ (by decide +kernel) ⟨Nat.le_of_ble_eq_true rfl, Nat.le_of_ble_eq_true rfl⟩ rfl hl.1 rfl (Nat.le_of_ble_eq_true rfl) ⟨Nat.zero_le _, Nat.zero_le _⟩ dX12_tight_41) hH (fun H locs hH => ?_)
          obtain ⟨r_39, w_37, hq_38, hf⟩ := am_b2_some hf
          refine am_calli (r := r_39) (w' := w_37) (am_runV (n := 1) (As := [.int r_36]) (rest := []) ⟨hx, hb, hml, hown, hts⟩ hK hE hH (k_X12_remaining hq_38) (am_gV am_q1806 am_q1808 am_qs104 am_q13 am_q1809) (am_o12 (p := 271) (by decide +kernel)) rfl ⟨rfl, rfl⟩ (by decide +kernel) ⟨Nat.le_of_ble_eq_true rfl, Nat.le_of_ble_eq_true rfl⟩ rfl hl.1 rfl (Nat.le_of_ble_eq_true rfl) ⟨Nat.zero_le _, Nat.zero_le _⟩ dX12_tight_44) hH (fun H locs hH => ?_)
          refine lv_if_ne (tgt := 54) hx hb dX12_tight_47 (by decide) (fun hc_40 => ?_) (fun hc_40 => ?_)
          · have hf := (if_neg hc_40).symm.trans hf
            refine lv_iconst (v := -1) hx hb dX12_tight_54 (by decide) ?_
            exact P55 x2 (-1 : Int32) w_37 z1 H locs ls hf hk1 hH (lv_sub hl [0, 2] rfl)
          · have hf := (if_pos hc_40).symm.trans hf
            refine lv_iload_n hx hb dX12_tight_50 rfl (lv_at hl 2 rfl) ?_
            refine lv_goto (tgt := 55) hx hb dX12_tight_51 (by decide) ?_
            exact P55 x2 x2 w_37 z1 H locs ls hf hk1 hH (lv_sub hl [0, 2] rfl)
  refine am_enter (lv := [(0, .ref (G.1 + 271))]) (Nat.le_of_ble_eq_true rfl) rfl (fun ls hl => ?_)
  unfold f_X12_tight at hf
  refine am_start hH (fun H locs hH => ?_)
  refine lv_aload_n hx hb dX12_tight_0 rfl (lv_at hl 0 rfl) ?_
  obtain ⟨r_43, w_41, hq_42, hf⟩ := am_b2_some hf
  refine am_calli (r := r_43) (w' := w_41) (am_runV (n := 0) (As := []) (rest := []) ⟨hx, hb, hml, hown, hts⟩ hK hE hH (k_X12_isField hq_42) (am_gV am_q1514 am_q1516 am_qs59 am_q13 am_q1517) (am_o12 (p := 271) (by decide +kernel)) rfl ⟨rfl, rfl⟩ (by decide +kernel) ⟨Nat.le_of_ble_eq_true rfl, Nat.le_of_ble_eq_true rfl⟩ rfl hl.1 rfl (Nat.le_of_ble_eq_true rfl) ⟨Nat.zero_le _, Nat.zero_le _⟩ dX12_tight_1) hH (fun H locs hH => ?_)
  refine lv_if_ne (tgt := 9) hx hb dX12_tight_4 (by decide) (fun hc_44 => ?_) (fun hc_44 => ?_)
  · have hf := (if_neg hc_44).symm.trans hf
    refine lv_aload_n hx hb dX12_tight_9 rfl (lv_at hl 0 rfl) ?_
    obtain ⟨w_45, hq_46, hf⟩ := am_b1_some hf
    refine am_callv (w' := w_45) (am_runV (n := 0) (As := []) (rest := []) ⟨hx, hb, hml, hown, hts⟩ hK hE hH (k_X12_layOccupied hq_46) (am_gV am_q1794 am_q1796 am_qs101 am_q13 am_q1797) (am_o12 (p := 271) (by decide +kernel)) rfl ⟨rfl, rfl⟩ (by decide +kernel) ⟨Nat.le_of_ble_eq_true rfl, Nat.le_of_ble_eq_true rfl⟩ rfl hl.1 rfl (Nat.le_of_ble_eq_true rfl) ⟨Nat.zero_le _, Nat.zero_le _⟩ dX12_tight_10) hH (fun H locs hH => ?_)
    refine lv_iconst (v := -1) hx hb dX12_tight_13 (by decide) ?_
    refine lv_istore_n (lv' := [(1, .int (-1 : Int32)), (0, .ref (G.1 + 271))]) hx hb dX12_tight_14 rfl hl (by decide) rfl (fun ls hl => ?_)
    refine lv_bipush (v := 99) hx hb dX12_tight_15 (by decide) ?_
    refine lv_istore_n (lv' := [(2, .int (99 : Int32)), (1, .int (-1 : Int32)), (0, .ref (G.1 + 271))]) hx hb dX12_tight_17 rfl hl (by decide) rfl (fun ls hl => ?_)
    exact P18 am_fuel (-1 : Int32) (99 : Int32) w_45 H locs ls hf hH (lv_sub hl [2, 1, 0] rfl)
  · have hf := (if_pos hc_44).symm.trans hf
    refine lv_iconst (v := -1) hx hb dX12_tight_7 (by decide) ?_
    exact am_reti hx hb hr hlocks hH hf dX12_tight_8

def f_X12_touch_47 (a1 : Int32) (a2 : Int32) (s0 : Int32) (w : am_S) : Option (Int32 × am_S) :=
  some (s0, w)
def f_X12_touch_46 (a1 : Int32) (a2 : Int32) (w : am_S) : Option (Int32 × am_S) :=
  f_X12_touch_47 a1 a2 (-1 : Int32) w
def f_X12_touch (a1 : Int32) (a2 : Int32) (w : am_S) : Option (Int32 × am_S) :=
  am_b2 (f_X12_isUser a1 w) fun r_23 w_21 => if r_23 = 0 then (f_X12_touch_46 a1 a2 w_21) else (am_b2 (f_X12_isUser a2 w_21) fun r_27 w_25 => if r_27 = 0 then (f_X12_touch_46 a1 a2 w_25) else (if a1 = a2 then (f_X12_touch_46 a1 a2 w_25) else (am_b2 (f_X12_isUnknown a1 w_25) fun r_32 w_30 => if r_32 = 0 then (f_X12_touch_46 a1 a2 w_30) else (am_b2 (f_X12_isUnknown a2 w_30) fun r_36 w_34 => if r_36 = 0 then (f_X12_touch_46 a1 a2 w_34) else (am_b2 (f_X12_touches a1 a2 w_34) fun r_40 w_38 => f_X12_touch_47 a1 a2 r_40 w_38)))))
set_option maxRecDepth 100000 in
set_option maxHeartbeats 4000000 in
theorem k_X12_touch {G : am_G} {l : Launch} {a1 : Int32} {a2 : Int32}  {w : am_S} {rr : Int32} {ww : am_S} (hf : f_X12_touch a1 a2 w = some (rr, ww)) : am_Mi G l yX12_touch (Cond.code yX12_touch cX12_touch 3 (some .int) :: am_T) { frames := 2, cells := 0, slots := 0, locals := 128 } [.ref (G.1 + 271), .int a1, .int a2] w rr ww := by
  refine Met.ofW (cc := cX12_touch) (maxL := 3) (ret := (some .int)) (by decide) rfl ?_
  intro p e s m args below meth c s₁ B hml hv
  obtain ⟨rfl, hx, hb, hr, hts, hown, hlocks, hK, hE, hH⟩ := am_begin B hv
  have hown : s.vm.findClass RX12 = some m.cls := hown
  show W p l e { frames := 2, cells := 0, slots := 0, locals := 128 } s m _ below meth c s.heap [] 0 0 _ _
  have P47 : ∀ (s0 : Int32) (w : am_S) (H : Heap) (locs : List Loc) (ls : Array Slot), f_X12_touch_47 a1 a2 s0 w = some (rr, ww) → am_H G w s H locs → lv_has ls 3 [] → W p l e { frames := 2, cells := 0, slots := 0, locals := 128 } s m [.ref (G.1 + 271), .int a1, .int a2].toArray below meth c H locs 0 0 (MQ below (va_Qi (fun (x : Int32) (u : am_S) => x = rr ∧ u = ww) (am_U G) (am_A G)) [.ref (G.1 + 271), .int a1, .int a2].toArray s 0 0 (am_A G)) (F0 m 47 ls [.int s0]) := by
    intro s0 w H locs ls hf hH hl
    unfold f_X12_touch_47 at hf
    exact am_reti hx hb hr hlocks hH hf dX12_touch_47
  have P46 : ∀ (w : am_S) (H : Heap) (locs : List Loc) (ls : Array Slot), f_X12_touch_46 a1 a2 w = some (rr, ww) → am_H G w s H locs → lv_has ls 3 [] → W p l e { frames := 2, cells := 0, slots := 0, locals := 128 } s m [.ref (G.1 + 271), .int a1, .int a2].toArray below meth c H locs 0 0 (MQ below (va_Qi (fun (x : Int32) (u : am_S) => x = rr ∧ u = ww) (am_U G) (am_A G)) [.ref (G.1 + 271), .int a1, .int a2].toArray s 0 0 (am_A G)) (F0 m 46 ls []) := by
    intro w H locs ls hf hH hl
    unfold f_X12_touch_46 at hf
    refine lv_iconst (v := -1) hx hb dX12_touch_46 (by decide) ?_
    exact P47 (-1 : Int32) w H locs ls hf hH (lv_sub hl [] rfl)
  refine am_enter (lv := [(0, .ref (G.1 + 271)), (1, .int a1), (2, .int a2)]) (Nat.le_of_ble_eq_true rfl) rfl (fun ls hl => ?_)
  unfold f_X12_touch at hf
  refine am_start hH (fun H locs hH => ?_)
  refine lv_aload_n hx hb dX12_touch_0 rfl (lv_at hl 0 rfl) ?_
  refine lv_iload_n hx hb dX12_touch_1 rfl (lv_at hl 1 rfl) ?_
  obtain ⟨r_23, w_21, hq_22, hf⟩ := am_b2_some hf
  refine am_calli (r := r_23) (w' := w_21) (am_runV (n := 1) (As := [.int a1]) (rest := []) ⟨hx, hb, hml, hown, hts⟩ hK hE hH (k_X12_isUser hq_22) (am_gV am_q1554 am_q1556 am_qs69 am_q13 am_q1557) (am_o12 (p := 271) (by decide +kernel)) rfl ⟨rfl, rfl⟩ (by decide +kernel) ⟨Nat.le_of_ble_eq_true rfl, Nat.le_of_ble_eq_true rfl⟩ rfl hl.1 rfl (Nat.le_of_ble_eq_true rfl) ⟨Nat.zero_le _, Nat.zero_le _⟩ dX12_touch_2) hH (fun H locs hH => ?_)
  refine lv_if_eq (tgt := 46) hx hb dX12_touch_5 (by decide) (fun hc_24 => ?_) (fun hc_24 => ?_)
  · have hf := (if_pos hc_24).symm.trans hf
    exact P46 w_21 H locs ls hf hH (lv_sub hl [] rfl)
  · have hf := (if_neg hc_24).symm.trans hf
    refine lv_aload_n hx hb dX12_touch_8 rfl (lv_at hl 0 rfl) ?_
    refine lv_iload_n hx hb dX12_touch_9 rfl (lv_at hl 2 rfl) ?_
    obtain ⟨r_27, w_25, hq_26, hf⟩ := am_b2_some hf
    refine am_calli (r := r_27) (w' := w_25) (am_runV (n := 1) (As := [.int a2]) (rest := []) ⟨hx, hb, hml, hown, hts⟩ hK hE hH (k_X12_isUser hq_26) (am_gV am_q1554 am_q1556 am_qs69 am_q13 am_q1557) (am_o12 (p := 271) (by decide +kernel)) rfl ⟨rfl, rfl⟩ (by decide +kernel) ⟨Nat.le_of_ble_eq_true rfl, Nat.le_of_ble_eq_true rfl⟩ rfl hl.1 rfl (Nat.le_of_ble_eq_true rfl) ⟨Nat.zero_le _, Nat.zero_le _⟩ dX12_touch_10) hH (fun H locs hH => ?_)
    refine lv_if_eq (tgt := 46) hx hb dX12_touch_13 (by decide) (fun hc_28 => ?_) (fun hc_28 => ?_)
    · have hf := (if_pos hc_28).symm.trans hf
      exact P46 w_25 H locs ls hf hH (lv_sub hl [] rfl)
    · have hf := (if_neg hc_28).symm.trans hf
      refine lv_iload_n hx hb dX12_touch_16 rfl (lv_at hl 1 rfl) ?_
      refine lv_iload_n hx hb dX12_touch_17 rfl (lv_at hl 2 rfl) ?_
      refine lv_icmp_eq (tgt := 46) hx hb dX12_touch_18 (by decide) (fun hc_29 => ?_) (fun hc_29 => ?_)
      · have hf := (if_pos hc_29).symm.trans hf
        exact P46 w_25 H locs ls hf hH (lv_sub hl [] rfl)
      · have hf := (if_neg hc_29).symm.trans hf
        refine lv_aload_n hx hb dX12_touch_21 rfl (lv_at hl 0 rfl) ?_
        refine lv_iload_n hx hb dX12_touch_22 rfl (lv_at hl 1 rfl) ?_
        obtain ⟨r_32, w_30, hq_31, hf⟩ := am_b2_some hf
        refine am_calli (r := r_32) (w' := w_30) (am_runV (n := 1) (As := [.int a1]) (rest := []) ⟨hx, hb, hml, hown, hts⟩ hK hE hH (k_X12_isUnknown hq_31) (am_gV am_q1534 am_q1536 am_qs64 am_q13 am_q1537) (am_o12 (p := 271) (by decide +kernel)) rfl ⟨rfl, rfl⟩ (by decide +kernel) ⟨Nat.le_of_ble_eq_true rfl, Nat.le_of_ble_eq_true rfl⟩ rfl hl.1 rfl (Nat.le_of_ble_eq_true rfl) ⟨Nat.zero_le _, Nat.zero_le _⟩ dX12_touch_23) hH (fun H locs hH => ?_)
        refine lv_if_eq (tgt := 46) hx hb dX12_touch_26 (by decide) (fun hc_33 => ?_) (fun hc_33 => ?_)
        · have hf := (if_pos hc_33).symm.trans hf
          exact P46 w_30 H locs ls hf hH (lv_sub hl [] rfl)
        · have hf := (if_neg hc_33).symm.trans hf
          refine lv_aload_n hx hb dX12_touch_29 rfl (lv_at hl 0 rfl) ?_
          refine lv_iload_n hx hb dX12_touch_30 rfl (lv_at hl 2 rfl) ?_
          obtain ⟨r_36, w_34, hq_35, hf⟩ := am_b2_some hf
          refine am_calli (r := r_36) (w' := w_34) (am_runV (n := 1) (As := [.int a2]) (rest := []) ⟨hx, hb, hml, hown, hts⟩ hK hE hH (k_X12_isUnknown hq_35) (am_gV am_q1534 am_q1536 am_qs64 am_q13 am_q1537) (am_o12 (p := 271) (by decide +kernel)) rfl ⟨rfl, rfl⟩ (by decide +kernel) ⟨Nat.le_of_ble_eq_true rfl, Nat.le_of_ble_eq_true rfl⟩ rfl hl.1 rfl (Nat.le_of_ble_eq_true rfl) ⟨Nat.zero_le _, Nat.zero_le _⟩ dX12_touch_31) hH (fun H locs hH => ?_)
          refine lv_if_eq (tgt := 46) hx hb dX12_touch_34 (by decide) (fun hc_37 => ?_) (fun hc_37 => ?_)
          · have hf := (if_pos hc_37).symm.trans hf
            exact P46 w_34 H locs ls hf hH (lv_sub hl [] rfl)
          · have hf := (if_neg hc_37).symm.trans hf
            refine lv_aload_n hx hb dX12_touch_37 rfl (lv_at hl 0 rfl) ?_
            refine lv_iload_n hx hb dX12_touch_38 rfl (lv_at hl 1 rfl) ?_
            refine lv_iload_n hx hb dX12_touch_39 rfl (lv_at hl 2 rfl) ?_
            obtain ⟨r_40, w_38, hq_39, hf⟩ := am_b2_some hf
            refine am_calli (r := r_40) (w' := w_38) (am_runV (n := 2) (As := [.int a1, .int a2]) (rest := []) ⟨hx, hb, hml, hown, hts⟩ hK hE hH (k_X12_touches hq_39) (am_gV am_q1822 am_q1824 am_qs106 am_q13 am_q1825) (am_o12 (p := 271) (by decide +kernel)) rfl ⟨rfl, rfl⟩ (by decide +kernel) ⟨Nat.le_of_ble_eq_true rfl, Nat.le_of_ble_eq_true rfl⟩ rfl hl.1 rfl (Nat.le_of_ble_eq_true rfl) ⟨Nat.zero_le _, Nat.zero_le _⟩ dX12_touch_40) hH (fun H locs hH => ?_)
            refine lv_goto (tgt := 47) hx hb dX12_touch_43 (by decide) ?_
            exact P47 r_40 w_38 H locs ls hf hH (lv_sub hl [] rfl)

def f_X12_turn (a1 : Int32) (a2 : Int32) (w : am_S) : Option (Int32 × am_S) :=
  am_b2 (f_X12_hand (4 : Int32) a1 a2 (0 : Int64) w) fun r_6 w_4 => some (r_6, w_4)
set_option maxRecDepth 100000 in
set_option maxHeartbeats 4000000 in
theorem k_X12_turn {G : am_G} {l : Launch} {a1 : Int32} {a2 : Int32}  {w : am_S} {rr : Int32} {ww : am_S} (hf : f_X12_turn a1 a2 w = some (rr, ww)) : am_Mi G l yX12_turn (Cond.code yX12_turn cX12_turn 3 (some .int) :: am_T) { frames := 11, cells := 0, slots := 0, locals := 704 } [.ref (G.1 + 271), .int a1, .int a2] w rr ww := by
  refine Met.ofW (cc := cX12_turn) (maxL := 3) (ret := (some .int)) (by decide) rfl ?_
  intro p e s m args below meth c s₁ B hml hv
  obtain ⟨rfl, hx, hb, hr, hts, hown, hlocks, hK, hE, hH⟩ := am_begin B hv
  have hown : s.vm.findClass RX12 = some m.cls := hown
  show W p l e { frames := 11, cells := 0, slots := 0, locals := 704 } s m _ below meth c s.heap [] 0 0 _ _
  refine am_enter (lv := [(0, .ref (G.1 + 271)), (1, .int a1), (2, .int a2)]) (Nat.le_of_ble_eq_true rfl) rfl (fun ls hl => ?_)
  unfold f_X12_turn at hf
  refine am_start hH (fun H locs hH => ?_)
  refine lv_aload_n hx hb dX12_turn_0 rfl (lv_at hl 0 rfl) ?_
  refine lv_iconst (v := 4) hx hb dX12_turn_1 (by decide) ?_
  refine lv_iload_n hx hb dX12_turn_2 rfl (lv_at hl 1 rfl) ?_
  refine lv_iload_n hx hb dX12_turn_3 rfl (lv_at hl 2 rfl) ?_
  refine lv_lconst (v := 0) hx hb dX12_turn_4 (by decide) ?_
  obtain ⟨r_6, w_4, hq_5, hf⟩ := am_b2_some hf
  refine am_calli (r := r_6) (w' := w_4) (am_runV (n := 4) (As := [.int (4 : Int32), .int a1, .int a2, .long (0 : Int64)]) (rest := []) ⟨hx, hb, hml, hown, hts⟩ hK hE hH (k_X12_hand hq_5) (am_gV am_q1506 am_q1508 am_qs57 am_q13 am_q1509) (am_o12 (p := 271) (by decide +kernel)) rfl ⟨rfl, rfl⟩ (by decide +kernel) ⟨Nat.le_of_ble_eq_true rfl, Nat.le_of_ble_eq_true rfl⟩ rfl hl.1 rfl (Nat.le_of_ble_eq_true rfl) ⟨Nat.zero_le _, Nat.zero_le _⟩ dX12_turn_5) hH (fun H locs hH => ?_)
  exact am_reti hx hb hr hlocks hH hf dX12_turn_8

def f_X12_undo_21b  (x1 : Int32) (w : am_S) : Option ((Int32 × am_S) ⊕ (Int32 × am_S)) :=
  if (245 : Int32) ≤ x1 then (am_x (some (w.1 271 23, w))) else (am_chk (((245 : Int32) * (w.1 271 23)) + x1) 9800 (am_chk x1 245 (am_v (am_pi w 281 x1.toNatClampNeg (w.1 285 (((245 : Int32) * (w.1 271 23)) + x1).toNatClampNeg)) fun (w_12 : am_S) => am_v (x1 + (1 : Int32)) fun (x1_13 : Int32) => some (.inr (x1_13, w_12)))))
def f_X12_undo_21  (x1 : Int32) (w : am_S) : Option (Int32 × am_S) :=
  am_loop (fun (st : (Int32 × am_S)) => f_X12_undo_21b st.1 st.2) am_fuel (x1, w)
def f_X12_undo  (w : am_S) : Option (Int32 × am_S) :=
  if (w.1 271 23) = 0 then (some ((-1 : Int32), w)) else (am_v (am_pi w 271 23 ((w.1 271 23) - (1 : Int32))) fun (w_15 : am_S) => f_X12_undo_21 (0 : Int32) w_15)
set_option maxRecDepth 100000 in
set_option maxHeartbeats 4000000 in
theorem k_X12_undo {G : am_G} {l : Launch}   {w : am_S} {rr : Int32} {ww : am_S} (hf : f_X12_undo  w = some (rr, ww)) : am_Mi G l yX12_undo (Cond.code yX12_undo cX12_undo 2 (some .int) :: am_T) { frames := 0, cells := 0, slots := 0, locals := 0 } [.ref (G.1 + 271)] w rr ww := by
  refine Met.ofW (cc := cX12_undo) (maxL := 2) (ret := (some .int)) (by decide) rfl ?_
  intro p e s m args below meth c s₁ B hml hv
  obtain ⟨rfl, hx, hb, hr, hts, hown, hlocks, hK, hE, hH⟩ := am_begin B hv
  have hown : s.vm.findClass RX12 = some m.cls := hown
  show W p l e { frames := 0, cells := 0, slots := 0, locals := 0 } s m _ below meth c s.heap [] 0 0 _ _
  have P21 : ∀ (n1 : Nat) (x1 : Int32) (w : am_S) (H : Heap) (locs : List Loc) (ls : Array Slot), am_loop (fun (st : (Int32 × am_S)) => f_X12_undo_21b st.1 st.2) n1 (x1, w) = some (rr, ww) → am_H G w s H locs → lv_has ls 2 [(0, .ref (G.1 + 271)), (1, .int x1)] → W p l e { frames := 0, cells := 0, slots := 0, locals := 0 } s m [.ref (G.1 + 271)].toArray below meth c H locs 0 0 (MQ below (va_Qi (fun (x : Int32) (u : am_S) => x = rr ∧ u = ww) (am_U G) (am_A G)) [.ref (G.1 + 271)].toArray s 0 0 (am_A G)) (F0 m 21 ls []) := by
    intro n1
    induction n1 with
    | zero =>
      intro x1 w H locs ls hf hH hl
      exact (am_loop_zero hf).elim
    | succ n1 ih1 =>
      intro x1 w H locs ls hf hH hl
      obtain ⟨z1, hf, hk1⟩ := am_loop_succ hf
      have hf : f_X12_undo_21b x1 w = some z1 := hf
      unfold f_X12_undo_21b at hf
      refine lv_iload_n hx hb dX12_undo_21 rfl (lv_at hl 1 rfl) ?_
      refine lv_sipush (v := 245) hx hb dX12_undo_22 (by decide) ?_
      refine lv_icmp_ge (tgt := 55) hx hb dX12_undo_25 (by decide) (fun hc_8 => ?_) (fun hc_8 => ?_)
      · have hf := (if_pos hc_8).symm.trans hf
        obtain ⟨y_9, hf, hzy_9⟩ := am_x_some hf
        rw [hzy_9] at hk1
        have hf := hf.trans (congrArg some (show y_9 = (rr, ww) from hk1))
        refine lv_aload_n hx hb dX12_undo_55 rfl (lv_at hl 0 rfl) ?_
        refine am_get hx hb hts hK hown hH (am_o12 (p := 271) (by decide +kernel)) rfl am_inX12 23 (by decide) am_q1342 (v := .int (w.1 271 23)) rfl dX12_undo_56 ?_
        exact am_reti hx hb hr hlocks hH hf dX12_undo_59
      · have hf := (if_neg hc_8).symm.trans hf
        refine lv_aload_n hx hb dX12_undo_28 rfl (lv_at hl 0 rfl) ?_
        refine am_get hx hb hts hK hown hH (am_o12 (p := 271) (by decide +kernel)) rfl am_inX12 17 (by decide) am_q1336 (v := .ref (G.1 + 281)) rfl dX12_undo_29 ?_
        refine lv_iload_n hx hb dX12_undo_32 rfl (lv_at hl 1 rfl) ?_
        refine lv_aload_n hx hb dX12_undo_33 rfl (lv_at hl 0 rfl) ?_
        refine am_get hx hb hts hK hown hH (am_o12 (p := 271) (by decide +kernel)) rfl am_inX12 22 (by decide) am_q1341 (v := .ref (G.1 + 285)) rfl dX12_undo_34 ?_
        refine lv_sipush (v := 245) hx hb dX12_undo_37 (by decide) ?_
        refine lv_aload_n hx hb dX12_undo_40 rfl (lv_at hl 0 rfl) ?_
        refine am_get hx hb hts hK hown hH (am_o12 (p := 271) (by decide +kernel)) rfl am_inX12 23 (by decide) am_q1342 (v := .int (w.1 271 23)) rfl dX12_undo_41 ?_
        refine lv_imul hx hb dX12_undo_44 ?_
        refine lv_iload_n hx hb dX12_undo_45 rfl (lv_at hl 1 rfl) ?_
        refine lv_iadd hx hb dX12_undo_46 ?_
        obtain ⟨hi_10, hf⟩ := am_chk_some hf
        refine am_iald hx hb hK hH (am_ai_of (N := 9800) (by decide +kernel)) hi_10 dX12_undo_47 ?_
        obtain ⟨hi_11, hf⟩ := am_chk_some hf
        obtain ⟨w_12, hw_12, hf⟩ := am_v_some hf
        refine am_iast hx hb hK hH (am_ai_of (N := 245) (by decide +kernel)) hi_11 dX12_undo_48 (fun H locs hH => ?_)
        rw [← hw_12] at hH
        obtain ⟨x1_13, hx1_13, hf⟩ := am_v_some hf
        refine lv_iinc (v := x1_13) (lv' := [(1, .int x1_13), (0, .ref (G.1 + 271))]) hx hb dX12_undo_49 hl (k := 1) rfl (by rw [hx1_13]; rfl) (by decide) rfl (fun ls hl => ?_)
        refine lv_goto (tgt := 21) hx hb dX12_undo_52 (by decide) ?_
        obtain rfl := Option.some.inj hf
        exact ih1 x1_13 w_12 H locs ls hk1 hH (lv_sub hl [1, 0] rfl)
  refine am_enter (lv := [(0, .ref (G.1 + 271))]) (Nat.le_of_ble_eq_true rfl) rfl (fun ls hl => ?_)
  unfold f_X12_undo at hf
  refine am_start hH (fun H locs hH => ?_)
  refine lv_aload_n hx hb dX12_undo_0 rfl (lv_at hl 0 rfl) ?_
  refine am_get hx hb hts hK hown hH (am_o12 (p := 271) (by decide +kernel)) rfl am_inX12 23 (by decide) am_q1342 (v := .int (w.1 271 23)) rfl dX12_undo_1 ?_
  refine lv_if_ne (tgt := 9) hx hb dX12_undo_4 (by decide) (fun hc_14 => ?_) (fun hc_14 => ?_)
  · have hf := (if_neg hc_14).symm.trans hf
    refine lv_aload_n hx hb dX12_undo_9 rfl (lv_at hl 0 rfl) ?_
    refine lv_dup hx hb dX12_undo_10 rfl ?_
    refine am_get hx hb hts hK hown hH (am_o12 (p := 271) (by decide +kernel)) rfl am_inX12 23 (by decide) am_q1342 (v := .int (w.1 271 23)) rfl dX12_undo_11 ?_
    refine lv_iconst (v := 1) hx hb dX12_undo_14 (by decide) ?_
    refine lv_isub hx hb dX12_undo_15 ?_
    obtain ⟨w_15, hw_15, hf⟩ := am_v_some hf
    refine am_puti hx hb hts hK hown hH (am_o12 (p := 271) (by decide +kernel)) rfl am_inX12 tyX12 tyX12_ok nmX12 23 (by decide) am_q1342 rfl rfl rfl (fun _ _ => Nat.le_of_ble_eq_true rfl) (fun _ _ _ => rfl) dX12_undo_16 (fun H locs hH => ?_)
    rw [← hw_15] at hH
    refine lv_iconst (v := 0) hx hb dX12_undo_19 (by decide) ?_
    refine lv_istore_n (lv' := [(1, .int (0 : Int32)), (0, .ref (G.1 + 271))]) hx hb dX12_undo_20 rfl hl (by decide) rfl (fun ls hl => ?_)
    exact P21 am_fuel (0 : Int32) w_15 H locs ls hf hH (lv_sub hl [1, 0] rfl)
  · have hf := (if_pos hc_14).symm.trans hf
    refine lv_iconst (v := -1) hx hb dX12_undo_7 (by decide) ?_
    exact am_reti hx hb hr hlocks hH hf dX12_undo_8

def f_X12_hasteOf_54 (a1 : Int32) (s0 : Int32) (w : am_S) : Option (Int32 × am_S) :=
  some (s0, w)
def f_X12_hasteOf_40 (a1 : Int32) (x2 : Int32) (s0 : Int32) (w : am_S) : Option (Int32 × am_S) :=
  am_b1 (f_X12_bringBack w) fun w_19 => if s0 = 0 then (f_X12_hasteOf_54 a1 (-1 : Int32) w_19) else (f_X12_hasteOf_54 a1 x2 w_19)
def f_X12_hasteOf_27 (a1 : Int32) (x2 : Int32) (w : am_S) : Option (Int32 × am_S) :=
  am_b2 (f_X12_isUnknown a1 w) fun r_24 w_22 => if r_24 = 0 then (f_X12_hasteOf_40 a1 x2 (1 : Int32) w_22) else (f_X12_hasteOf_40 a1 x2 (0 : Int32) w_22)
def f_X12_hasteOf_6b (a1 : Int32) (x2 : Int32) (w : am_S) : Option ((Int32 × am_S) ⊕ (Int32 × am_S)) :=
  am_b2 (f_X12_isUnknown a1 w) fun r_28 w_26 => if r_28 = 0 then (am_x (f_X12_hasteOf_27 a1 x2 w_26)) else (am_b2 (f_X12_roundNow w_26) fun r_33 w_31 => if r_33 ≤ 0 then (am_x (f_X12_hasteOf_27 a1 x2 w_31)) else (am_v (x2 + (1 : Int32)) fun (x2_36 : Int32) => some (.inr (x2_36, w_31))))
def f_X12_hasteOf_6 (a1 : Int32) (x2 : Int32) (w : am_S) : Option (Int32 × am_S) :=
  am_loop (fun (st : (Int32 × am_S)) => f_X12_hasteOf_6b a1 st.1 st.2) am_fuel (x2, w)
def f_X12_hasteOf (a1 : Int32) (w : am_S) : Option (Int32 × am_S) :=
  am_b1 (f_X12_putAside w) fun w_37 => f_X12_hasteOf_6 a1 (0 : Int32) w_37
set_option maxRecDepth 100000 in
set_option maxHeartbeats 4000000 in
theorem k_X12_hasteOf {G : am_G} {l : Launch} {a1 : Int32}  {w : am_S} {rr : Int32} {ww : am_S} (hf : f_X12_hasteOf a1 w = some (rr, ww)) : am_Mi G l yX12_hasteOf (Cond.code yX12_hasteOf cX12_hasteOf 4 (some .int) :: am_T) { frames := 7, cells := 0, slots := 0, locals := 448 } [.ref (G.1 + 271), .int a1] w rr ww := by
  refine Met.ofW (cc := cX12_hasteOf) (maxL := 4) (ret := (some .int)) (by decide) rfl ?_
  intro p e s m args below meth c s₁ B hml hv
  obtain ⟨rfl, hx, hb, hr, hts, hown, hlocks, hK, hE, hH⟩ := am_begin B hv
  have hown : s.vm.findClass RX12 = some m.cls := hown
  show W p l e { frames := 7, cells := 0, slots := 0, locals := 448 } s m _ below meth c s.heap [] 0 0 _ _
  have P54 : ∀ (s0 : Int32) (w : am_S) (H : Heap) (locs : List Loc) (ls : Array Slot), f_X12_hasteOf_54 a1 s0 w = some (rr, ww) → am_H G w s H locs → lv_has ls 4 [] → W p l e { frames := 7, cells := 0, slots := 0, locals := 448 } s m [.ref (G.1 + 271), .int a1].toArray below meth c H locs 0 0 (MQ below (va_Qi (fun (x : Int32) (u : am_S) => x = rr ∧ u = ww) (am_U G) (am_A G)) [.ref (G.1 + 271), .int a1].toArray s 0 0 (am_A G)) (F0 m 54 ls [.int s0]) := by
    intro s0 w H locs ls hf hH hl
    unfold f_X12_hasteOf_54 at hf
    exact am_reti hx hb hr hlocks hH hf dX12_hasteOf_54
  have P40 : ∀ (x2 : Int32) (s0 : Int32) (w : am_S) (H : Heap) (locs : List Loc) (ls : Array Slot), f_X12_hasteOf_40 a1 x2 s0 w = some (rr, ww) → am_H G w s H locs → lv_has ls 4 [(0, .ref (G.1 + 271)), (2, .int x2)] → W p l e { frames := 7, cells := 0, slots := 0, locals := 448 } s m [.ref (G.1 + 271), .int a1].toArray below meth c H locs 0 0 (MQ below (va_Qi (fun (x : Int32) (u : am_S) => x = rr ∧ u = ww) (am_U G) (am_A G)) [.ref (G.1 + 271), .int a1].toArray s 0 0 (am_A G)) (F0 m 40 ls [.int s0]) := by
    intro x2 s0 w H locs ls hf hH hl
    unfold f_X12_hasteOf_40 at hf
    refine lv_istore_n (lv' := [(3, .int s0), (0, .ref (G.1 + 271)), (2, .int x2)]) hx hb dX12_hasteOf_40 rfl hl (by decide) rfl (fun ls hl => ?_)
    refine lv_aload_n hx hb dX12_hasteOf_41 rfl (lv_at hl 1 rfl) ?_
    obtain ⟨w_19, hq_20, hf⟩ := am_b1_some hf
    refine am_callv (w' := w_19) (am_runV (n := 0) (As := []) (rest := []) ⟨hx, hb, hml, hown, hts⟩ hK hE hH (k_X12_bringBack hq_20) (am_gV am_q1744 am_q1746 am_qs98 am_q13 am_q1747) (am_o12 (p := 271) (by decide +kernel)) rfl ⟨rfl, rfl⟩ (by decide +kernel) ⟨Nat.le_of_ble_eq_true rfl, Nat.le_of_ble_eq_true rfl⟩ rfl hl.1 rfl (Nat.le_of_ble_eq_true rfl) ⟨Nat.zero_le _, Nat.zero_le _⟩ dX12_hasteOf_42) hH (fun H locs hH => ?_)
    refine lv_iload_n hx hb dX12_hasteOf_45 rfl (lv_at hl 0 rfl) ?_
    refine lv_if_eq (tgt := 53) hx hb dX12_hasteOf_46 (by decide) (fun hc_21 => ?_) (fun hc_21 => ?_)
    · have hf := (if_pos hc_21).symm.trans hf
      refine lv_iconst (v := -1) hx hb dX12_hasteOf_53 (by decide) ?_
      exact P54 (-1 : Int32) w_19 H locs ls hf hH (lv_sub hl [] rfl)
    · have hf := (if_neg hc_21).symm.trans hf
      refine lv_iload_n hx hb dX12_hasteOf_49 rfl (lv_at hl 2 rfl) ?_
      refine lv_goto (tgt := 54) hx hb dX12_hasteOf_50 (by decide) ?_
      exact P54 x2 w_19 H locs ls hf hH (lv_sub hl [] rfl)
  have P27 : ∀ (x2 : Int32) (w : am_S) (H : Heap) (locs : List Loc) (ls : Array Slot), f_X12_hasteOf_27 a1 x2 w = some (rr, ww) → am_H G w s H locs → lv_has ls 4 [(0, .ref (G.1 + 271)), (1, .int a1), (2, .int x2)] → W p l e { frames := 7, cells := 0, slots := 0, locals := 448 } s m [.ref (G.1 + 271), .int a1].toArray below meth c H locs 0 0 (MQ below (va_Qi (fun (x : Int32) (u : am_S) => x = rr ∧ u = ww) (am_U G) (am_A G)) [.ref (G.1 + 271), .int a1].toArray s 0 0 (am_A G)) (F0 m 27 ls []) := by
    intro x2 w H locs ls hf hH hl
    unfold f_X12_hasteOf_27 at hf
    refine lv_aload_n hx hb dX12_hasteOf_27 rfl (lv_at hl 0 rfl) ?_
    refine lv_iload_n hx hb dX12_hasteOf_28 rfl (lv_at hl 1 rfl) ?_
    obtain ⟨r_24, w_22, hq_23, hf⟩ := am_b2_some hf
    refine am_calli (r := r_24) (w' := w_22) (am_runV (n := 1) (As := [.int a1]) (rest := []) ⟨hx, hb, hml, hown, hts⟩ hK hE hH (k_X12_isUnknown hq_23) (am_gV am_q1534 am_q1536 am_qs64 am_q13 am_q1537) (am_o12 (p := 271) (by decide +kernel)) rfl ⟨rfl, rfl⟩ (by decide +kernel) ⟨Nat.le_of_ble_eq_true rfl, Nat.le_of_ble_eq_true rfl⟩ rfl hl.1 rfl (Nat.le_of_ble_eq_true rfl) ⟨Nat.zero_le _, Nat.zero_le _⟩ dX12_hasteOf_29) hH (fun H locs hH => ?_)
    refine lv_if_ne (tgt := 39) hx hb dX12_hasteOf_32 (by decide) (fun hc_25 => ?_) (fun hc_25 => ?_)
    · have hf := (if_neg hc_25).symm.trans hf
      refine lv_iconst (v := 0) hx hb dX12_hasteOf_39 (by decide) ?_
      exact P40 x2 (0 : Int32) w_22 H locs ls hf hH (lv_sub hl [0, 2] rfl)
    · have hf := (if_pos hc_25).symm.trans hf
      refine lv_iconst (v := 1) hx hb dX12_hasteOf_35 (by decide) ?_
      refine lv_goto (tgt := 40) hx hb dX12_hasteOf_36 (by decide) ?_
      exact P40 x2 (1 : Int32) w_22 H locs ls hf hH (lv_sub hl [0, 2] rfl)
  have P6 : ∀ (n1 : Nat) (x2 : Int32) (w : am_S) (H : Heap) (locs : List Loc) (ls : Array Slot), am_loop (fun (st : (Int32 × am_S)) => f_X12_hasteOf_6b a1 st.1 st.2) n1 (x2, w) = some (rr, ww) → am_H G w s H locs → lv_has ls 4 [(0, .ref (G.1 + 271)), (1, .int a1), (2, .int x2)] → W p l e { frames := 7, cells := 0, slots := 0, locals := 448 } s m [.ref (G.1 + 271), .int a1].toArray below meth c H locs 0 0 (MQ below (va_Qi (fun (x : Int32) (u : am_S) => x = rr ∧ u = ww) (am_U G) (am_A G)) [.ref (G.1 + 271), .int a1].toArray s 0 0 (am_A G)) (F0 m 6 ls []) := by
    intro n1
    induction n1 with
    | zero =>
      intro x2 w H locs ls hf hH hl
      exact (am_loop_zero hf).elim
    | succ n1 ih1 =>
      intro x2 w H locs ls hf hH hl
      obtain ⟨z1, hf, hk1⟩ := am_loop_succ hf
      have hf : f_X12_hasteOf_6b a1 x2 w = some z1 := hf
      unfold f_X12_hasteOf_6b at hf
      refine lv_aload_n hx hb dX12_hasteOf_6 rfl (lv_at hl 0 rfl) ?_
      refine lv_iload_n hx hb dX12_hasteOf_7 rfl (lv_at hl 1 rfl) ?_
      obtain ⟨r_28, w_26, hq_27, hf⟩ := am_b2_some hf
      refine am_calli (r := r_28) (w' := w_26) (am_runV (n := 1) (As := [.int a1]) (rest := []) ⟨hx, hb, hml, hown, hts⟩ hK hE hH (k_X12_isUnknown hq_27) (am_gV am_q1534 am_q1536 am_qs64 am_q13 am_q1537) (am_o12 (p := 271) (by decide +kernel)) rfl ⟨rfl, rfl⟩ (by decide +kernel) ⟨Nat.le_of_ble_eq_true rfl, Nat.le_of_ble_eq_true rfl⟩ rfl hl.1 rfl (Nat.le_of_ble_eq_true rfl) ⟨Nat.zero_le _, Nat.zero_le _⟩ dX12_hasteOf_8) hH (fun H locs hH => ?_)
      refine lv_if_eq (tgt := 27) hx hb dX12_hasteOf_11 (by decide) (fun hc_29 => ?_) (fun hc_29 => ?_)
      · have hf := (if_pos hc_29).symm.trans hf
        obtain ⟨y_30, hf, hzy_30⟩ := am_x_some hf
        rw [hzy_30] at hk1
        have hf := hf.trans (congrArg some (show y_30 = (rr, ww) from hk1))
        exact P27 x2 w_26 H locs ls hf hH (lv_sub hl [0, 1, 2] rfl)
      · have hf := (if_neg hc_29).symm.trans hf
        refine lv_aload_n hx hb dX12_hasteOf_14 rfl (lv_at hl 0 rfl) ?_
        obtain ⟨r_33, w_31, hq_32, hf⟩ := am_b2_some hf
        refine am_calli (r := r_33) (w' := w_31) (am_runV (n := 0) (As := []) (rest := []) ⟨hx, hb, hml, hown, hts⟩ hK hE hH (k_X12_roundNow hq_32) (am_gV am_q1617 am_q1619 am_qs84 am_q13 am_q1620) (am_o12 (p := 271) (by decide +kernel)) rfl ⟨rfl, rfl⟩ (by decide +kernel) ⟨Nat.le_of_ble_eq_true rfl, Nat.le_of_ble_eq_true rfl⟩ rfl hl.1 rfl (Nat.le_of_ble_eq_true rfl) ⟨Nat.zero_le _, Nat.zero_le _⟩ dX12_hasteOf_15) hH (fun H locs hH => ?_)
        refine lv_if_le (tgt := 27) hx hb dX12_hasteOf_18 (by decide) (fun hc_34 => ?_) (fun hc_34 => ?_)
        · have hf := (if_pos hc_34).symm.trans hf
          obtain ⟨y_35, hf, hzy_35⟩ := am_x_some hf
          rw [hzy_35] at hk1
          have hf := hf.trans (congrArg some (show y_35 = (rr, ww) from hk1))
          exact P27 x2 w_31 H locs ls hf hH (lv_sub hl [0, 1, 2] rfl)
        · have hf := (if_neg hc_34).symm.trans hf
          obtain ⟨x2_36, hx2_36, hf⟩ := am_v_some hf
          refine lv_iinc (v := x2_36) (lv' := [(2, .int x2_36), (0, .ref (G.1 + 271)), (1, .int a1)]) hx hb dX12_hasteOf_21 hl (k := 2) rfl (by rw [hx2_36]; rfl) (by decide) rfl (fun ls hl => ?_)
          refine lv_goto (tgt := 6) hx hb dX12_hasteOf_24 (by decide) ?_
          obtain rfl := Option.some.inj hf
          exact ih1 x2_36 w_31 H locs ls hk1 hH (lv_sub hl [1, 2, 0] rfl)
  refine am_enter (lv := [(0, .ref (G.1 + 271)), (1, .int a1)]) (Nat.le_of_ble_eq_true rfl) rfl (fun ls hl => ?_)
  unfold f_X12_hasteOf at hf
  refine am_start hH (fun H locs hH => ?_)
  refine lv_aload_n hx hb dX12_hasteOf_0 rfl (lv_at hl 0 rfl) ?_
  obtain ⟨w_37, hq_38, hf⟩ := am_b1_some hf
  refine am_callv (w' := w_37) (am_runV (n := 0) (As := []) (rest := []) ⟨hx, hb, hml, hown, hts⟩ hK hE hH (k_X12_putAside hq_38) (am_gV am_q1740 am_q1742 am_qs97 am_q13 am_q1743) (am_o12 (p := 271) (by decide +kernel)) rfl ⟨rfl, rfl⟩ (by decide +kernel) ⟨Nat.le_of_ble_eq_true rfl, Nat.le_of_ble_eq_true rfl⟩ rfl hl.1 rfl (Nat.le_of_ble_eq_true rfl) ⟨Nat.zero_le _, Nat.zero_le _⟩ dX12_hasteOf_1) hH (fun H locs hH => ?_)
  refine lv_iconst (v := 0) hx hb dX12_hasteOf_4 (by decide) ?_
  refine lv_istore_n (lv' := [(2, .int (0 : Int32)), (0, .ref (G.1 + 271)), (1, .int a1)]) hx hb dX12_hasteOf_5 rfl hl (by decide) rfl (fun ls hl => ?_)
  exact P6 am_fuel (0 : Int32) w_37 H locs ls hf hH (lv_sub hl [1, 2, 0] rfl)

def f_X12_user_23 (a1 : Int32) (a2 : Int32) (s0 : Int32) (w : am_S) : Option (Int32 × am_S) :=
  am_v (am_pi w 271 0 s0) fun (w_22 : am_S) => if (w_22.1 271 0) = (1 : Int32) then (some ((0 : Int32), w_22)) else ((if a2 = (3 : Int32) then (am_b2 (f_X12_copyMany a1 w_22) fun r_29 w_27 => some (r_29, w_27)) else (if a2 = (4 : Int32) then (am_chk ((0 : Int32) + a1) 245 (some (w_22.1 281 ((0 : Int32) + a1).toNatClampNeg, w_22))) else (if a2 = (5 : Int32) then (am_b2 (f_X12_hasteOf a1 w_22) fun r_33 w_31 => some (r_33, w_31)) else (am_chk (((5 : Int32) * a1) + a2) 50 (some (w_22.1 277 (((5 : Int32) * a1) + a2).toNatClampNeg, w_22)))))))
def f_X12_user_22 (a1 : Int32) (a2 : Int32) (w : am_S) : Option (Int32 × am_S) :=
  f_X12_user_23 a1 a2 (1 : Int32) w
def f_X12_user (a1 : Int32) (a2 : Int32) (w : am_S) : Option (Int32 × am_S) :=
  am_b2 (f_X12_isUser a1 w) fun r_37 w_35 => if r_37 = 0 then (f_X12_user_22 a1 a2 w_35) else (am_b2 (f_X12_in a2 (0 : Int32) (5 : Int32) w_35) fun r_41 w_39 => if r_41 = 0 then (f_X12_user_22 a1 a2 w_39) else (f_X12_user_23 a1 a2 (0 : Int32) w_39))
set_option maxRecDepth 100000 in
set_option maxHeartbeats 4000000 in
theorem k_X12_user {G : am_G} {l : Launch} {a1 : Int32} {a2 : Int32}  {w : am_S} {rr : Int32} {ww : am_S} (hf : f_X12_user a1 a2 w = some (rr, ww)) : am_Mi G l yX12_user (Cond.code yX12_user cX12_user 3 (some .int) :: am_T) { frames := 8, cells := 0, slots := 0, locals := 512 } [.ref (G.1 + 271), .int a1, .int a2] w rr ww := by
  refine Met.ofW (cc := cX12_user) (maxL := 3) (ret := (some .int)) (by decide) rfl ?_
  intro p e s m args below meth c s₁ B hml hv
  obtain ⟨rfl, hx, hb, hr, hts, hown, hlocks, hK, hE, hH⟩ := am_begin B hv
  have hown : s.vm.findClass RX12 = some m.cls := hown
  show W p l e { frames := 8, cells := 0, slots := 0, locals := 512 } s m _ below meth c s.heap [] 0 0 _ _
  have P23 : ∀ (s0 : Int32) (w : am_S) (H : Heap) (locs : List Loc) (ls : Array Slot), f_X12_user_23 a1 a2 s0 w = some (rr, ww) → am_H G w s H locs → lv_has ls 3 [(0, .ref (G.1 + 271)), (1, .int a1), (2, .int a2)] → W p l e { frames := 8, cells := 0, slots := 0, locals := 512 } s m [.ref (G.1 + 271), .int a1, .int a2].toArray below meth c H locs 0 0 (MQ below (va_Qi (fun (x : Int32) (u : am_S) => x = rr ∧ u = ww) (am_U G) (am_A G)) [.ref (G.1 + 271), .int a1, .int a2].toArray s 0 0 (am_A G)) (F0 m 23 ls [.int s0, .ref (G.1 + 271)]) := by
    intro s0 w H locs ls hf hH hl
    unfold f_X12_user_23 at hf
    obtain ⟨w_22, hw_22, hf⟩ := am_v_some hf
    refine am_puti hx hb hts hK hown hH (am_o12 (p := 271) (by decide +kernel)) rfl am_inX12 tyX12 tyX12_ok nmX12 0 (by decide) am_q1319 rfl rfl rfl (fun _ _ => Nat.le_of_ble_eq_true rfl) (fun _ _ _ => rfl) dX12_user_23 (fun H locs hH => ?_)
    rw [← hw_22] at hH
    refine lv_aload_n hx hb dX12_user_26 rfl (lv_at hl 0 rfl) ?_
    refine am_get hx hb hts hK hown hH (am_o12 (p := 271) (by decide +kernel)) rfl am_inX12 0 (by decide) am_q1319 (v := .int (w_22.1 271 0)) rfl dX12_user_27 ?_
    refine lv_iconst (v := 1) hx hb dX12_user_30 (by decide) ?_
    refine lv_icmp_ne (tgt := 36) hx hb dX12_user_31 (by decide) (fun hc_23 => ?_) (fun hc_23 => ?_)
    · have hf := (if_neg hc_23).symm.trans hf
      refine lv_iload_n hx hb dX12_user_36 rfl (lv_at hl 2 rfl) ?_
      by_cases he_24 : a2 = (3 : Int32)
      · have hf := (if_pos he_24).symm.trans hf
        refine lv_tableIn (off := 27) (tgt := 64) hx hb dX12_user_37 (by rw [he_24]; decide) (by rw [he_24]; decide) (by rw [he_24]; rfl) (by decide) ?_
        refine lv_aload_n hx hb dX12_user_64 rfl (lv_at hl 0 rfl) ?_
        refine lv_iload_n hx hb dX12_user_65 rfl (lv_at hl 1 rfl) ?_
        obtain ⟨r_29, w_27, hq_28, hf⟩ := am_b2_some hf
        refine am_calli (r := r_29) (w' := w_27) (am_runV (n := 1) (As := [.int a1]) (rest := []) ⟨hx, hb, hml, hown, hts⟩ hK hE hH (k_X12_copyMany hq_28) (am_gV am_q1632 am_q1634 am_qs87 am_q13 am_q1635) (am_o12 (p := 271) (by decide +kernel)) rfl ⟨rfl, rfl⟩ (by decide +kernel) ⟨Nat.le_of_ble_eq_true rfl, Nat.le_of_ble_eq_true rfl⟩ rfl hl.1 rfl (Nat.le_of_ble_eq_true rfl) ⟨Nat.zero_le _, Nat.zero_le _⟩ dX12_user_66) hH (fun H locs hH => ?_)
        exact am_reti hx hb hr hlocks hH hf dX12_user_69
      have hf := (if_neg he_24).symm.trans hf
      by_cases he_25 : a2 = (4 : Int32)
      · have hf := (if_pos he_25).symm.trans hf
        refine lv_tableIn (off := 33) (tgt := 70) hx hb dX12_user_37 (by rw [he_25]; decide) (by rw [he_25]; decide) (by rw [he_25]; rfl) (by decide) ?_
        refine lv_aload_n hx hb dX12_user_70 rfl (lv_at hl 0 rfl) ?_
        refine am_get hx hb hts hK hown hH (am_o12 (p := 271) (by decide +kernel)) rfl am_inX12 17 (by decide) am_q1336 (v := .ref (G.1 + 281)) rfl dX12_user_71 ?_
        refine lv_iconst (v := 0) hx hb dX12_user_74 (by decide) ?_
        refine lv_iload_n hx hb dX12_user_75 rfl (lv_at hl 1 rfl) ?_
        refine lv_iadd hx hb dX12_user_76 ?_
        obtain ⟨hi_30, hf⟩ := am_chk_some hf
        refine am_iald hx hb hK hH (am_ai_of (N := 245) (by decide +kernel)) hi_30 dX12_user_77 ?_
        exact am_reti hx hb hr hlocks hH hf dX12_user_78
      have hf := (if_neg he_25).symm.trans hf
      by_cases he_26 : a2 = (5 : Int32)
      · have hf := (if_pos he_26).symm.trans hf
        refine lv_tableIn (off := 42) (tgt := 79) hx hb dX12_user_37 (by rw [he_26]; decide) (by rw [he_26]; decide) (by rw [he_26]; rfl) (by decide) ?_
        refine lv_aload_n hx hb dX12_user_79 rfl (lv_at hl 0 rfl) ?_
        refine lv_iload_n hx hb dX12_user_80 rfl (lv_at hl 1 rfl) ?_
        obtain ⟨r_33, w_31, hq_32, hf⟩ := am_b2_some hf
        refine am_calli (r := r_33) (w' := w_31) (am_runV (n := 1) (As := [.int a1]) (rest := []) ⟨hx, hb, hml, hown, hts⟩ hK hE hH (k_X12_hasteOf hq_32) (am_gV am_q1736 am_q1738 am_qs96 am_q13 am_q1739) (am_o12 (p := 271) (by decide +kernel)) rfl ⟨rfl, rfl⟩ (by decide +kernel) ⟨Nat.le_of_ble_eq_true rfl, Nat.le_of_ble_eq_true rfl⟩ rfl hl.1 rfl (Nat.le_of_ble_eq_true rfl) ⟨Nat.zero_le _, Nat.zero_le _⟩ dX12_user_81) hH (fun H locs hH => ?_)
        exact am_reti hx hb hr hlocks hH hf dX12_user_84
      have hf := (if_neg he_26).symm.trans hf
      have nhe_24 := am_tne (k := 3) (3 : Int32) (by decide) he_24
      have nhe_25 := am_tne (k := 4) (4 : Int32) (by decide) he_25
      have nhe_26 := am_tne (k := 5) (5 : Int32) (by decide) he_26
      refine lv_tableOut (tgt := 85) hx hb dX12_user_37 (by omega) (by decide) ?_
      refine lv_aload_n hx hb dX12_user_85 rfl (lv_at hl 0 rfl) ?_
      refine am_get hx hb hts hK hown hH (am_o12 (p := 271) (by decide +kernel)) rfl am_inX12 11 (by decide) am_q1330 (v := .ref (G.1 + 277)) rfl dX12_user_86 ?_
      refine lv_iconst (v := 5) hx hb dX12_user_89 (by decide) ?_
      refine lv_iload_n hx hb dX12_user_90 rfl (lv_at hl 1 rfl) ?_
      refine lv_imul hx hb dX12_user_91 ?_
      refine lv_iload_n hx hb dX12_user_92 rfl (lv_at hl 2 rfl) ?_
      refine lv_iadd hx hb dX12_user_93 ?_
      obtain ⟨hi_34, hf⟩ := am_chk_some hf
      refine am_iald hx hb hK hH (am_ai_of (N := 50) (by decide +kernel)) hi_34 dX12_user_94 ?_
      exact am_reti hx hb hr hlocks hH hf dX12_user_95
    · have hf := (if_pos hc_23).symm.trans hf
      refine lv_iconst (v := 0) hx hb dX12_user_34 (by decide) ?_
      exact am_reti hx hb hr hlocks hH hf dX12_user_35
  have P22 : ∀ (w : am_S) (H : Heap) (locs : List Loc) (ls : Array Slot), f_X12_user_22 a1 a2 w = some (rr, ww) → am_H G w s H locs → lv_has ls 3 [(0, .ref (G.1 + 271)), (1, .int a1), (2, .int a2)] → W p l e { frames := 8, cells := 0, slots := 0, locals := 512 } s m [.ref (G.1 + 271), .int a1, .int a2].toArray below meth c H locs 0 0 (MQ below (va_Qi (fun (x : Int32) (u : am_S) => x = rr ∧ u = ww) (am_U G) (am_A G)) [.ref (G.1 + 271), .int a1, .int a2].toArray s 0 0 (am_A G)) (F0 m 22 ls [.ref (G.1 + 271)]) := by
    intro w H locs ls hf hH hl
    unfold f_X12_user_22 at hf
    refine lv_iconst (v := 1) hx hb dX12_user_22 (by decide) ?_
    exact P23 (1 : Int32) w H locs ls hf hH (lv_sub hl [0, 1, 2] rfl)
  refine am_enter (lv := [(0, .ref (G.1 + 271)), (1, .int a1), (2, .int a2)]) (Nat.le_of_ble_eq_true rfl) rfl (fun ls hl => ?_)
  unfold f_X12_user at hf
  refine am_start hH (fun H locs hH => ?_)
  refine lv_aload_n hx hb dX12_user_0 rfl (lv_at hl 0 rfl) ?_
  refine lv_aload_n hx hb dX12_user_1 rfl (lv_at hl 0 rfl) ?_
  refine lv_iload_n hx hb dX12_user_2 rfl (lv_at hl 1 rfl) ?_
  obtain ⟨r_37, w_35, hq_36, hf⟩ := am_b2_some hf
  refine am_calli (r := r_37) (w' := w_35) (am_runV (n := 1) (As := [.int a1]) (rest := [.ref (G.1 + 271)]) ⟨hx, hb, hml, hown, hts⟩ hK hE hH (k_X12_isUser hq_36) (am_gV am_q1554 am_q1556 am_qs69 am_q13 am_q1557) (am_o12 (p := 271) (by decide +kernel)) rfl ⟨rfl, rfl⟩ (by decide +kernel) ⟨Nat.le_of_ble_eq_true rfl, Nat.le_of_ble_eq_true rfl⟩ rfl hl.1 rfl (Nat.le_of_ble_eq_true rfl) ⟨Nat.zero_le _, Nat.zero_le _⟩ dX12_user_3) hH (fun H locs hH => ?_)
  refine lv_if_eq (tgt := 22) hx hb dX12_user_6 (by decide) (fun hc_38 => ?_) (fun hc_38 => ?_)
  · have hf := (if_pos hc_38).symm.trans hf
    exact P22 w_35 H locs ls hf hH (lv_sub hl [0, 1, 2] rfl)
  · have hf := (if_neg hc_38).symm.trans hf
    refine lv_iload_n hx hb dX12_user_9 rfl (lv_at hl 2 rfl) ?_
    refine lv_iconst (v := 0) hx hb dX12_user_10 (by decide) ?_
    refine lv_iconst (v := 5) hx hb dX12_user_11 (by decide) ?_
    obtain ⟨r_41, w_39, hq_40, hf⟩ := am_b2_some hf
    refine am_calli (r := r_41) (w' := w_39) (am_runS (n := 3) (As := [.int a2, .int (0 : Int32), .int (5 : Int32)]) (rest := [.ref (G.1 + 271)]) ⟨hx, hb, hml, hown, hts⟩ hK hE hH (k_X12_in hq_40) (am_gS am_q1425 am_q1426 am_q13 am_q1427) ⟨rfl, rfl⟩ (by decide +kernel) ⟨Nat.le_of_ble_eq_true rfl, Nat.le_of_ble_eq_true rfl⟩ rfl hl.1 rfl (Nat.le_of_ble_eq_true rfl) ⟨Nat.zero_le _, Nat.zero_le _⟩ dX12_user_12) hH (fun H locs hH => ?_)
    refine lv_if_eq (tgt := 22) hx hb dX12_user_15 (by decide) (fun hc_42 => ?_) (fun hc_42 => ?_)
    · have hf := (if_pos hc_42).symm.trans hf
      exact P22 w_39 H locs ls hf hH (lv_sub hl [0, 1, 2] rfl)
    · have hf := (if_neg hc_42).symm.trans hf
      refine lv_iconst (v := 0) hx hb dX12_user_18 (by decide) ?_
      refine lv_goto (tgt := 23) hx hb dX12_user_19 (by decide) ?_
      exact P23 (0 : Int32) w_39 H locs ls hf hH (lv_sub hl [0, 1, 2] rfl)

def f_X12_weight_27 (a1 : Int32) (s0 : Int32) (w : am_S) : Option (Int32 × am_S) :=
  some (s0, w)
def f_X12_weight_26 (a1 : Int32) (w : am_S) : Option (Int32 × am_S) :=
  f_X12_weight_27 a1 (-1 : Int32) w
def f_X12_weight (a1 : Int32) (w : am_S) : Option (Int32 × am_S) :=
  am_b2 (f_X12_isField w) fun r_12 w_10 => if r_12 = 0 then (f_X12_weight_26 a1 w_10) else (am_b2 (f_X12_in a1 (1 : Int32) (6 : Int32) w_10) fun r_16 w_14 => if r_16 = 0 then (f_X12_weight_26 a1 w_14) else (am_chk a1 7 (f_X12_weight_27 a1 (w_14.1 278 a1.toNatClampNeg) w_14)))
set_option maxRecDepth 100000 in
set_option maxHeartbeats 4000000 in
theorem k_X12_weight {G : am_G} {l : Launch} {a1 : Int32}  {w : am_S} {rr : Int32} {ww : am_S} (hf : f_X12_weight a1 w = some (rr, ww)) : am_Mi G l yX12_weight (Cond.code yX12_weight cX12_weight 2 (some .int) :: am_T) { frames := 1, cells := 0, slots := 0, locals := 64 } [.ref (G.1 + 271), .int a1] w rr ww := by
  refine Met.ofW (cc := cX12_weight) (maxL := 2) (ret := (some .int)) (by decide) rfl ?_
  intro p e s m args below meth c s₁ B hml hv
  obtain ⟨rfl, hx, hb, hr, hts, hown, hlocks, hK, hE, hH⟩ := am_begin B hv
  have hown : s.vm.findClass RX12 = some m.cls := hown
  show W p l e { frames := 1, cells := 0, slots := 0, locals := 64 } s m _ below meth c s.heap [] 0 0 _ _
  have P27 : ∀ (s0 : Int32) (w : am_S) (H : Heap) (locs : List Loc) (ls : Array Slot), f_X12_weight_27 a1 s0 w = some (rr, ww) → am_H G w s H locs → lv_has ls 2 [] → W p l e { frames := 1, cells := 0, slots := 0, locals := 64 } s m [.ref (G.1 + 271), .int a1].toArray below meth c H locs 0 0 (MQ below (va_Qi (fun (x : Int32) (u : am_S) => x = rr ∧ u = ww) (am_U G) (am_A G)) [.ref (G.1 + 271), .int a1].toArray s 0 0 (am_A G)) (F0 m 27 ls [.int s0]) := by
    intro s0 w H locs ls hf hH hl
    unfold f_X12_weight_27 at hf
    exact am_reti hx hb hr hlocks hH hf dX12_weight_27
  have P26 : ∀ (w : am_S) (H : Heap) (locs : List Loc) (ls : Array Slot), f_X12_weight_26 a1 w = some (rr, ww) → am_H G w s H locs → lv_has ls 2 [] → W p l e { frames := 1, cells := 0, slots := 0, locals := 64 } s m [.ref (G.1 + 271), .int a1].toArray below meth c H locs 0 0 (MQ below (va_Qi (fun (x : Int32) (u : am_S) => x = rr ∧ u = ww) (am_U G) (am_A G)) [.ref (G.1 + 271), .int a1].toArray s 0 0 (am_A G)) (F0 m 26 ls []) := by
    intro w H locs ls hf hH hl
    unfold f_X12_weight_26 at hf
    refine lv_iconst (v := -1) hx hb dX12_weight_26 (by decide) ?_
    exact P27 (-1 : Int32) w H locs ls hf hH (lv_sub hl [] rfl)
  refine am_enter (lv := [(0, .ref (G.1 + 271)), (1, .int a1)]) (Nat.le_of_ble_eq_true rfl) rfl (fun ls hl => ?_)
  unfold f_X12_weight at hf
  refine am_start hH (fun H locs hH => ?_)
  refine lv_aload_n hx hb dX12_weight_0 rfl (lv_at hl 0 rfl) ?_
  obtain ⟨r_12, w_10, hq_11, hf⟩ := am_b2_some hf
  refine am_calli (r := r_12) (w' := w_10) (am_runV (n := 0) (As := []) (rest := []) ⟨hx, hb, hml, hown, hts⟩ hK hE hH (k_X12_isField hq_11) (am_gV am_q1514 am_q1516 am_qs59 am_q13 am_q1517) (am_o12 (p := 271) (by decide +kernel)) rfl ⟨rfl, rfl⟩ (by decide +kernel) ⟨Nat.le_of_ble_eq_true rfl, Nat.le_of_ble_eq_true rfl⟩ rfl hl.1 rfl (Nat.le_of_ble_eq_true rfl) ⟨Nat.zero_le _, Nat.zero_le _⟩ dX12_weight_1) hH (fun H locs hH => ?_)
  refine lv_if_eq (tgt := 26) hx hb dX12_weight_4 (by decide) (fun hc_13 => ?_) (fun hc_13 => ?_)
  · have hf := (if_pos hc_13).symm.trans hf
    exact P26 w_10 H locs ls hf hH (lv_sub hl [] rfl)
  · have hf := (if_neg hc_13).symm.trans hf
    refine lv_iload_n hx hb dX12_weight_7 rfl (lv_at hl 1 rfl) ?_
    refine lv_iconst (v := 1) hx hb dX12_weight_8 (by decide) ?_
    refine lv_bipush (v := 6) hx hb dX12_weight_9 (by decide) ?_
    obtain ⟨r_16, w_14, hq_15, hf⟩ := am_b2_some hf
    refine am_calli (r := r_16) (w' := w_14) (am_runS (n := 3) (As := [.int a1, .int (1 : Int32), .int (6 : Int32)]) (rest := []) ⟨hx, hb, hml, hown, hts⟩ hK hE hH (k_X12_in hq_15) (am_gS am_q1425 am_q1426 am_q13 am_q1427) ⟨rfl, rfl⟩ (by decide +kernel) ⟨Nat.le_of_ble_eq_true rfl, Nat.le_of_ble_eq_true rfl⟩ rfl hl.1 rfl (Nat.le_of_ble_eq_true rfl) ⟨Nat.zero_le _, Nat.zero_le _⟩ dX12_weight_11) hH (fun H locs hH => ?_)
    refine lv_if_eq (tgt := 26) hx hb dX12_weight_14 (by decide) (fun hc_17 => ?_) (fun hc_17 => ?_)
    · have hf := (if_pos hc_17).symm.trans hf
      exact P26 w_14 H locs ls hf hH (lv_sub hl [] rfl)
    · have hf := (if_neg hc_17).symm.trans hf
      refine lv_aload_n hx hb dX12_weight_17 rfl (lv_at hl 0 rfl) ?_
      refine am_get hx hb hts hK hown hH (am_o12 (p := 271) (by decide +kernel)) rfl am_inX12 12 (by decide) am_q1331 (v := .ref (G.1 + 278)) rfl dX12_weight_18 ?_
      refine lv_iload_n hx hb dX12_weight_21 rfl (lv_at hl 1 rfl) ?_
      obtain ⟨hi_18, hf⟩ := am_chk_some hf
      refine am_iald hx hb hK hH (am_ai_of (N := 7) (by decide +kernel)) hi_18 dX12_weight_22 ?_
      refine lv_goto (tgt := 27) hx hb dX12_weight_23 (by decide) ?_
      exact P27 (w_14.1 278 a1.toNatClampNeg) w_14 H locs ls hf hH (lv_sub hl [] rfl)

def f_X12_tryOne_20 (a1 : Int32) (a2 : Int32) (a3 : Int32) (w : am_S) : Option am_S :=
  some w
def f_X12_tryOne (a1 : Int32) (a2 : Int32) (a3 : Int32) (w : am_S) : Option am_S :=
  am_b2 (f_X12_whyNot a1 a2 a3 w) fun r_10 w_8 => if r_10 = (-1 : Int32) then (am_b2 (f_X12_act a1 a2 a3 (0 : Int64) w_8) fun r_14 w_12 => f_X12_tryOne_20 a1 a2 a3 w_12) else (f_X12_tryOne_20 a1 a2 a3 w_8)
set_option maxRecDepth 100000 in
set_option maxHeartbeats 4000000 in
theorem k_X12_tryOne {G : am_G} {l : Launch} {a1 : Int32} {a2 : Int32} {a3 : Int32}  {w : am_S} {ww : am_S} (hf : f_X12_tryOne a1 a2 a3 w = some ww) : am_Mv G l yX12_tryOne (Cond.code yX12_tryOne cX12_tryOne 4 none :: am_T) { frames := 10, cells := 0, slots := 0, locals := 640 } [.ref (G.1 + 271), .int a1, .int a2, .int a3] w ww := by
  refine Met.ofW (cc := cX12_tryOne) (maxL := 4) (ret := none) (by decide) rfl ?_
  intro p e s m args below meth c s₁ B hml hv
  obtain ⟨rfl, hx, hb, hr, hts, hown, hlocks, hK, hE, hH⟩ := am_begin B hv
  have hown : s.vm.findClass RX12 = some m.cls := hown
  show W p l e { frames := 10, cells := 0, slots := 0, locals := 640 } s m _ below meth c s.heap [] 0 0 _ _
  have P20 : ∀ (w : am_S) (H : Heap) (locs : List Loc) (ls : Array Slot), f_X12_tryOne_20 a1 a2 a3 w = some ww → am_H G w s H locs → lv_has ls 4 [] → W p l e { frames := 10, cells := 0, slots := 0, locals := 640 } s m [.ref (G.1 + 271), .int a1, .int a2, .int a3].toArray below meth c H locs 0 0 (MQ below (va_Qv (fun (u : am_S) => u = ww) (am_U G) (am_A G)) [.ref (G.1 + 271), .int a1, .int a2, .int a3].toArray s 0 0 (am_A G)) (F0 m 20 ls []) := by
    intro w H locs ls hf hH hl
    unfold f_X12_tryOne_20 at hf
    exact am_retv hx hb hr hlocks hH hf dX12_tryOne_20
  refine am_enter (lv := [(0, .ref (G.1 + 271)), (1, .int a1), (2, .int a2), (3, .int a3)]) (Nat.le_of_ble_eq_true rfl) rfl (fun ls hl => ?_)
  unfold f_X12_tryOne at hf
  refine am_start hH (fun H locs hH => ?_)
  refine lv_aload_n hx hb dX12_tryOne_0 rfl (lv_at hl 0 rfl) ?_
  refine lv_iload_n hx hb dX12_tryOne_1 rfl (lv_at hl 1 rfl) ?_
  refine lv_iload_n hx hb dX12_tryOne_2 rfl (lv_at hl 2 rfl) ?_
  refine lv_iload_n hx hb dX12_tryOne_3 rfl (lv_at hl 3 rfl) ?_
  obtain ⟨r_10, w_8, hq_9, hf⟩ := am_b2_some hf
  refine am_calli (r := r_10) (w' := w_8) (am_runV (n := 3) (As := [.int a1, .int a2, .int a3]) (rest := []) ⟨hx, hb, hml, hown, hts⟩ hK hE hH (k_X12_whyNot hq_9) (am_gV am_q1510 am_q1512 am_qs58 am_q13 am_q1513) (am_o12 (p := 271) (by decide +kernel)) rfl ⟨rfl, rfl⟩ (by decide +kernel) ⟨Nat.le_of_ble_eq_true rfl, Nat.le_of_ble_eq_true rfl⟩ rfl hl.1 rfl (Nat.le_of_ble_eq_true rfl) ⟨Nat.zero_le _, Nat.zero_le _⟩ dX12_tryOne_4) hH (fun H locs hH => ?_)
  refine lv_iconst (v := -1) hx hb dX12_tryOne_7 (by decide) ?_
  refine lv_icmp_ne (tgt := 20) hx hb dX12_tryOne_8 (by decide) (fun hc_11 => ?_) (fun hc_11 => ?_)
  · have hf := (if_neg hc_11).symm.trans hf
    exact P20 w_8 H locs ls hf hH (lv_sub hl [] rfl)
  · have hf := (if_pos hc_11).symm.trans hf
    refine lv_aload_n hx hb dX12_tryOne_11 rfl (lv_at hl 0 rfl) ?_
    refine lv_iload_n hx hb dX12_tryOne_12 rfl (lv_at hl 1 rfl) ?_
    refine lv_iload_n hx hb dX12_tryOne_13 rfl (lv_at hl 2 rfl) ?_
    refine lv_iload_n hx hb dX12_tryOne_14 rfl (lv_at hl 3 rfl) ?_
    refine lv_lconst (v := 0) hx hb dX12_tryOne_15 (by decide) ?_
    obtain ⟨r_14, w_12, hq_13, hf⟩ := am_b2_some hf
    refine am_calli (r := r_14) (w' := w_12) (am_runV (n := 4) (As := [.int a1, .int a2, .int a3, .long (0 : Int64)]) (rest := []) ⟨hx, hb, hml, hown, hts⟩ hK hE hH (k_X12_act hq_13) (am_gV am_q1594 am_q1596 am_qs79 am_q13 am_q1597) (am_o12 (p := 271) (by decide +kernel)) rfl ⟨rfl, rfl⟩ (by decide +kernel) ⟨Nat.le_of_ble_eq_true rfl, Nat.le_of_ble_eq_true rfl⟩ rfl hl.1 rfl (Nat.le_of_ble_eq_true rfl) ⟨Nat.zero_le _, Nat.zero_le _⟩ dX12_tryOne_16) hH (fun H locs hH => ?_)
    refine lv_pop hx hb dX12_tryOne_19 rfl ?_
    exact P20 w_12 H locs ls hf hH (lv_sub hl [] rfl)

def f_X12_drawYear_119  (w : am_S) : Option am_S :=
  some w
def f_X12_drawYear_53  (s0 : Int32) (w : am_S) : Option am_S :=
  am_b2 (f_X12_draw (w.1 271 13) w) fun r_39 w_37 => am_b1 (f_X12_tryOne s0 r_39 (0 : Int32) w_37) fun w_40 => f_X12_drawYear_119 w_40
def f_X12_drawYear  (w : am_S) : Option am_S :=
  am_b2 (f_X12_draw (8 : Int32) w) fun r_44 w_42 => if (2 : Int32) ≤ r_44 then (if r_44 = (2 : Int32) then (am_b1 (f_X12_tryOne (1 : Int32) (0 : Int32) (0 : Int32) w_42) fun w_69 => f_X12_drawYear_119 w_69) else (if (5 : Int32) ≤ r_44 then (if (7 : Int32) ≤ r_44 then (am_b2 (f_X12_draw (30 : Int32) w_42) fun r_51 w_49 => am_b1 (f_X12_tryOne (5 : Int32) r_51 (0 : Int32) w_49) fun w_52 => f_X12_drawYear_119 w_52) else (am_b2 (f_X12_draw (w_42.1 271 13) w_42) fun r_56 w_54 => am_b2 (f_X12_beginOf r_56 w_54) fun r_59 w_57 => am_b2 (f_X12_widthOf r_56 w_57) fun r_62 w_60 => am_b2 (f_X12_draw r_62 w_60) fun r_65 w_63 => am_b1 (f_X12_tryOne (4 : Int32) r_56 (r_59 + r_65) w_63) fun w_66 => f_X12_drawYear_119 w_66)) else (if r_44 = (3 : Int32) then (f_X12_drawYear_53 (2 : Int32) w_42) else (f_X12_drawYear_53 (3 : Int32) w_42)))) else (am_b1 (f_X12_tryOne (0 : Int32) (0 : Int32) (0 : Int32) w_42) fun w_71 => f_X12_drawYear_119 w_71)
set_option maxRecDepth 100000 in
set_option maxHeartbeats 4000000 in
theorem k_X12_drawYear {G : am_G} {l : Launch}   {w : am_S} {ww : am_S} (hf : f_X12_drawYear  w = some ww) : am_Mv G l yX12_drawYear (Cond.code yX12_drawYear cX12_drawYear 3 none :: am_T) { frames := 11, cells := 0, slots := 0, locals := 704 } [.ref (G.1 + 271)] w ww := by
  refine Met.ofW (cc := cX12_drawYear) (maxL := 3) (ret := none) (by decide) rfl ?_
  intro p e s m args below meth c s₁ B hml hv
  obtain ⟨rfl, hx, hb, hr, hts, hown, hlocks, hK, hE, hH⟩ := am_begin B hv
  have hown : s.vm.findClass RX12 = some m.cls := hown
  show W p l e { frames := 11, cells := 0, slots := 0, locals := 704 } s m _ below meth c s.heap [] 0 0 _ _
  have P119 : ∀ (w : am_S) (H : Heap) (locs : List Loc) (ls : Array Slot), f_X12_drawYear_119 w = some ww → am_H G w s H locs → lv_has ls 3 [] → W p l e { frames := 11, cells := 0, slots := 0, locals := 704 } s m [.ref (G.1 + 271)].toArray below meth c H locs 0 0 (MQ below (va_Qv (fun (u : am_S) => u = ww) (am_U G) (am_A G)) [.ref (G.1 + 271)].toArray s 0 0 (am_A G)) (F0 m 119 ls []) := by
    intro w H locs ls hf hH hl
    unfold f_X12_drawYear_119 at hf
    exact am_retv hx hb hr hlocks hH hf dX12_drawYear_119
  have P53 : ∀ (s0 : Int32) (w : am_S) (H : Heap) (locs : List Loc) (ls : Array Slot), f_X12_drawYear_53 s0 w = some ww → am_H G w s H locs → lv_has ls 3 [(0, .ref (G.1 + 271))] → W p l e { frames := 11, cells := 0, slots := 0, locals := 704 } s m [.ref (G.1 + 271)].toArray below meth c H locs 0 0 (MQ below (va_Qv (fun (u : am_S) => u = ww) (am_U G) (am_A G)) [.ref (G.1 + 271)].toArray s 0 0 (am_A G)) (F0 m 53 ls [.int s0, .ref (G.1 + 271)]) := by
    intro s0 w H locs ls hf hH hl
    unfold f_X12_drawYear_53 at hf
    refine lv_aload_n hx hb dX12_drawYear_53 rfl (lv_at hl 0 rfl) ?_
    refine lv_aload_n hx hb dX12_drawYear_54 rfl (lv_at hl 0 rfl) ?_
    refine am_get hx hb hts hK hown hH (am_o12 (p := 271) (by decide +kernel)) rfl am_inX12 13 (by decide) am_q1332 (v := .int (w.1 271 13)) rfl dX12_drawYear_55 ?_
    obtain ⟨r_39, w_37, hq_38, hf⟩ := am_b2_some hf
    refine am_calli (r := r_39) (w' := w_37) (am_runV (n := 1) (As := [.int (w.1 271 13)]) (rest := [.int s0, .ref (G.1 + 271)]) ⟨hx, hb, hml, hown, hts⟩ hK hE hH (k_X12_draw hq_38) (am_gV am_q1644 am_q1646 am_qs90 am_q13 am_q1647) (am_o12 (p := 271) (by decide +kernel)) rfl ⟨rfl, rfl⟩ (by decide +kernel) ⟨Nat.le_of_ble_eq_true rfl, Nat.le_of_ble_eq_true rfl⟩ rfl hl.1 rfl (Nat.le_of_ble_eq_true rfl) ⟨Nat.zero_le _, Nat.zero_le _⟩ dX12_drawYear_58) hH (fun H locs hH => ?_)
    refine lv_iconst (v := 0) hx hb dX12_drawYear_61 (by decide) ?_
    obtain ⟨w_40, hq_41, hf⟩ := am_b1_some hf
    refine am_callv (w' := w_40) (am_runV (n := 3) (As := [.int s0, .int r_39, .int (0 : Int32)]) (rest := []) ⟨hx, hb, hml, hown, hts⟩ hK hE hH (k_X12_tryOne hq_41) (am_gV am_q1707 am_q1709 am_qs95 am_q13 am_q1710) (am_o12 (p := 271) (by decide +kernel)) rfl ⟨rfl, rfl⟩ (by decide +kernel) ⟨Nat.le_of_ble_eq_true rfl, Nat.le_of_ble_eq_true rfl⟩ rfl hl.1 rfl (Nat.le_of_ble_eq_true rfl) ⟨Nat.zero_le _, Nat.zero_le _⟩ dX12_drawYear_62) hH (fun H locs hH => ?_)
    refine lv_goto (tgt := 119) hx hb dX12_drawYear_65 (by decide) ?_
    exact P119 w_40 H locs ls hf hH (lv_sub hl [] rfl)
  refine am_enter (lv := [(0, .ref (G.1 + 271))]) (Nat.le_of_ble_eq_true rfl) rfl (fun ls hl => ?_)
  unfold f_X12_drawYear at hf
  refine am_start hH (fun H locs hH => ?_)
  refine lv_aload_n hx hb dX12_drawYear_0 rfl (lv_at hl 0 rfl) ?_
  refine lv_bipush (v := 8) hx hb dX12_drawYear_1 (by decide) ?_
  obtain ⟨r_44, w_42, hq_43, hf⟩ := am_b2_some hf
  refine am_calli (r := r_44) (w' := w_42) (am_runV (n := 1) (As := [.int (8 : Int32)]) (rest := []) ⟨hx, hb, hml, hown, hts⟩ hK hE hH (k_X12_draw hq_43) (am_gV am_q1644 am_q1646 am_qs90 am_q13 am_q1647) (am_o12 (p := 271) (by decide +kernel)) rfl ⟨rfl, rfl⟩ (by decide +kernel) ⟨Nat.le_of_ble_eq_true rfl, Nat.le_of_ble_eq_true rfl⟩ rfl hl.1 rfl (Nat.le_of_ble_eq_true rfl) ⟨Nat.zero_le _, Nat.zero_le _⟩ dX12_drawYear_3) hH (fun H locs hH => ?_)
  refine lv_istore_n (lv' := [(1, .int r_44), (0, .ref (G.1 + 271))]) hx hb dX12_drawYear_6 rfl hl (by decide) rfl (fun ls hl => ?_)
  refine lv_iload_n hx hb dX12_drawYear_7 rfl (lv_at hl 0 rfl) ?_
  refine lv_iconst (v := 2) hx hb dX12_drawYear_8 (by decide) ?_
  refine lv_icmp_ge (tgt := 22) hx hb dX12_drawYear_9 (by decide) (fun hc_45 => ?_) (fun hc_45 => ?_)
  · have hf := (if_pos hc_45).symm.trans hf
    refine lv_iload_n hx hb dX12_drawYear_22 rfl (lv_at hl 0 rfl) ?_
    refine lv_iconst (v := 2) hx hb dX12_drawYear_23 (by decide) ?_
    refine lv_icmp_ne (tgt := 37) hx hb dX12_drawYear_24 (by decide) (fun hc_46 => ?_) (fun hc_46 => ?_)
    · have hf := (if_neg hc_46).symm.trans hf
      refine lv_iload_n hx hb dX12_drawYear_37 rfl (lv_at hl 0 rfl) ?_
      refine lv_iconst (v := 5) hx hb dX12_drawYear_38 (by decide) ?_
      refine lv_icmp_ge (tgt := 68) hx hb dX12_drawYear_39 (by decide) (fun hc_47 => ?_) (fun hc_47 => ?_)
      · have hf := (if_pos hc_47).symm.trans hf
        refine lv_iload_n hx hb dX12_drawYear_68 rfl (lv_at hl 0 rfl) ?_
        refine lv_bipush (v := 7) hx hb dX12_drawYear_69 (by decide) ?_
        refine lv_icmp_ge (tgt := 107) hx hb dX12_drawYear_71 (by decide) (fun hc_48 => ?_) (fun hc_48 => ?_)
        · have hf := (if_pos hc_48).symm.trans hf
          refine lv_aload_n hx hb dX12_drawYear_107 rfl (lv_at hl 1 rfl) ?_
          refine lv_iconst (v := 5) hx hb dX12_drawYear_108 (by decide) ?_
          refine lv_aload_n hx hb dX12_drawYear_109 rfl (lv_at hl 1 rfl) ?_
          refine lv_bipush (v := 30) hx hb dX12_drawYear_110 (by decide) ?_
          obtain ⟨r_51, w_49, hq_50, hf⟩ := am_b2_some hf
          refine am_calli (r := r_51) (w' := w_49) (am_runV (n := 1) (As := [.int (30 : Int32)]) (rest := [.int (5 : Int32), .ref (G.1 + 271)]) ⟨hx, hb, hml, hown, hts⟩ hK hE hH (k_X12_draw hq_50) (am_gV am_q1644 am_q1646 am_qs90 am_q13 am_q1647) (am_o12 (p := 271) (by decide +kernel)) rfl ⟨rfl, rfl⟩ (by decide +kernel) ⟨Nat.le_of_ble_eq_true rfl, Nat.le_of_ble_eq_true rfl⟩ rfl hl.1 rfl (Nat.le_of_ble_eq_true rfl) ⟨Nat.zero_le _, Nat.zero_le _⟩ dX12_drawYear_112) hH (fun H locs hH => ?_)
          refine lv_iconst (v := 0) hx hb dX12_drawYear_115 (by decide) ?_
          obtain ⟨w_52, hq_53, hf⟩ := am_b1_some hf
          refine am_callv (w' := w_52) (am_runV (n := 3) (As := [.int (5 : Int32), .int r_51, .int (0 : Int32)]) (rest := []) ⟨hx, hb, hml, hown, hts⟩ hK hE hH (k_X12_tryOne hq_53) (am_gV am_q1707 am_q1709 am_qs95 am_q13 am_q1710) (am_o12 (p := 271) (by decide +kernel)) rfl ⟨rfl, rfl⟩ (by decide +kernel) ⟨Nat.le_of_ble_eq_true rfl, Nat.le_of_ble_eq_true rfl⟩ rfl hl.1 rfl (Nat.le_of_ble_eq_true rfl) ⟨Nat.zero_le _, Nat.zero_le _⟩ dX12_drawYear_116) hH (fun H locs hH => ?_)
          exact P119 w_52 H locs ls hf hH (lv_sub hl [] rfl)
        · have hf := (if_neg hc_48).symm.trans hf
          refine lv_aload_n hx hb dX12_drawYear_74 rfl (lv_at hl 1 rfl) ?_
          refine lv_aload_n hx hb dX12_drawYear_75 rfl (lv_at hl 1 rfl) ?_
          refine am_get hx hb hts hK hown hH (am_o12 (p := 271) (by decide +kernel)) rfl am_inX12 13 (by decide) am_q1332 (v := .int (w_42.1 271 13)) rfl dX12_drawYear_76 ?_
          obtain ⟨r_56, w_54, hq_55, hf⟩ := am_b2_some hf
          refine am_calli (r := r_56) (w' := w_54) (am_runV (n := 1) (As := [.int (w_42.1 271 13)]) (rest := []) ⟨hx, hb, hml, hown, hts⟩ hK hE hH (k_X12_draw hq_55) (am_gV am_q1644 am_q1646 am_qs90 am_q13 am_q1647) (am_o12 (p := 271) (by decide +kernel)) rfl ⟨rfl, rfl⟩ (by decide +kernel) ⟨Nat.le_of_ble_eq_true rfl, Nat.le_of_ble_eq_true rfl⟩ rfl hl.1 rfl (Nat.le_of_ble_eq_true rfl) ⟨Nat.zero_le _, Nat.zero_le _⟩ dX12_drawYear_79) hH (fun H locs hH => ?_)
          refine lv_istore_n (lv' := [(2, .int r_56), (1, .int r_44), (0, .ref (G.1 + 271))]) hx hb dX12_drawYear_82 rfl hl (by decide) rfl (fun ls hl => ?_)
          refine lv_aload_n hx hb dX12_drawYear_83 rfl (lv_at hl 2 rfl) ?_
          refine lv_iconst (v := 4) hx hb dX12_drawYear_84 (by decide) ?_
          refine lv_iload_n hx hb dX12_drawYear_85 rfl (lv_at hl 0 rfl) ?_
          refine lv_aload_n hx hb dX12_drawYear_86 rfl (lv_at hl 2 rfl) ?_
          refine lv_iload_n hx hb dX12_drawYear_87 rfl (lv_at hl 0 rfl) ?_
          obtain ⟨r_59, w_57, hq_58, hf⟩ := am_b2_some hf
          refine am_calli (r := r_59) (w' := w_57) (am_runV (n := 1) (As := [.int r_56]) (rest := [.int r_56, .int (4 : Int32), .ref (G.1 + 271)]) ⟨hx, hb, hml, hown, hts⟩ hK hE hH (k_X12_beginOf hq_58) (am_gV am_q1566 am_q1568 am_qs72 am_q13 am_q1569) (am_o12 (p := 271) (by decide +kernel)) rfl ⟨rfl, rfl⟩ (by decide +kernel) ⟨Nat.le_of_ble_eq_true rfl, Nat.le_of_ble_eq_true rfl⟩ rfl hl.1 rfl (Nat.le_of_ble_eq_true rfl) ⟨Nat.zero_le _, Nat.zero_le _⟩ dX12_drawYear_88) hH (fun H locs hH => ?_)
          refine lv_aload_n hx hb dX12_drawYear_91 rfl (lv_at hl 2 rfl) ?_
          refine lv_aload_n hx hb dX12_drawYear_92 rfl (lv_at hl 2 rfl) ?_
          refine lv_iload_n hx hb dX12_drawYear_93 rfl (lv_at hl 0 rfl) ?_
          obtain ⟨r_62, w_60, hq_61, hf⟩ := am_b2_some hf
          refine am_calli (r := r_62) (w' := w_60) (am_runV (n := 1) (As := [.int r_56]) (rest := [.ref (G.1 + 271), .int r_59, .int r_56, .int (4 : Int32), .ref (G.1 + 271)]) ⟨hx, hb, hml, hown, hts⟩ hK hE hH (k_X12_widthOf hq_61) (am_gV am_q1570 am_q1572 am_qs73 am_q13 am_q1573) (am_o12 (p := 271) (by decide +kernel)) rfl ⟨rfl, rfl⟩ (by decide +kernel) ⟨Nat.le_of_ble_eq_true rfl, Nat.le_of_ble_eq_true rfl⟩ rfl hl.1 rfl (Nat.le_of_ble_eq_true rfl) ⟨Nat.zero_le _, Nat.zero_le _⟩ dX12_drawYear_94) hH (fun H locs hH => ?_)
          obtain ⟨r_65, w_63, hq_64, hf⟩ := am_b2_some hf
          refine am_calli (r := r_65) (w' := w_63) (am_runV (n := 1) (As := [.int r_62]) (rest := [.int r_59, .int r_56, .int (4 : Int32), .ref (G.1 + 271)]) ⟨hx, hb, hml, hown, hts⟩ hK hE hH (k_X12_draw hq_64) (am_gV am_q1644 am_q1646 am_qs90 am_q13 am_q1647) (am_o12 (p := 271) (by decide +kernel)) rfl ⟨rfl, rfl⟩ (by decide +kernel) ⟨Nat.le_of_ble_eq_true rfl, Nat.le_of_ble_eq_true rfl⟩ rfl hl.1 rfl (Nat.le_of_ble_eq_true rfl) ⟨Nat.zero_le _, Nat.zero_le _⟩ dX12_drawYear_97) hH (fun H locs hH => ?_)
          refine lv_iadd hx hb dX12_drawYear_100 ?_
          obtain ⟨w_66, hq_67, hf⟩ := am_b1_some hf
          refine am_callv (w' := w_66) (am_runV (n := 3) (As := [.int (4 : Int32), .int r_56, .int (r_59 + r_65)]) (rest := []) ⟨hx, hb, hml, hown, hts⟩ hK hE hH (k_X12_tryOne hq_67) (am_gV am_q1707 am_q1709 am_qs95 am_q13 am_q1710) (am_o12 (p := 271) (by decide +kernel)) rfl ⟨rfl, rfl⟩ (by decide +kernel) ⟨Nat.le_of_ble_eq_true rfl, Nat.le_of_ble_eq_true rfl⟩ rfl hl.1 rfl (Nat.le_of_ble_eq_true rfl) ⟨Nat.zero_le _, Nat.zero_le _⟩ dX12_drawYear_101) hH (fun H locs hH => ?_)
          refine lv_goto (tgt := 119) hx hb dX12_drawYear_104 (by decide) ?_
          exact P119 w_66 H locs ls hf hH (lv_sub hl [] rfl)
      · have hf := (if_neg hc_47).symm.trans hf
        refine lv_aload_n hx hb dX12_drawYear_42 rfl (lv_at hl 1 rfl) ?_
        refine lv_iload_n hx hb dX12_drawYear_43 rfl (lv_at hl 0 rfl) ?_
        refine lv_iconst (v := 3) hx hb dX12_drawYear_44 (by decide) ?_
        refine lv_icmp_ne (tgt := 52) hx hb dX12_drawYear_45 (by decide) (fun hc_68 => ?_) (fun hc_68 => ?_)
        · have hf := (if_neg hc_68).symm.trans hf
          refine lv_iconst (v := 3) hx hb dX12_drawYear_52 (by decide) ?_
          exact P53 (3 : Int32) w_42 H locs ls hf hH (lv_sub hl [1] rfl)
        · have hf := (if_pos hc_68).symm.trans hf
          refine lv_iconst (v := 2) hx hb dX12_drawYear_48 (by decide) ?_
          refine lv_goto (tgt := 53) hx hb dX12_drawYear_49 (by decide) ?_
          exact P53 (2 : Int32) w_42 H locs ls hf hH (lv_sub hl [1] rfl)
    · have hf := (if_pos hc_46).symm.trans hf
      refine lv_aload_n hx hb dX12_drawYear_27 rfl (lv_at hl 1 rfl) ?_
      refine lv_iconst (v := 1) hx hb dX12_drawYear_28 (by decide) ?_
      refine lv_iconst (v := 0) hx hb dX12_drawYear_29 (by decide) ?_
      refine lv_iconst (v := 0) hx hb dX12_drawYear_30 (by decide) ?_
      obtain ⟨w_69, hq_70, hf⟩ := am_b1_some hf
      refine am_callv (w' := w_69) (am_runV (n := 3) (As := [.int (1 : Int32), .int (0 : Int32), .int (0 : Int32)]) (rest := []) ⟨hx, hb, hml, hown, hts⟩ hK hE hH (k_X12_tryOne hq_70) (am_gV am_q1707 am_q1709 am_qs95 am_q13 am_q1710) (am_o12 (p := 271) (by decide +kernel)) rfl ⟨rfl, rfl⟩ (by decide +kernel) ⟨Nat.le_of_ble_eq_true rfl, Nat.le_of_ble_eq_true rfl⟩ rfl hl.1 rfl (Nat.le_of_ble_eq_true rfl) ⟨Nat.zero_le _, Nat.zero_le _⟩ dX12_drawYear_31) hH (fun H locs hH => ?_)
      refine lv_goto (tgt := 119) hx hb dX12_drawYear_34 (by decide) ?_
      exact P119 w_69 H locs ls hf hH (lv_sub hl [] rfl)
  · have hf := (if_neg hc_45).symm.trans hf
    refine lv_aload_n hx hb dX12_drawYear_12 rfl (lv_at hl 1 rfl) ?_
    refine lv_iconst (v := 0) hx hb dX12_drawYear_13 (by decide) ?_
    refine lv_iconst (v := 0) hx hb dX12_drawYear_14 (by decide) ?_
    refine lv_iconst (v := 0) hx hb dX12_drawYear_15 (by decide) ?_
    obtain ⟨w_71, hq_72, hf⟩ := am_b1_some hf
    refine am_callv (w' := w_71) (am_runV (n := 3) (As := [.int (0 : Int32), .int (0 : Int32), .int (0 : Int32)]) (rest := []) ⟨hx, hb, hml, hown, hts⟩ hK hE hH (k_X12_tryOne hq_72) (am_gV am_q1707 am_q1709 am_qs95 am_q13 am_q1710) (am_o12 (p := 271) (by decide +kernel)) rfl ⟨rfl, rfl⟩ (by decide +kernel) ⟨Nat.le_of_ble_eq_true rfl, Nat.le_of_ble_eq_true rfl⟩ rfl hl.1 rfl (Nat.le_of_ble_eq_true rfl) ⟨Nat.zero_le _, Nat.zero_le _⟩ dX12_drawYear_16) hH (fun H locs hH => ?_)
    refine lv_goto (tgt := 119) hx hb dX12_drawYear_19 (by decide) ?_
    exact P119 w_71 H locs ls hf hH (lv_sub hl [] rfl)

def f_X12_years_17 (a1 : Int32) (a2 : Int64) (w : am_S) : Option (Int32 × am_S) :=
  some ((-1 : Int32), w)
def f_X12_years_27b (a1 : Int32) (a2 : Int64) (x4 : Int32) (w : am_S) : Option ((Int32 × am_S) ⊕ (Int32 × am_S)) :=
  if a1 ≤ x4 then (am_x (am_b2 (f_X12_knownMany w) fun r_21 w_19 => some (r_21, w_19))) else (am_b1 (f_X12_drawYear w) fun w_22 => am_v (x4 + (1 : Int32)) fun (x4_24 : Int32) => some (.inr (x4_24, w_22)))
def f_X12_years_27 (a1 : Int32) (a2 : Int64) (x4 : Int32) (w : am_S) : Option (Int32 × am_S) :=
  am_loop (fun (st : (Int32 × am_S)) => f_X12_years_27b a1 a2 st.1 st.2) am_fuel (x4, w)
def f_X12_years (a1 : Int32) (a2 : Int64) (w : am_S) : Option (Int32 × am_S) :=
  am_b2 (f_X12_isField w) fun r_27 w_25 => if r_27 = 0 then (f_X12_years_17 a1 a2 w_25) else (am_b2 (f_X12_in a1 (1 : Int32) (40 : Int32) w_25) fun r_31 w_29 => if r_31 = 0 then (f_X12_years_17 a1 a2 w_29) else (am_v (am_pl w_29 271 24 a2) fun (w_33 : am_S) => f_X12_years_27 a1 a2 (0 : Int32) w_33))
set_option maxRecDepth 100000 in
set_option maxHeartbeats 4000000 in
theorem k_X12_years {G : am_G} {l : Launch} {a1 : Int32} {a2 : Int64}  {w : am_S} {rr : Int32} {ww : am_S} (hf : f_X12_years a1 a2 w = some (rr, ww)) : am_Mi G l yX12_years (Cond.code yX12_years cX12_years 5 (some .int) :: am_T) { frames := 12, cells := 0, slots := 0, locals := 768 } [.ref (G.1 + 271), .int a1, .long a2] w rr ww := by
  refine Met.ofW (cc := cX12_years) (maxL := 5) (ret := (some .int)) (by decide) rfl ?_
  intro p e s m args below meth c s₁ B hml hv
  obtain ⟨rfl, hx, hb, hr, hts, hown, hlocks, hK, hE, hH⟩ := am_begin B hv
  have hown : s.vm.findClass RX12 = some m.cls := hown
  show W p l e { frames := 12, cells := 0, slots := 0, locals := 768 } s m _ below meth c s.heap [] 0 0 _ _
  have P17 : ∀ (w : am_S) (H : Heap) (locs : List Loc) (ls : Array Slot), f_X12_years_17 a1 a2 w = some (rr, ww) → am_H G w s H locs → lv_has ls 5 [] → W p l e { frames := 12, cells := 0, slots := 0, locals := 768 } s m [.ref (G.1 + 271), .int a1, .long a2].toArray below meth c H locs 0 0 (MQ below (va_Qi (fun (x : Int32) (u : am_S) => x = rr ∧ u = ww) (am_U G) (am_A G)) [.ref (G.1 + 271), .int a1, .long a2].toArray s 0 0 (am_A G)) (F0 m 17 ls []) := by
    intro w H locs ls hf hH hl
    unfold f_X12_years_17 at hf
    refine lv_iconst (v := -1) hx hb dX12_years_17 (by decide) ?_
    exact am_reti hx hb hr hlocks hH hf dX12_years_18
  have P27 : ∀ (n1 : Nat) (x4 : Int32) (w : am_S) (H : Heap) (locs : List Loc) (ls : Array Slot), am_loop (fun (st : (Int32 × am_S)) => f_X12_years_27b a1 a2 st.1 st.2) n1 (x4, w) = some (rr, ww) → am_H G w s H locs → lv_has ls 5 [(0, .ref (G.1 + 271)), (1, .int a1), (4, .int x4)] → W p l e { frames := 12, cells := 0, slots := 0, locals := 768 } s m [.ref (G.1 + 271), .int a1, .long a2].toArray below meth c H locs 0 0 (MQ below (va_Qi (fun (x : Int32) (u : am_S) => x = rr ∧ u = ww) (am_U G) (am_A G)) [.ref (G.1 + 271), .int a1, .long a2].toArray s 0 0 (am_A G)) (F0 m 27 ls []) := by
    intro n1
    induction n1 with
    | zero =>
      intro x4 w H locs ls hf hH hl
      exact (am_loop_zero hf).elim
    | succ n1 ih1 =>
      intro x4 w H locs ls hf hH hl
      obtain ⟨z1, hf, hk1⟩ := am_loop_succ hf
      have hf : f_X12_years_27b a1 a2 x4 w = some z1 := hf
      unfold f_X12_years_27b at hf
      refine lv_iload hx hb dX12_years_27 (lv_at hl 2 rfl) ?_
      refine lv_iload_n hx hb dX12_years_29 rfl (lv_at hl 1 rfl) ?_
      refine lv_icmp_ge (tgt := 43) hx hb dX12_years_30 (by decide) (fun hc_17 => ?_) (fun hc_17 => ?_)
      · have hf := (if_pos hc_17).symm.trans hf
        obtain ⟨y_18, hf, hzy_18⟩ := am_x_some hf
        rw [hzy_18] at hk1
        have hf := hf.trans (congrArg some (show y_18 = (rr, ww) from hk1))
        refine lv_aload_n hx hb dX12_years_43 rfl (lv_at hl 0 rfl) ?_
        obtain ⟨r_21, w_19, hq_20, hf⟩ := am_b2_some hf
        refine am_calli (r := r_21) (w' := w_19) (am_runV (n := 0) (As := []) (rest := []) ⟨hx, hb, hml, hown, hts⟩ hK hE hH (k_X12_knownMany hq_20) (am_gV am_q1621 am_q1623 am_qs85 am_q13 am_q1624) (am_o12 (p := 271) (by decide +kernel)) rfl ⟨rfl, rfl⟩ (by decide +kernel) ⟨Nat.le_of_ble_eq_true rfl, Nat.le_of_ble_eq_true rfl⟩ rfl hl.1 rfl (Nat.le_of_ble_eq_true rfl) ⟨Nat.zero_le _, Nat.zero_le _⟩ dX12_years_44) hH (fun H locs hH => ?_)
        exact am_reti hx hb hr hlocks hH hf dX12_years_47
      · have hf := (if_neg hc_17).symm.trans hf
        refine lv_aload_n hx hb dX12_years_33 rfl (lv_at hl 0 rfl) ?_
        obtain ⟨w_22, hq_23, hf⟩ := am_b1_some hf
        refine am_callv (w' := w_22) (am_runV (n := 0) (As := []) (rest := []) ⟨hx, hb, hml, hown, hts⟩ hK hE hH (k_X12_drawYear hq_23) (am_gV am_q1703 am_q1705 am_qs94 am_q13 am_q1706) (am_o12 (p := 271) (by decide +kernel)) rfl ⟨rfl, rfl⟩ (by decide +kernel) ⟨Nat.le_of_ble_eq_true rfl, Nat.le_of_ble_eq_true rfl⟩ rfl hl.1 rfl (Nat.le_of_ble_eq_true rfl) ⟨Nat.zero_le _, Nat.zero_le _⟩ dX12_years_34) hH (fun H locs hH => ?_)
        obtain ⟨x4_24, hx4_24, hf⟩ := am_v_some hf
        refine lv_iinc (v := x4_24) (lv' := [(4, .int x4_24), (0, .ref (G.1 + 271)), (1, .int a1)]) hx hb dX12_years_37 hl (k := 2) rfl (by rw [hx4_24]; rfl) (by decide) rfl (fun ls hl => ?_)
        refine lv_goto (tgt := 27) hx hb dX12_years_40 (by decide) ?_
        obtain rfl := Option.some.inj hf
        exact ih1 x4_24 w_22 H locs ls hk1 hH (lv_sub hl [1, 2, 0] rfl)
  refine am_enter (lv := [(0, .ref (G.1 + 271)), (1, .int a1), (2, .long a2)]) (Nat.le_of_ble_eq_true rfl) rfl (fun ls hl => ?_)
  unfold f_X12_years at hf
  refine am_start hH (fun H locs hH => ?_)
  refine lv_aload_n hx hb dX12_years_0 rfl (lv_at hl 0 rfl) ?_
  obtain ⟨r_27, w_25, hq_26, hf⟩ := am_b2_some hf
  refine am_calli (r := r_27) (w' := w_25) (am_runV (n := 0) (As := []) (rest := []) ⟨hx, hb, hml, hown, hts⟩ hK hE hH (k_X12_isField hq_26) (am_gV am_q1514 am_q1516 am_qs59 am_q13 am_q1517) (am_o12 (p := 271) (by decide +kernel)) rfl ⟨rfl, rfl⟩ (by decide +kernel) ⟨Nat.le_of_ble_eq_true rfl, Nat.le_of_ble_eq_true rfl⟩ rfl hl.1 rfl (Nat.le_of_ble_eq_true rfl) ⟨Nat.zero_le _, Nat.zero_le _⟩ dX12_years_1) hH (fun H locs hH => ?_)
  refine lv_if_eq (tgt := 17) hx hb dX12_years_4 (by decide) (fun hc_28 => ?_) (fun hc_28 => ?_)
  · have hf := (if_pos hc_28).symm.trans hf
    exact P17 w_25 H locs ls hf hH (lv_sub hl [] rfl)
  · have hf := (if_neg hc_28).symm.trans hf
    refine lv_iload_n hx hb dX12_years_7 rfl (lv_at hl 1 rfl) ?_
    refine lv_iconst (v := 1) hx hb dX12_years_8 (by decide) ?_
    refine lv_bipush (v := 40) hx hb dX12_years_9 (by decide) ?_
    obtain ⟨r_31, w_29, hq_30, hf⟩ := am_b2_some hf
    refine am_calli (r := r_31) (w' := w_29) (am_runS (n := 3) (As := [.int a1, .int (1 : Int32), .int (40 : Int32)]) (rest := []) ⟨hx, hb, hml, hown, hts⟩ hK hE hH (k_X12_in hq_30) (am_gS am_q1425 am_q1426 am_q13 am_q1427) ⟨rfl, rfl⟩ (by decide +kernel) ⟨Nat.le_of_ble_eq_true rfl, Nat.le_of_ble_eq_true rfl⟩ rfl hl.1 rfl (Nat.le_of_ble_eq_true rfl) ⟨Nat.zero_le _, Nat.zero_le _⟩ dX12_years_11) hH (fun H locs hH => ?_)
    refine lv_if_ne (tgt := 19) hx hb dX12_years_14 (by decide) (fun hc_32 => ?_) (fun hc_32 => ?_)
    · have hf := (if_neg hc_32).symm.trans hf
      refine lv_aload_n hx hb dX12_years_19 rfl (lv_at hl 0 rfl) ?_
      refine lv_lload_n hx hb dX12_years_20 rfl (lv_at hl 2 rfl) ?_
      obtain ⟨w_33, hw_33, hf⟩ := am_v_some hf
      refine am_putl hx hb hts hK hown hH (am_o12 (p := 271) (by decide +kernel)) rfl am_inX12 tyX12 tyX12_ok nmX12 24 (by decide) am_q1343 rfl rfl rfl (fun _ _ => Nat.le_of_ble_eq_true rfl) (fun _ _ _ => rfl) dX12_years_21 (fun H locs hH => ?_)
      rw [← hw_33] at hH
      refine lv_iconst (v := 0) hx hb dX12_years_24 (by decide) ?_
      refine lv_istore (lv' := [(4, .int (0 : Int32)), (0, .ref (G.1 + 271)), (1, .int a1), (2, .long a2)]) hx hb dX12_years_25 hl (by decide) rfl (fun ls hl => ?_)
      exact P27 am_fuel (0 : Int32) w_33 H locs ls hf hH (lv_sub hl [1, 2, 0] rfl)
    · have hf := (if_pos hc_32).symm.trans hf
      exact P17 w_29 H locs ls hf hH (lv_sub hl [] rfl)
