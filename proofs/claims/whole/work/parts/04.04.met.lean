/-! functions and contracts of methods, by program (wip/whole/gen.py) -/
def f_J1_indexOf_4cfef_b3 (a1 : Int32) (a2 : Int32) (a3 : Int32) (w : am_S) : Option (Int32 × am_S) :=
  am_b2 (f_J1_canEncode_9a6ad a1 w) fun r_17 w_15 => if r_17 = 0 then (some ((-1 : Int32), w_15)) else (am_b2 (f_J9_max_7cf53 a2 (0 : Int32) w_15) fun r_21 w_19 => am_b2 (f_J9_min_7cf53 a3 (6 : Int32) w_19) fun r_24 w_22 => if r_21 < r_24 then (am_b2 (f_J1_indexOfChar_4cfef_b3 a1 r_21 r_24 w_22) fun r_28 w_26 => some (r_28, w_26)) else (some ((-1 : Int32), w_22)))
set_option maxRecDepth 100000 in
set_option maxHeartbeats 4000000 in
theorem k_J1_indexOf_4cfef_b3 {G : am_G} {l : Launch} {a1 : Int32} {a2 : Int32} {a3 : Int32}  {w : am_S} {rr : Int32} {ww : am_S} (hf : f_J1_indexOf_4cfef_b3 a1 a2 a3 w = some (rr, ww)) : am_Mi G l yJ1_indexOf_4cfef (Cond.code yJ1_indexOf_4cfef cJ1_indexOf_4cfef 4 (some .int) :: am_T) { frames := 1, cells := 0, slots := 0, locals := 64 } [.ref (G.2.2.2.2.2 3), .int a1, .int a2, .int a3] w rr ww := by
  refine Met.ofW (cc := cJ1_indexOf_4cfef) (maxL := 4) (ret := (some .int)) (by decide) rfl ?_
  intro p e s m args below meth c s₁ B hml hv
  obtain ⟨rfl, hx, hb, hr, hts, hown, hlocks, hK, hE, hH⟩ := am_begin B hv
  have hown : s.vm.findClass RJ1 = some m.cls := hown
  show W p l e { frames := 1, cells := 0, slots := 0, locals := 64 } s m _ below meth c s.heap [] 0 0 _ _
  refine am_enter (lv := [(0, .ref (G.2.2.2.2.2 3)), (1, .int a1), (2, .int a2), (3, .int a3)]) (Nat.le_of_ble_eq_true rfl) rfl (fun ls hl => ?_)
  unfold f_J1_indexOf_4cfef_b3 at hf
  refine am_start hH (fun H locs hH => ?_)
  refine lv_iload_n hx hb dJ1_indexOf_4cfef_0 rfl (lv_at hl 1 rfl) ?_
  obtain ⟨r_17, w_15, hq_16, hf⟩ := am_b2_some hf
  refine am_calli (r := r_17) (w' := w_15) (am_runS (n := 1) (As := [.int a1]) (rest := []) ⟨hx, hb, hml, hown, hts⟩ hK hE hH (k_J1_canEncode_9a6ad hq_16) (am_gS am_q471 am_q472 am_q17 am_q473) ⟨rfl, rfl⟩ (by decide +kernel) ⟨Nat.le_of_ble_eq_true rfl, Nat.le_of_ble_eq_true rfl⟩ rfl hl.1 rfl (Nat.le_of_ble_eq_true rfl) ⟨Nat.zero_le _, Nat.zero_le _⟩ dJ1_indexOf_4cfef_1) hH (fun H locs hH => ?_)
  refine lv_if_ne (tgt := 9) hx hb dJ1_indexOf_4cfef_4 (by decide) (fun hc_18 => ?_) (fun hc_18 => ?_)
  · have hf := (if_neg hc_18).symm.trans hf
    refine lv_iload_n hx hb dJ1_indexOf_4cfef_9 rfl (lv_at hl 2 rfl) ?_
    refine lv_iconst (v := 0) hx hb dJ1_indexOf_4cfef_10 (by decide) ?_
    obtain ⟨r_21, w_19, hq_20, hf⟩ := am_b2_some hf
    refine am_calli (r := r_21) (w' := w_19) (am_runS (n := 2) (As := [.int a2, .int (0 : Int32)]) (rest := []) ⟨hx, hb, hml, hown, hts⟩ hK hE hH (k_J9_max_7cf53 hq_20) (am_gS am_q474 am_q475 am_q18 am_q476) ⟨rfl, rfl⟩ (by decide +kernel) ⟨Nat.le_of_ble_eq_true rfl, Nat.le_of_ble_eq_true rfl⟩ rfl hl.1 rfl (Nat.le_of_ble_eq_true rfl) ⟨Nat.zero_le _, Nat.zero_le _⟩ dJ1_indexOf_4cfef_11) hH (fun H locs hH => ?_)
    refine lv_istore_n (lv' := [(2, .int r_21), (0, .ref (G.2.2.2.2.2 3)), (1, .int a1), (3, .int a3)]) hx hb dJ1_indexOf_4cfef_14 rfl hl (by decide) rfl (fun ls hl => ?_)
    refine lv_iload_n hx hb dJ1_indexOf_4cfef_15 rfl (lv_at hl 3 rfl) ?_
    refine lv_aload_n hx hb dJ1_indexOf_4cfef_16 rfl (lv_at hl 1 rfl) ?_
    refine va_tlen (v := 6) hx hb (hE.2.1.1 3 (by decide)).2.2.2 hH.2 rfl dJ1_indexOf_4cfef_17 ?_
    obtain ⟨r_24, w_22, hq_23, hf⟩ := am_b2_some hf
    refine am_calli (r := r_24) (w' := w_22) (am_runS (n := 2) (As := [.int a3, .int (6 : Int32)]) (rest := []) ⟨hx, hb, hml, hown, hts⟩ hK hE hH (k_J9_min_7cf53 hq_23) (am_gS am_q477 am_q478 am_q18 am_q479) ⟨rfl, rfl⟩ (by decide +kernel) ⟨Nat.le_of_ble_eq_true rfl, Nat.le_of_ble_eq_true rfl⟩ rfl hl.1 rfl (Nat.le_of_ble_eq_true rfl) ⟨Nat.zero_le _, Nat.zero_le _⟩ dJ1_indexOf_4cfef_18) hH (fun H locs hH => ?_)
    refine lv_istore_n (lv' := [(3, .int r_24), (2, .int r_21), (0, .ref (G.2.2.2.2.2 3)), (1, .int a1)]) hx hb dJ1_indexOf_4cfef_21 rfl hl (by decide) rfl (fun ls hl => ?_)
    refine lv_iload_n hx hb dJ1_indexOf_4cfef_22 rfl (lv_at hl 1 rfl) ?_
    refine lv_iload_n hx hb dJ1_indexOf_4cfef_23 rfl (lv_at hl 0 rfl) ?_
    refine lv_icmp_lt (tgt := 29) hx hb dJ1_indexOf_4cfef_24 (by decide) (fun hc_25 => ?_) (fun hc_25 => ?_)
    · have hf := (if_pos hc_25).symm.trans hf
      refine lv_aload_n hx hb dJ1_indexOf_4cfef_29 rfl (lv_at hl 2 rfl) ?_
      refine lv_iload_n hx hb dJ1_indexOf_4cfef_30 rfl (lv_at hl 3 rfl) ?_
      refine lv_iload_n hx hb dJ1_indexOf_4cfef_31 rfl (lv_at hl 1 rfl) ?_
      refine lv_iload_n hx hb dJ1_indexOf_4cfef_32 rfl (lv_at hl 0 rfl) ?_
      obtain ⟨r_28, w_26, hq_27, hf⟩ := am_b2_some hf
      refine am_calli (r := r_28) (w' := w_26) (am_runS (n := 4) (As := [.ref (G.2.2.2.2.2 3), .int a1, .int r_21, .int r_24]) (rest := []) ⟨hx, hb, hml, hown, hts⟩ hK hE hH (k_J1_indexOfChar_4cfef_b3 hq_27) (am_gS am_q480 am_q481 am_q17 am_q482) ⟨rfl, rfl⟩ (by decide +kernel) ⟨Nat.le_of_ble_eq_true rfl, Nat.le_of_ble_eq_true rfl⟩ rfl hl.1 rfl (Nat.le_of_ble_eq_true rfl) ⟨Nat.zero_le _, Nat.zero_le _⟩ dJ1_indexOf_4cfef_33) hH (fun H locs hH => ?_)
      exact am_reti hx hb hr hlocks hH hf dJ1_indexOf_4cfef_36
    · have hf := (if_neg hc_25).symm.trans hf
      refine lv_iconst (v := -1) hx hb dJ1_indexOf_4cfef_27 (by decide) ?_
      exact am_reti hx hb hr hlocks hH hf dJ1_indexOf_4cfef_28
  · have hf := (if_pos hc_18).symm.trans hf
    refine lv_iconst (v := -1) hx hb dJ1_indexOf_4cfef_7 (by decide) ?_
    exact am_reti hx hb hr hlocks hH hf dJ1_indexOf_4cfef_8

def f_J0_indexOf_7cf53_t3_36 (a1 : Int32) (a2 : Int32) (s0 : Int32) (w : am_S) : Option (Int32 × am_S) :=
  some (s0, w)
def f_J0_indexOf_7cf53_t3 (a1 : Int32) (a2 : Int32) (w : am_S) : Option (Int32 × am_S) :=
  am_b2 (f_J0_isLatin1_aae02_t3 w) fun r_16 w_14 => if r_16 = 0 then (am_b2 (f_J0_length_8abf5_t3 w_14) fun r_20 w_18 => none) else (am_b2 (f_J0_length_8abf5_t3 w_14) fun r_23 w_21 => am_b2 (f_J1_indexOf_4cfef_b3 a1 a2 r_23 w_21) fun r_26 w_24 => f_J0_indexOf_7cf53_t3_36 a1 a2 r_26 w_24)
set_option maxRecDepth 100000 in
set_option maxHeartbeats 4000000 in
theorem k_J0_indexOf_7cf53_t3 {G : am_G} {l : Launch} {a1 : Int32} {a2 : Int32}  {w : am_S} {rr : Int32} {ww : am_S} (hf : f_J0_indexOf_7cf53_t3 a1 a2 w = some (rr, ww)) : am_Mi G l yJ0_indexOf_7cf53 (Cond.code yJ0_indexOf_7cf53 cJ0_indexOf_7cf53 3 (some .int) :: am_T) { frames := 2, cells := 0, slots := 0, locals := 128 } [.ref (G.2.2.2.2.1 3), .int a1, .int a2] w rr ww := by
  refine Met.ofW (cc := cJ0_indexOf_7cf53) (maxL := 3) (ret := (some .int)) (by decide) rfl ?_
  intro p e s m args below meth c s₁ B hml hv
  obtain ⟨rfl, hx, hb, hr, hts, hown, hlocks, hK, hE, hH⟩ := am_begin B hv
  have hown : s.vm.findClass RJ0 = some m.cls := hown
  show W p l e { frames := 2, cells := 0, slots := 0, locals := 128 } s m _ below meth c s.heap [] 0 0 _ _
  have P36 : ∀ (s0 : Int32) (w : am_S) (H : Heap) (locs : List Loc) (ls : Array Slot), f_J0_indexOf_7cf53_t3_36 a1 a2 s0 w = some (rr, ww) → am_H G w s H locs → lv_has ls 3 [] → W p l e { frames := 2, cells := 0, slots := 0, locals := 128 } s m [.ref (G.2.2.2.2.1 3), .int a1, .int a2].toArray below meth c H locs 0 0 (MQ below (va_Qi (fun (x : Int32) (u : am_S) => x = rr ∧ u = ww) (am_U G) (am_A G)) [.ref (G.2.2.2.2.1 3), .int a1, .int a2].toArray s 0 0 (am_A G)) (F0 m 36 ls [.int s0]) := by
    intro s0 w H locs ls hf hH hl
    unfold f_J0_indexOf_7cf53_t3_36 at hf
    exact am_reti hx hb hr hlocks hH hf dJ0_indexOf_7cf53_36
  refine am_enter (lv := [(0, .ref (G.2.2.2.2.1 3)), (1, .int a1), (2, .int a2)]) (Nat.le_of_ble_eq_true rfl) rfl (fun ls hl => ?_)
  unfold f_J0_indexOf_7cf53_t3 at hf
  refine am_start hH (fun H locs hH => ?_)
  refine lv_aload_n hx hb dJ0_indexOf_7cf53_0 rfl (lv_at hl 0 rfl) ?_
  obtain ⟨r_16, w_14, hq_15, hf⟩ := am_b2_some hf
  refine am_calli (r := r_16) (w' := w_14) (am_runVT (n := 0) (As := []) (rest := []) 3 (by decide) ⟨hx, hb, hml, hown, hts⟩ hK hE hH (k_J0_isLatin1_aae02_t3 hq_15) (am_gV am_q463 am_q464 am_q465 am_q16 am_q466) ⟨rfl, rfl⟩ (by decide +kernel) ⟨Nat.le_of_ble_eq_true rfl, Nat.le_of_ble_eq_true rfl⟩ rfl hl.1 rfl (Nat.le_of_ble_eq_true rfl) ⟨Nat.zero_le _, Nat.zero_le _⟩ dJ0_indexOf_7cf53_1) hH (fun H locs hH => ?_)
  refine lv_if_eq (tgt := 23) hx hb dJ0_indexOf_7cf53_4 (by decide) (fun hc_17 => ?_) (fun hc_17 => ?_)
  · have hf := (if_pos hc_17).symm.trans hf
    refine lv_aload_n hx hb dJ0_indexOf_7cf53_23 rfl (lv_at hl 0 rfl) ?_
    refine vk_getf hx hb (hE.2.1.1 3 (by decide)).2.2.1 hH.2 hown (hts _ am_q2023) (fun _ h => h) dJ0_indexOf_7cf53_24 ?_
    refine lv_iload_n hx hb dJ0_indexOf_7cf53_27 rfl (lv_at hl 1 rfl) ?_
    refine lv_iload_n hx hb dJ0_indexOf_7cf53_28 rfl (lv_at hl 2 rfl) ?_
    refine lv_aload_n hx hb dJ0_indexOf_7cf53_29 rfl (lv_at hl 0 rfl) ?_
    obtain ⟨r_20, w_18, hq_19, hf⟩ := am_b2_some hf
    refine am_calli (r := r_20) (w' := w_18) (am_runVT (n := 0) (As := []) (rest := [.int a2, .int a1, .ref (G.2.2.2.2.2 3)]) 3 (by decide) ⟨hx, hb, hml, hown, hts⟩ hK hE hH (k_J0_length_8abf5_t3 hq_19) (am_gV am_q467 am_q446 am_q447 am_q16 am_q448) ⟨rfl, rfl⟩ (by decide +kernel) ⟨Nat.le_of_ble_eq_true rfl, Nat.le_of_ble_eq_true rfl⟩ rfl hl.1 rfl (Nat.le_of_ble_eq_true rfl) ⟨Nat.zero_le _, Nat.zero_le _⟩ dJ0_indexOf_7cf53_30) hH (fun H locs hH => ?_)
    cases hf
  · have hf := (if_neg hc_17).symm.trans hf
    refine lv_aload_n hx hb dJ0_indexOf_7cf53_7 rfl (lv_at hl 0 rfl) ?_
    refine vk_getf hx hb (hE.2.1.1 3 (by decide)).2.2.1 hH.2 hown (hts _ am_q2023) (fun _ h => h) dJ0_indexOf_7cf53_8 ?_
    refine lv_iload_n hx hb dJ0_indexOf_7cf53_11 rfl (lv_at hl 1 rfl) ?_
    refine lv_iload_n hx hb dJ0_indexOf_7cf53_12 rfl (lv_at hl 2 rfl) ?_
    refine lv_aload_n hx hb dJ0_indexOf_7cf53_13 rfl (lv_at hl 0 rfl) ?_
    obtain ⟨r_23, w_21, hq_22, hf⟩ := am_b2_some hf
    refine am_calli (r := r_23) (w' := w_21) (am_runVT (n := 0) (As := []) (rest := [.int a2, .int a1, .ref (G.2.2.2.2.2 3)]) 3 (by decide) ⟨hx, hb, hml, hown, hts⟩ hK hE hH (k_J0_length_8abf5_t3 hq_22) (am_gV am_q467 am_q446 am_q447 am_q16 am_q448) ⟨rfl, rfl⟩ (by decide +kernel) ⟨Nat.le_of_ble_eq_true rfl, Nat.le_of_ble_eq_true rfl⟩ rfl hl.1 rfl (Nat.le_of_ble_eq_true rfl) ⟨Nat.zero_le _, Nat.zero_le _⟩ dJ0_indexOf_7cf53_14) hH (fun H locs hH => ?_)
    obtain ⟨r_26, w_24, hq_25, hf⟩ := am_b2_some hf
    refine am_calli (r := r_26) (w' := w_24) (am_runS (n := 4) (As := [.ref (G.2.2.2.2.2 3), .int a1, .int a2, .int r_23]) (rest := []) ⟨hx, hb, hml, hown, hts⟩ hK hE hH (k_J1_indexOf_4cfef_b3 hq_25) (am_gS am_q468 am_q469 am_q17 am_q470) ⟨rfl, rfl⟩ (by decide +kernel) ⟨Nat.le_of_ble_eq_true rfl, Nat.le_of_ble_eq_true rfl⟩ rfl hl.1 rfl (Nat.le_of_ble_eq_true rfl) ⟨Nat.zero_le _, Nat.zero_le _⟩ dJ0_indexOf_7cf53_17) hH (fun H locs hH => ?_)
    refine lv_goto (tgt := 36) hx hb dJ0_indexOf_7cf53_20 (by decide) ?_
    exact P36 r_26 w_24 H locs ls hf hH (lv_sub hl [] rfl)

def f_J0_indexOf_0f7a4_t3 (a1 : Int32) (w : am_S) : Option (Int32 × am_S) :=
  am_b2 (f_J0_indexOf_7cf53_t3 a1 (0 : Int32) w) fun r_6 w_4 => some (r_6, w_4)
set_option maxRecDepth 100000 in
set_option maxHeartbeats 4000000 in
theorem k_J0_indexOf_0f7a4_t3 {G : am_G} {l : Launch} {a1 : Int32}  {w : am_S} {rr : Int32} {ww : am_S} (hf : f_J0_indexOf_0f7a4_t3 a1 w = some (rr, ww)) : am_Mi G l yJ0_indexOf_0f7a4 (Cond.code yJ0_indexOf_0f7a4 cJ0_indexOf_0f7a4 2 (some .int) :: am_T) { frames := 3, cells := 0, slots := 0, locals := 192 } [.ref (G.2.2.2.2.1 3), .int a1] w rr ww := by
  refine Met.ofW (cc := cJ0_indexOf_0f7a4) (maxL := 2) (ret := (some .int)) (by decide) rfl ?_
  intro p e s m args below meth c s₁ B hml hv
  obtain ⟨rfl, hx, hb, hr, hts, hown, hlocks, hK, hE, hH⟩ := am_begin B hv
  have hown : s.vm.findClass RJ0 = some m.cls := hown
  show W p l e { frames := 3, cells := 0, slots := 0, locals := 192 } s m _ below meth c s.heap [] 0 0 _ _
  refine am_enter (lv := [(0, .ref (G.2.2.2.2.1 3)), (1, .int a1)]) (Nat.le_of_ble_eq_true rfl) rfl (fun ls hl => ?_)
  unfold f_J0_indexOf_0f7a4_t3 at hf
  refine am_start hH (fun H locs hH => ?_)
  refine lv_aload_n hx hb dJ0_indexOf_0f7a4_0 rfl (lv_at hl 0 rfl) ?_
  refine lv_iload_n hx hb dJ0_indexOf_0f7a4_1 rfl (lv_at hl 1 rfl) ?_
  refine lv_iconst (v := 0) hx hb dJ0_indexOf_0f7a4_2 (by decide) ?_
  obtain ⟨r_6, w_4, hq_5, hf⟩ := am_b2_some hf
  refine am_calli (r := r_6) (w' := w_4) (am_runVT (n := 2) (As := [.int a1, .int (0 : Int32)]) (rest := []) 3 (by decide) ⟨hx, hb, hml, hown, hts⟩ hK hE hH (k_J0_indexOf_7cf53_t3 hq_5) (am_gV am_q459 am_q460 am_q461 am_q16 am_q462) ⟨rfl, rfl⟩ (by decide +kernel) ⟨Nat.le_of_ble_eq_true rfl, Nat.le_of_ble_eq_true rfl⟩ rfl hl.1 rfl (Nat.le_of_ble_eq_true rfl) ⟨Nat.zero_le _, Nat.zero_le _⟩ dJ0_indexOf_0f7a4_3) hH (fun H locs hH => ?_)
  exact am_reti hx hb hr hlocks hH hf dJ0_indexOf_0f7a4_6

def f_X10_readDigit  (w : am_S) : Option (Int32 × am_S) :=
  am_b2 (f_X10_nextSign w) fun r_13 w_11 => am_b2 (f_X10_isDigitHere w_11) fun r_16 w_14 => if r_16 = 0 then (some ((0 : Int32), w_14)) else (am_chk (w_14.1 1 2) 240 (am_v (am_pi w_14 1 3 ((w_14.1 2 (w_14.1 1 2).toNatClampNeg) - (48 : Int32))) fun (w_19 : am_S) => am_v (am_pi w_19 1 2 ((w_19.1 1 2) + (1 : Int32))) fun (w_20 : am_S) => some ((1 : Int32), w_20)))
set_option maxRecDepth 100000 in
set_option maxHeartbeats 4000000 in
theorem k_X10_readDigit {G : am_G} {l : Launch}   {w : am_S} {rr : Int32} {ww : am_S} (hf : f_X10_readDigit  w = some (rr, ww)) : am_Mi G l yX10_readDigit (Cond.code yX10_readDigit cX10_readDigit 1 (some .boolean) :: am_T) { frames := 1, cells := 0, slots := 0, locals := 64 } [.ref (G.1 + 1)] w rr ww := by
  refine Met.ofW (cc := cX10_readDigit) (maxL := 1) (ret := (some .boolean)) (by decide) rfl ?_
  intro p e s m args below meth c s₁ B hml hv
  obtain ⟨rfl, hx, hb, hr, hts, hown, hlocks, hK, hE, hH⟩ := am_begin B hv
  have hown : s.vm.findClass RX10 = some m.cls := hown
  show W p l e { frames := 1, cells := 0, slots := 0, locals := 64 } s m _ below meth c s.heap [] 0 0 _ _
  refine am_enter (lv := [(0, .ref (G.1 + 1))]) (Nat.le_of_ble_eq_true rfl) rfl (fun ls hl => ?_)
  unfold f_X10_readDigit at hf
  refine am_start hH (fun H locs hH => ?_)
  refine lv_aload_n hx hb dX10_readDigit_0 rfl (lv_at hl 0 rfl) ?_
  obtain ⟨r_13, w_11, hq_12, hf⟩ := am_b2_some hf
  refine am_calli (r := r_13) (w' := w_11) (am_runV (n := 0) (As := []) (rest := []) ⟨hx, hb, hml, hown, hts⟩ hK hE hH (k_X10_nextSign hq_12) (am_gV am_q536 am_q430 am_q431 am_q2 am_q432) (am_o10 (p := 1) (by decide +kernel)) rfl ⟨rfl, rfl⟩ (by decide +kernel) ⟨Nat.le_of_ble_eq_true rfl, Nat.le_of_ble_eq_true rfl⟩ rfl hl.1 rfl (Nat.le_of_ble_eq_true rfl) ⟨Nat.zero_le _, Nat.zero_le _⟩ dX10_readDigit_1) hH (fun H locs hH => ?_)
  refine lv_pop hx hb dX10_readDigit_4 rfl ?_
  refine lv_aload_n hx hb dX10_readDigit_5 rfl (lv_at hl 0 rfl) ?_
  obtain ⟨r_16, w_14, hq_15, hf⟩ := am_b2_some hf
  refine am_calli (r := r_16) (w' := w_14) (am_runV (n := 0) (As := []) (rest := []) ⟨hx, hb, hml, hown, hts⟩ hK hE hH (k_X10_isDigitHere hq_15) (am_gV am_q537 am_q539 am_qs4 am_q2 am_q540) (am_o10 (p := 1) (by decide +kernel)) rfl ⟨rfl, rfl⟩ (by decide +kernel) ⟨Nat.le_of_ble_eq_true rfl, Nat.le_of_ble_eq_true rfl⟩ rfl hl.1 rfl (Nat.le_of_ble_eq_true rfl) ⟨Nat.zero_le _, Nat.zero_le _⟩ dX10_readDigit_6) hH (fun H locs hH => ?_)
  refine lv_if_ne (tgt := 14) hx hb dX10_readDigit_9 (by decide) (fun hc_17 => ?_) (fun hc_17 => ?_)
  · have hf := (if_neg hc_17).symm.trans hf
    refine lv_aload_n hx hb dX10_readDigit_14 rfl (lv_at hl 0 rfl) ?_
    refine lv_aload_n hx hb dX10_readDigit_15 rfl (lv_at hl 0 rfl) ?_
    refine am_get hx hb hts hK hown hH (am_o10 (p := 1) (by decide +kernel)) rfl am_inX10 0 (by decide) am_q45 (v := .ref (G.1 + 2)) rfl dX10_readDigit_16 ?_
    refine lv_aload_n hx hb dX10_readDigit_19 rfl (lv_at hl 0 rfl) ?_
    refine am_get hx hb hts hK hown hH (am_o10 (p := 1) (by decide +kernel)) rfl am_inX10 2 (by decide) am_q50 (v := .int (w_14.1 1 2)) rfl dX10_readDigit_20 ?_
    obtain ⟨hi_18, hf⟩ := am_chk_some hf
    refine am_cald hx hb hK hH (am_ac_of (N := 240) (by decide +kernel)) hi_18 dX10_readDigit_23 ?_
    refine lv_bipush (v := 48) hx hb dX10_readDigit_24 (by decide) ?_
    refine lv_isub hx hb dX10_readDigit_26 ?_
    obtain ⟨w_19, hw_19, hf⟩ := am_v_some hf
    refine am_puti hx hb hts hK hown hH (am_o10 (p := 1) (by decide +kernel)) rfl am_inX10 tyX10 tyX10_ok nmX10 3 (by decide) am_q53 rfl rfl rfl (fun _ _ => Nat.le_of_ble_eq_true rfl) (fun _ _ _ => rfl) dX10_readDigit_27 (fun H locs hH => ?_)
    rw [← hw_19] at hH
    refine lv_aload_n hx hb dX10_readDigit_30 rfl (lv_at hl 0 rfl) ?_
    refine lv_dup hx hb dX10_readDigit_31 rfl ?_
    refine am_get hx hb hts hK hown hH (am_o10 (p := 1) (by decide +kernel)) rfl am_inX10 2 (by decide) am_q50 (v := .int (w_19.1 1 2)) rfl dX10_readDigit_32 ?_
    refine lv_iconst (v := 1) hx hb dX10_readDigit_35 (by decide) ?_
    refine lv_iadd hx hb dX10_readDigit_36 ?_
    obtain ⟨w_20, hw_20, hf⟩ := am_v_some hf
    refine am_puti hx hb hts hK hown hH (am_o10 (p := 1) (by decide +kernel)) rfl am_inX10 tyX10 tyX10_ok nmX10 2 (by decide) am_q50 rfl rfl rfl (fun _ _ => Nat.le_of_ble_eq_true rfl) (fun _ _ _ => rfl) dX10_readDigit_37 (fun H locs hH => ?_)
    rw [← hw_20] at hH
    refine lv_iconst (v := 1) hx hb dX10_readDigit_40 (by decide) ?_
    exact am_retz hx hb hr rfl hlocks hH hf dX10_readDigit_41
  · have hf := (if_pos hc_17).symm.trans hf
    refine lv_iconst (v := 0) hx hb dX10_readDigit_12 (by decide) ?_
    exact am_retz hx hb hr rfl hlocks hH hf dX10_readDigit_13

def f_X8_readStep_65 (o0 : Nat) (x3 : Int32) (w : am_S) : Option (Int32 × am_S) :=
  am_chk (w.1 o0 2) 16 (am_v (am_pi w (o0 + 1) (w.1 o0 2).toNatClampNeg x3) fun (w_26 : am_S) => am_chk (w_26.1 o0 2) 16 (am_v (am_pi w_26 (o0 + 2) (w_26.1 o0 2).toNatClampNeg (w_26.1 1 3)) fun (w_28 : am_S) => am_v (am_pi w_28 o0 2 ((w_28.1 o0 2) + (1 : Int32))) fun (w_29 : am_S) => some ((1 : Int32), w_29)))
def f_X8_readStep (o0 : Nat) (w : am_S) : Option (Int32 × am_S) :=
  am_b2 (f_X10_nextSign w) fun r_32 w_30 => am_b2 (f_J0_indexOf_0f7a4_t3 r_32 w_30) fun r_35 w_33 => if 0 ≤ r_35 then (am_v (am_pi w_33 1 2 ((w_33.1 1 2) + (1 : Int32))) fun (w_37 : am_S) => am_v (am_pi w_37 1 3 (-1 : Int32)) fun (w_38 : am_S) => if r_35 = (5 : Int32) then (am_b2 (f_X10_readNumber (0 : Int32) (9999 : Int32) w_38) fun r_47 w_45 => if r_47 = 0 then (some ((0 : Int32), w_45)) else (f_X8_readStep_65 o0 r_35 w_45)) else (if r_35 < (2 : Int32) then (f_X8_readStep_65 o0 r_35 w_38) else (am_b2 (f_X10_readDigit w_38) fun r_43 w_41 => if r_43 = 0 then (some ((0 : Int32), w_41)) else (f_X8_readStep_65 o0 r_35 w_41)))) else (some ((0 : Int32), w_33))
set_option maxRecDepth 100000 in
set_option maxHeartbeats 4000000 in
theorem k_X8_readStep {G : am_G} {l : Launch} {o0 : Nat} (ho0 : am_f8 o0) {w : am_S} {rr : Int32} {ww : am_S} (hf : f_X8_readStep o0 w = some (rr, ww)) : am_Mi G l yX8_readStep (Cond.code yX8_readStep cX8_readStep 4 (some .boolean) :: am_T) { frames := 4, cells := 0, slots := 0, locals := 256 } [.ref (G.1 + o0), .ref (G.1 + 1)] w rr ww := by
  refine Met.ofW (cc := cX8_readStep) (maxL := 4) (ret := (some .boolean)) (by decide) rfl ?_
  intro p e s m args below meth c s₁ B hml hv
  obtain ⟨rfl, hx, hb, hr, hts, hown, hlocks, hK, hE, hH⟩ := am_begin B hv
  have hown : s.vm.findClass RX8 = some m.cls := hown
  show W p l e { frames := 4, cells := 0, slots := 0, locals := 256 } s m _ below meth c s.heap [] 0 0 _ _
  have P65 : ∀ (x3 : Int32) (w : am_S) (H : Heap) (locs : List Loc) (ls : Array Slot), f_X8_readStep_65 o0 x3 w = some (rr, ww) → am_H G w s H locs → lv_has ls 4 [(0, .ref (G.1 + o0)), (1, .ref (G.1 + 1)), (3, .int x3)] → W p l e { frames := 4, cells := 0, slots := 0, locals := 256 } s m [.ref (G.1 + o0), .ref (G.1 + 1)].toArray below meth c H locs 0 0 (MQ below (va_Qi (fun (x : Int32) (u : am_S) => x = rr ∧ u = ww) (am_U G) (am_A G)) [.ref (G.1 + o0), .ref (G.1 + 1)].toArray s 0 0 (am_A G)) (F0 m 65 ls []) := by
    intro x3 w H locs ls hf hH hl
    unfold f_X8_readStep_65 at hf
    refine lv_aload_n hx hb dX8_readStep_65 rfl (lv_at hl 0 rfl) ?_
    refine am_get hx hb hts hK hown hH (am_o8 ho0.1) rfl am_inX8 0 (by decide) am_q153 (v := .ref (G.1 + (o0 + 1))) rfl dX8_readStep_66 ?_
    refine lv_aload_n hx hb dX8_readStep_69 rfl (lv_at hl 0 rfl) ?_
    refine am_get hx hb hts hK hown hH (am_o8 ho0.1) rfl am_inX8 2 (by decide) am_q157 (v := .int (w.1 o0 2)) rfl dX8_readStep_70 ?_
    refine lv_iload_n hx hb dX8_readStep_73 rfl (lv_at hl 2 rfl) ?_
    obtain ⟨hi_25, hf⟩ := am_chk_some hf
    obtain ⟨w_26, hw_26, hf⟩ := am_v_some hf
    refine am_iast hx hb hK hH (am_ai_of (N := 16) ho0.2.1) hi_25 dX8_readStep_74 (fun H locs hH => ?_)
    rw [← hw_26] at hH
    refine lv_aload_n hx hb dX8_readStep_75 rfl (lv_at hl 0 rfl) ?_
    refine am_get hx hb hts hK hown hH (am_o8 ho0.1) rfl am_inX8 1 (by decide) am_q155 (v := .ref (G.1 + (o0 + 2))) rfl dX8_readStep_76 ?_
    refine lv_aload_n hx hb dX8_readStep_79 rfl (lv_at hl 0 rfl) ?_
    refine am_get hx hb hts hK hown hH (am_o8 ho0.1) rfl am_inX8 2 (by decide) am_q157 (v := .int (w_26.1 o0 2)) rfl dX8_readStep_80 ?_
    refine lv_aload_n hx hb dX8_readStep_83 rfl (lv_at hl 1 rfl) ?_
    refine am_get hx hb hts hK hown hH (am_o10 (p := 1) (by decide +kernel)) rfl am_inX10 3 (by decide) am_q52 (v := .int (w_26.1 1 3)) rfl dX8_readStep_84 ?_
    obtain ⟨hi_27, hf⟩ := am_chk_some hf
    obtain ⟨w_28, hw_28, hf⟩ := am_v_some hf
    refine am_iast hx hb hK hH (am_ai_of (N := 16) ho0.2.2) hi_27 dX8_readStep_87 (fun H locs hH => ?_)
    rw [← hw_28] at hH
    refine lv_aload_n hx hb dX8_readStep_88 rfl (lv_at hl 0 rfl) ?_
    refine lv_dup hx hb dX8_readStep_89 rfl ?_
    refine am_get hx hb hts hK hown hH (am_o8 ho0.1) rfl am_inX8 2 (by decide) am_q157 (v := .int (w_28.1 o0 2)) rfl dX8_readStep_90 ?_
    refine lv_iconst (v := 1) hx hb dX8_readStep_93 (by decide) ?_
    refine lv_iadd hx hb dX8_readStep_94 ?_
    obtain ⟨w_29, hw_29, hf⟩ := am_v_some hf
    refine am_puti hx hb hts hK hown hH (am_o8 ho0.1) rfl am_inX8 tyX8 tyX8_ok nmX8 2 (by decide) am_q157 rfl rfl rfl (fun _ _ => Nat.le_of_ble_eq_true rfl) (fun _ _ _ => rfl) dX8_readStep_95 (fun H locs hH => ?_)
    rw [← hw_29] at hH
    refine lv_iconst (v := 1) hx hb dX8_readStep_98 (by decide) ?_
    exact am_retz hx hb hr rfl hlocks hH hf dX8_readStep_99
  refine am_enter (lv := [(0, .ref (G.1 + o0)), (1, .ref (G.1 + 1))]) (Nat.le_of_ble_eq_true rfl) rfl (fun ls hl => ?_)
  unfold f_X8_readStep at hf
  refine am_start hH (fun H locs hH => ?_)
  refine lv_aload_n hx hb dX8_readStep_0 rfl (lv_at hl 1 rfl) ?_
  obtain ⟨r_32, w_30, hq_31, hf⟩ := am_b2_some hf
  refine am_calli (r := r_32) (w' := w_30) (am_runV (n := 0) (As := []) (rest := []) ⟨hx, hb, hml, hown, hts⟩ hK hE hH (k_X10_nextSign hq_31) (am_gV am_q575 am_q430 am_q431 am_q2 am_q432) (am_o10 (p := 1) (by decide +kernel)) rfl ⟨rfl, rfl⟩ (by decide +kernel) ⟨Nat.le_of_ble_eq_true rfl, Nat.le_of_ble_eq_true rfl⟩ rfl hl.1 rfl (Nat.le_of_ble_eq_true rfl) ⟨Nat.zero_le _, Nat.zero_le _⟩ dX8_readStep_1) hH (fun H locs hH => ?_)
  refine lv_istore_n (lv' := [(2, .int r_32), (0, .ref (G.1 + o0)), (1, .ref (G.1 + 1))]) hx hb dX8_readStep_4 rfl hl (by decide) rfl (fun ls hl => ?_)
  refine va_ldcS hx hb hown (hE.2.2.1 3 _ rfl) dX8_readStep_5 ?_
  refine lv_iload_n hx hb dX8_readStep_7 rfl (lv_at hl 0 rfl) ?_
  obtain ⟨r_35, w_33, hq_34, hf⟩ := am_b2_some hf
  refine am_calli (r := r_35) (w' := w_33) (am_runVT (n := 1) (As := [.int r_32]) (rest := []) 3 (by decide) ⟨hx, hb, hml, hown, hts⟩ hK hE hH (k_J0_indexOf_0f7a4_t3 hq_34) (am_gV am_q577 am_q456 am_q457 am_q16 am_q458) ⟨rfl, rfl⟩ (by decide +kernel) ⟨Nat.le_of_ble_eq_true rfl, Nat.le_of_ble_eq_true rfl⟩ rfl hl.1 rfl (Nat.le_of_ble_eq_true rfl) ⟨Nat.zero_le _, Nat.zero_le _⟩ dX8_readStep_8) hH (fun H locs hH => ?_)
  refine lv_istore_n (lv' := [(3, .int r_35), (2, .int r_32), (0, .ref (G.1 + o0)), (1, .ref (G.1 + 1))]) hx hb dX8_readStep_11 rfl hl (by decide) rfl (fun ls hl => ?_)
  refine lv_iload_n hx hb dX8_readStep_12 rfl (lv_at hl 0 rfl) ?_
  refine lv_if_ge (tgt := 18) hx hb dX8_readStep_13 (by decide) (fun hc_36 => ?_) (fun hc_36 => ?_)
  · have hf := (if_pos hc_36).symm.trans hf
    refine lv_aload_n hx hb dX8_readStep_18 rfl (lv_at hl 3 rfl) ?_
    refine lv_dup hx hb dX8_readStep_19 rfl ?_
    refine am_get hx hb hts hK hown hH (am_o10 (p := 1) (by decide +kernel)) rfl am_inX10 2 (by decide) am_q49 (v := .int (w_33.1 1 2)) rfl dX8_readStep_20 ?_
    refine lv_iconst (v := 1) hx hb dX8_readStep_23 (by decide) ?_
    refine lv_iadd hx hb dX8_readStep_24 ?_
    obtain ⟨w_37, hw_37, hf⟩ := am_v_some hf
    refine am_puti hx hb hts hK hown hH (am_o10 (p := 1) (by decide +kernel)) rfl am_inX10 tyX10 tyX10_ok nmX10 2 (by decide) am_q49 rfl rfl rfl (fun _ _ => Nat.le_of_ble_eq_true rfl) (fun _ _ _ => rfl) dX8_readStep_25 (fun H locs hH => ?_)
    rw [← hw_37] at hH
    refine lv_aload_n hx hb dX8_readStep_28 rfl (lv_at hl 3 rfl) ?_
    refine lv_iconst (v := -1) hx hb dX8_readStep_29 (by decide) ?_
    obtain ⟨w_38, hw_38, hf⟩ := am_v_some hf
    refine am_puti hx hb hts hK hown hH (am_o10 (p := 1) (by decide +kernel)) rfl am_inX10 tyX10 tyX10_ok nmX10 3 (by decide) am_q52 rfl rfl rfl (fun _ _ => Nat.le_of_ble_eq_true rfl) (fun _ _ _ => rfl) dX8_readStep_30 (fun H locs hH => ?_)
    rw [← hw_38] at hH
    refine lv_iload_n hx hb dX8_readStep_33 rfl (lv_at hl 0 rfl) ?_
    refine lv_iconst (v := 5) hx hb dX8_readStep_34 (by decide) ?_
    refine lv_icmp_ne (tgt := 51) hx hb dX8_readStep_35 (by decide) (fun hc_39 => ?_) (fun hc_39 => ?_)
    · have hf := (if_neg hc_39).symm.trans hf
      refine lv_iload_n hx hb dX8_readStep_51 rfl (lv_at hl 0 rfl) ?_
      refine lv_iconst (v := 2) hx hb dX8_readStep_52 (by decide) ?_
      refine lv_icmp_lt (tgt := 65) hx hb dX8_readStep_53 (by decide) (fun hc_40 => ?_) (fun hc_40 => ?_)
      · have hf := (if_pos hc_40).symm.trans hf
        exact P65 r_35 w_38 H locs ls hf hH (lv_sub hl [2, 3, 0] rfl)
      · have hf := (if_neg hc_40).symm.trans hf
        refine lv_aload_n hx hb dX8_readStep_56 rfl (lv_at hl 3 rfl) ?_
        obtain ⟨r_43, w_41, hq_42, hf⟩ := am_b2_some hf
        refine am_calli (r := r_43) (w' := w_41) (am_runV (n := 0) (As := []) (rest := []) ⟨hx, hb, hml, hown, hts⟩ hK hE hH (k_X10_readDigit hq_42) (am_gV am_q579 am_q580 am_q581 am_q2 am_q582) (am_o10 (p := 1) (by decide +kernel)) rfl ⟨rfl, rfl⟩ (by decide +kernel) ⟨Nat.le_of_ble_eq_true rfl, Nat.le_of_ble_eq_true rfl⟩ rfl hl.1 rfl (Nat.le_of_ble_eq_true rfl) ⟨Nat.zero_le _, Nat.zero_le _⟩ dX8_readStep_57) hH (fun H locs hH => ?_)
        refine lv_if_ne (tgt := 65) hx hb dX8_readStep_60 (by decide) (fun hc_44 => ?_) (fun hc_44 => ?_)
        · have hf := (if_neg hc_44).symm.trans hf
          exact P65 r_35 w_41 H locs ls hf hH (lv_sub hl [2, 3, 0] rfl)
        · have hf := (if_pos hc_44).symm.trans hf
          refine lv_iconst (v := 0) hx hb dX8_readStep_63 (by decide) ?_
          exact am_retz hx hb hr rfl hlocks hH hf dX8_readStep_64
    · have hf := (if_pos hc_39).symm.trans hf
      refine lv_aload_n hx hb dX8_readStep_38 rfl (lv_at hl 3 rfl) ?_
      refine lv_iconst (v := 0) hx hb dX8_readStep_39 (by decide) ?_
      refine lv_sipush (v := 9999) hx hb dX8_readStep_40 (by decide) ?_
      obtain ⟨r_47, w_45, hq_46, hf⟩ := am_b2_some hf
      refine am_calli (r := r_47) (w' := w_45) (am_runV (n := 2) (As := [.int (0 : Int32), .int (9999 : Int32)]) (rest := []) ⟨hx, hb, hml, hown, hts⟩ hK hE hH (k_X10_readNumber hq_46) (am_gV am_q578 am_q533 am_q534 am_q2 am_q535) (am_o10 (p := 1) (by decide +kernel)) rfl ⟨rfl, rfl⟩ (by decide +kernel) ⟨Nat.le_of_ble_eq_true rfl, Nat.le_of_ble_eq_true rfl⟩ rfl hl.1 rfl (Nat.le_of_ble_eq_true rfl) ⟨Nat.zero_le _, Nat.zero_le _⟩ dX8_readStep_43) hH (fun H locs hH => ?_)
      refine lv_if_ne (tgt := 65) hx hb dX8_readStep_46 (by decide) (fun hc_48 => ?_) (fun hc_48 => ?_)
      · have hf := (if_neg hc_48).symm.trans hf
        exact P65 r_35 w_45 H locs ls hf hH (lv_sub hl [2, 3, 0] rfl)
      · have hf := (if_pos hc_48).symm.trans hf
        refine lv_iconst (v := 0) hx hb dX8_readStep_49 (by decide) ?_
        exact am_retz hx hb hr rfl hlocks hH hf dX8_readStep_50
  · have hf := (if_neg hc_36).symm.trans hf
    refine lv_iconst (v := 0) hx hb dX8_readStep_16 (by decide) ?_
    exact am_retz hx hb hr rfl hlocks hH hf dX8_readStep_17

def f_X8_readFrom_57 (o0 : Nat) (w : am_S) : Option (Int32 × am_S) :=
  some (w.1 1 2, w)
def f_X8_readFrom_12b (o0 : Nat) (x2 : Int32) (w : am_S) : Option ((Int32 × am_S) ⊕ (Int32 × am_S)) :=
  if (16 : Int32) ≤ x2 then (am_x (some (w.1 1 2, w))) else (am_b2 (f_X8_readStep o0 w) fun r_20 w_18 => if r_20 = 0 then (am_x (some (w_18.1 1 2, w_18))) else (am_b2 (f_X10_nextSign w_18) fun r_24 w_22 => if r_24 = 0 then (am_x (some ((-1 : Int32), w_22))) else (if r_24 = (59 : Int32) then (if (w_22.1 o0 2) = (16 : Int32) then (am_x (f_X8_readFrom_57 o0 w_22)) else (am_v (am_pi w_22 1 2 ((w_22.1 1 2) + (1 : Int32))) fun (w_29 : am_S) => am_v (x2 + (1 : Int32)) fun (x2_30 : Int32) => some (.inr (x2_30, w_29)))) else (am_x (f_X8_readFrom_57 o0 w_22)))))
def f_X8_readFrom_12 (o0 : Nat) (x2 : Int32) (w : am_S) : Option (Int32 × am_S) :=
  am_loop (fun (st : (Int32 × am_S)) => f_X8_readFrom_12b o0 st.1 st.2) am_fuel (x2, w)
def f_X8_readFrom (o0 : Nat) (w : am_S) : Option (Int32 × am_S) :=
  am_v (am_pi w o0 2 (0 : Int32)) fun (w_34 : am_S) => am_v (am_pi w_34 1 2 (0 : Int32)) fun (w_35 : am_S) => f_X8_readFrom_12 o0 (0 : Int32) w_35
set_option maxRecDepth 100000 in
set_option maxHeartbeats 4000000 in
theorem k_X8_readFrom {G : am_G} {l : Launch} {o0 : Nat} (ho0 : am_f8 o0) {w : am_S} {rr : Int32} {ww : am_S} (hf : f_X8_readFrom o0 w = some (rr, ww)) : am_Mi G l yX8_readFrom (Cond.code yX8_readFrom cX8_readFrom 4 (some .int) :: am_T) { frames := 5, cells := 0, slots := 0, locals := 320 } [.ref (G.1 + o0), .ref (G.1 + 1)] w rr ww := by
  refine Met.ofW (cc := cX8_readFrom) (maxL := 4) (ret := (some .int)) (by decide) rfl ?_
  intro p e s m args below meth c s₁ B hml hv
  obtain ⟨rfl, hx, hb, hr, hts, hown, hlocks, hK, hE, hH⟩ := am_begin B hv
  have hown : s.vm.findClass RX8 = some m.cls := hown
  show W p l e { frames := 5, cells := 0, slots := 0, locals := 320 } s m _ below meth c s.heap [] 0 0 _ _
  have P57 : ∀ (w : am_S) (H : Heap) (locs : List Loc) (ls : Array Slot), f_X8_readFrom_57 o0 w = some (rr, ww) → am_H G w s H locs → lv_has ls 4 [(1, .ref (G.1 + 1))] → W p l e { frames := 5, cells := 0, slots := 0, locals := 320 } s m [.ref (G.1 + o0), .ref (G.1 + 1)].toArray below meth c H locs 0 0 (MQ below (va_Qi (fun (x : Int32) (u : am_S) => x = rr ∧ u = ww) (am_U G) (am_A G)) [.ref (G.1 + o0), .ref (G.1 + 1)].toArray s 0 0 (am_A G)) (F0 m 57 ls []) := by
    intro w H locs ls hf hH hl
    unfold f_X8_readFrom_57 at hf
    refine lv_aload_n hx hb dX8_readFrom_57 rfl (lv_at hl 0 rfl) ?_
    refine am_get hx hb hts hK hown hH (am_o10 (p := 1) (by decide +kernel)) rfl am_inX10 2 (by decide) am_q49 (v := .int (w.1 1 2)) rfl dX8_readFrom_58 ?_
    exact am_reti hx hb hr hlocks hH hf dX8_readFrom_61
  have P12 : ∀ (n1 : Nat) (x2 : Int32) (w : am_S) (H : Heap) (locs : List Loc) (ls : Array Slot), am_loop (fun (st : (Int32 × am_S)) => f_X8_readFrom_12b o0 st.1 st.2) n1 (x2, w) = some (rr, ww) → am_H G w s H locs → lv_has ls 4 [(0, .ref (G.1 + o0)), (1, .ref (G.1 + 1)), (2, .int x2)] → W p l e { frames := 5, cells := 0, slots := 0, locals := 320 } s m [.ref (G.1 + o0), .ref (G.1 + 1)].toArray below meth c H locs 0 0 (MQ below (va_Qi (fun (x : Int32) (u : am_S) => x = rr ∧ u = ww) (am_U G) (am_A G)) [.ref (G.1 + o0), .ref (G.1 + 1)].toArray s 0 0 (am_A G)) (F0 m 12 ls []) := by
    intro n1
    induction n1 with
    | zero =>
      intro x2 w H locs ls hf hH hl
      exact (am_loop_zero hf).elim
    | succ n1 ih1 =>
      intro x2 w H locs ls hf hH hl
      obtain ⟨z1, hf, hk1⟩ := am_loop_succ hf
      have hf : f_X8_readFrom_12b o0 x2 w = some z1 := hf
      unfold f_X8_readFrom_12b at hf
      refine lv_iload_n hx hb dX8_readFrom_12 rfl (lv_at hl 2 rfl) ?_
      refine lv_bipush (v := 16) hx hb dX8_readFrom_13 (by decide) ?_
      refine lv_icmp_ge (tgt := 78) hx hb dX8_readFrom_15 (by decide) (fun hc_16 => ?_) (fun hc_16 => ?_)
      · have hf := (if_pos hc_16).symm.trans hf
        obtain ⟨y_17, hf, hzy_17⟩ := am_x_some hf
        rw [hzy_17] at hk1
        have hf := hf.trans (congrArg some (show y_17 = (rr, ww) from hk1))
        refine lv_aload_n hx hb dX8_readFrom_78 rfl (lv_at hl 1 rfl) ?_
        refine am_get hx hb hts hK hown hH (am_o10 (p := 1) (by decide +kernel)) rfl am_inX10 2 (by decide) am_q49 (v := .int (w.1 1 2)) rfl dX8_readFrom_79 ?_
        exact am_reti hx hb hr hlocks hH hf dX8_readFrom_82
      · have hf := (if_neg hc_16).symm.trans hf
        refine lv_aload_n hx hb dX8_readFrom_18 rfl (lv_at hl 0 rfl) ?_
        refine lv_aload_n hx hb dX8_readFrom_19 rfl (lv_at hl 1 rfl) ?_
        obtain ⟨r_20, w_18, hq_19, hf⟩ := am_b2_some hf
        refine am_calli (r := r_20) (w' := w_18) (am_runV (n := 1) (As := [.ref (G.1 + 1)]) (rest := []) ⟨hx, hb, hml, hown, hts⟩ hK hE hH (k_X8_readStep ho0 hq_19) (am_gV am_q571 am_q573 am_qs8 am_q4 am_q574) (am_o8 ho0.1) rfl ⟨rfl, rfl⟩ (by decide +kernel) ⟨Nat.le_of_ble_eq_true rfl, Nat.le_of_ble_eq_true rfl⟩ rfl hl.1 rfl (Nat.le_of_ble_eq_true rfl) ⟨Nat.zero_le _, Nat.zero_le _⟩ dX8_readFrom_20) hH (fun H locs hH => ?_)
        refine lv_if_ne (tgt := 31) hx hb dX8_readFrom_23 (by decide) (fun hc_21 => ?_) (fun hc_21 => ?_)
        · have hf := (if_neg hc_21).symm.trans hf
          refine lv_aload_n hx hb dX8_readFrom_31 rfl (lv_at hl 1 rfl) ?_
          obtain ⟨r_24, w_22, hq_23, hf⟩ := am_b2_some hf
          refine am_calli (r := r_24) (w' := w_22) (am_runV (n := 0) (As := []) (rest := []) ⟨hx, hb, hml, hown, hts⟩ hK hE hH (k_X10_nextSign hq_23) (am_gV am_q575 am_q430 am_q431 am_q2 am_q432) (am_o10 (p := 1) (by decide +kernel)) rfl ⟨rfl, rfl⟩ (by decide +kernel) ⟨Nat.le_of_ble_eq_true rfl, Nat.le_of_ble_eq_true rfl⟩ rfl hl.1 rfl (Nat.le_of_ble_eq_true rfl) ⟨Nat.zero_le _, Nat.zero_le _⟩ dX8_readFrom_32) hH (fun H locs hH => ?_)
          refine lv_istore_n (lv' := [(3, .int r_24), (0, .ref (G.1 + o0)), (1, .ref (G.1 + 1)), (2, .int x2)]) hx hb dX8_readFrom_35 rfl hl (by decide) rfl (fun ls hl => ?_)
          refine lv_iload_n hx hb dX8_readFrom_36 rfl (lv_at hl 0 rfl) ?_
          refine lv_if_ne (tgt := 42) hx hb dX8_readFrom_37 (by decide) (fun hc_25 => ?_) (fun hc_25 => ?_)
          · have hf := (if_neg hc_25).symm.trans hf
            refine lv_iload_n hx hb dX8_readFrom_42 rfl (lv_at hl 0 rfl) ?_
            refine lv_bipush (v := 59) hx hb dX8_readFrom_43 (by decide) ?_
            refine lv_icmp_ne (tgt := 57) hx hb dX8_readFrom_45 (by decide) (fun hc_26 => ?_) (fun hc_26 => ?_)
            · have hf := (if_neg hc_26).symm.trans hf
              obtain ⟨y_27, hf, hzy_27⟩ := am_x_some hf
              rw [hzy_27] at hk1
              have hf := hf.trans (congrArg some (show y_27 = (rr, ww) from hk1))
              exact P57 w_22 H locs ls hf hH (lv_sub hl [2] rfl)
            · have hf := (if_pos hc_26).symm.trans hf
              refine lv_aload_n hx hb dX8_readFrom_48 rfl (lv_at hl 1 rfl) ?_
              refine am_get hx hb hts hK hown hH (am_o8 ho0.1) rfl am_inX8 2 (by decide) am_q157 (v := .int (w_22.1 o0 2)) rfl dX8_readFrom_49 ?_
              refine lv_bipush (v := 16) hx hb dX8_readFrom_52 (by decide) ?_
              refine lv_icmp_ne (tgt := 62) hx hb dX8_readFrom_54 (by decide) (fun hc_28 => ?_) (fun hc_28 => ?_)
              · have hf := (if_neg hc_28).symm.trans hf
                refine lv_aload_n hx hb dX8_readFrom_62 rfl (lv_at hl 2 rfl) ?_
                refine lv_dup hx hb dX8_readFrom_63 rfl ?_
                refine am_get hx hb hts hK hown hH (am_o10 (p := 1) (by decide +kernel)) rfl am_inX10 2 (by decide) am_q49 (v := .int (w_22.1 1 2)) rfl dX8_readFrom_64 ?_
                refine lv_iconst (v := 1) hx hb dX8_readFrom_67 (by decide) ?_
                refine lv_iadd hx hb dX8_readFrom_68 ?_
                obtain ⟨w_29, hw_29, hf⟩ := am_v_some hf
                refine am_puti hx hb hts hK hown hH (am_o10 (p := 1) (by decide +kernel)) rfl am_inX10 tyX10 tyX10_ok nmX10 2 (by decide) am_q49 rfl rfl rfl (fun _ _ => Nat.le_of_ble_eq_true rfl) (fun _ _ _ => rfl) dX8_readFrom_69 (fun H locs hH => ?_)
                rw [← hw_29] at hH
                obtain ⟨x2_30, hx2_30, hf⟩ := am_v_some hf
                refine lv_iinc (v := x2_30) (lv' := [(2, .int x2_30), (3, .int r_24), (0, .ref (G.1 + o0)), (1, .ref (G.1 + 1))]) hx hb dX8_readFrom_72 hl (k := 3) rfl (by rw [hx2_30]; rfl) (by decide) rfl (fun ls hl => ?_)
                refine lv_goto (tgt := 12) hx hb dX8_readFrom_75 (by decide) ?_
                obtain rfl := Option.some.inj hf
                exact ih1 x2_30 w_29 H locs ls hk1 hH (lv_sub hl [2, 3, 0] rfl)
              · have hf := (if_pos hc_28).symm.trans hf
                obtain ⟨y_31, hf, hzy_31⟩ := am_x_some hf
                rw [hzy_31] at hk1
                have hf := hf.trans (congrArg some (show y_31 = (rr, ww) from hk1))
                exact P57 w_22 H locs ls hf hH (lv_sub hl [2] rfl)
          · have hf := (if_pos hc_25).symm.trans hf
            obtain ⟨y_32, hf, hzy_32⟩ := am_x_some hf
            rw [hzy_32] at hk1
            have hf := hf.trans (congrArg some (show y_32 = (rr, ww) from hk1))
            refine lv_iconst (v := -1) hx hb dX8_readFrom_40 (by decide) ?_
            exact am_reti hx hb hr hlocks hH hf dX8_readFrom_41
        · have hf := (if_pos hc_21).symm.trans hf
          obtain ⟨y_33, hf, hzy_33⟩ := am_x_some hf
          rw [hzy_33] at hk1
          have hf := hf.trans (congrArg some (show y_33 = (rr, ww) from hk1))
          refine lv_aload_n hx hb dX8_readFrom_26 rfl (lv_at hl 1 rfl) ?_
          refine am_get hx hb hts hK hown hH (am_o10 (p := 1) (by decide +kernel)) rfl am_inX10 2 (by decide) am_q49 (v := .int (w_18.1 1 2)) rfl dX8_readFrom_27 ?_
          exact am_reti hx hb hr hlocks hH hf dX8_readFrom_30
  refine am_enter (lv := [(0, .ref (G.1 + o0)), (1, .ref (G.1 + 1))]) (Nat.le_of_ble_eq_true rfl) rfl (fun ls hl => ?_)
  unfold f_X8_readFrom at hf
  refine am_start hH (fun H locs hH => ?_)
  refine lv_aload_n hx hb dX8_readFrom_0 rfl (lv_at hl 0 rfl) ?_
  refine lv_iconst (v := 0) hx hb dX8_readFrom_1 (by decide) ?_
  obtain ⟨w_34, hw_34, hf⟩ := am_v_some hf
  refine am_puti hx hb hts hK hown hH (am_o8 ho0.1) rfl am_inX8 tyX8 tyX8_ok nmX8 2 (by decide) am_q157 rfl rfl rfl (fun _ _ => Nat.le_of_ble_eq_true rfl) (fun _ _ _ => rfl) dX8_readFrom_2 (fun H locs hH => ?_)
  rw [← hw_34] at hH
  refine lv_aload_n hx hb dX8_readFrom_5 rfl (lv_at hl 1 rfl) ?_
  refine lv_iconst (v := 0) hx hb dX8_readFrom_6 (by decide) ?_
  obtain ⟨w_35, hw_35, hf⟩ := am_v_some hf
  refine am_puti hx hb hts hK hown hH (am_o10 (p := 1) (by decide +kernel)) rfl am_inX10 tyX10 tyX10_ok nmX10 2 (by decide) am_q49 rfl rfl rfl (fun _ _ => Nat.le_of_ble_eq_true rfl) (fun _ _ _ => rfl) dX8_readFrom_7 (fun H locs hH => ?_)
  rw [← hw_35] at hH
  refine lv_iconst (v := 0) hx hb dX8_readFrom_10 (by decide) ?_
  refine lv_istore_n (lv' := [(2, .int (0 : Int32)), (0, .ref (G.1 + o0)), (1, .ref (G.1 + 1))]) hx hb dX8_readFrom_11 rfl hl (by decide) rfl (fun ls hl => ?_)
  exact P12 am_fuel (0 : Int32) w_35 H locs ls hf hH (lv_sub hl [1, 2, 0] rfl)

def f_X11_fault_37 (a1 : Int32) (s0 : Int32) (w : am_S) : Option (Int32 × am_S) :=
  some (s0, w)
def f_X11_fault (a1 : Int32) (w : am_S) : Option (Int32 × am_S) :=
  if a1 = 0 then (am_b2 (f_X1_readFrom 3 w) fun r_16 w_14 => some (r_16, w_14)) else (if a1 = (1 : Int32) then (am_b2 (f_X8_readFrom 19 w) fun r_13 w_11 => f_X11_fault_37 a1 r_13 w_11) else (f_X11_fault_37 a1 (-2 : Int32) w))
set_option maxRecDepth 100000 in
set_option maxHeartbeats 4000000 in
theorem k_X11_fault {G : am_G} {l : Launch} {a1 : Int32}  {w : am_S} {rr : Int32} {ww : am_S} (hf : f_X11_fault a1 w = some (rr, ww)) : am_Mi G l yX11_fault (Cond.code yX11_fault cX11_fault 2 (some .int) :: am_T) { frames := 7, cells := 0, slots := 0, locals := 448 } [.ref (G.1 + 0), .int a1] w rr ww := by
  refine Met.ofW (cc := cX11_fault) (maxL := 2) (ret := (some .int)) (by decide) rfl ?_
  intro p e s m args below meth c s₁ B hml hv
  obtain ⟨rfl, hx, hb, hr, hts, hown, hlocks, hK, hE, hH⟩ := am_begin B hv
  have hown : s.vm.findClass RX11 = some m.cls := hown
  show W p l e { frames := 7, cells := 0, slots := 0, locals := 448 } s m _ below meth c s.heap [] 0 0 _ _
  have P37 : ∀ (s0 : Int32) (w : am_S) (H : Heap) (locs : List Loc) (ls : Array Slot), f_X11_fault_37 a1 s0 w = some (rr, ww) → am_H G w s H locs → lv_has ls 2 [] → W p l e { frames := 7, cells := 0, slots := 0, locals := 448 } s m [.ref (G.1 + 0), .int a1].toArray below meth c H locs 0 0 (MQ below (va_Qi (fun (x : Int32) (u : am_S) => x = rr ∧ u = ww) (am_U G) (am_A G)) [.ref (G.1 + 0), .int a1].toArray s 0 0 (am_A G)) (F0 m 37 ls [.int s0]) := by
    intro s0 w H locs ls hf hH hl
    unfold f_X11_fault_37 at hf
    exact am_reti hx hb hr hlocks hH hf dX11_fault_37
  refine am_enter (lv := [(0, .ref (G.1 + 0)), (1, .int a1)]) (Nat.le_of_ble_eq_true rfl) rfl (fun ls hl => ?_)
  unfold f_X11_fault at hf
  refine am_start hH (fun H locs hH => ?_)
  refine lv_iload_n hx hb dX11_fault_0 rfl (lv_at hl 1 rfl) ?_
  refine lv_if_ne (tgt := 16) hx hb dX11_fault_1 (by decide) (fun hc_9 => ?_) (fun hc_9 => ?_)
  · have hf := (if_neg hc_9).symm.trans hf
    refine lv_iload_n hx hb dX11_fault_16 rfl (lv_at hl 1 rfl) ?_
    refine lv_iconst (v := 1) hx hb dX11_fault_17 (by decide) ?_
    refine lv_icmp_ne (tgt := 35) hx hb dX11_fault_18 (by decide) (fun hc_10 => ?_) (fun hc_10 => ?_)
    · have hf := (if_neg hc_10).symm.trans hf
      refine lv_bipush (v := -2) hx hb dX11_fault_35 (by decide) ?_
      exact P37 (-2 : Int32) w H locs ls hf hH (lv_sub hl [] rfl)
    · have hf := (if_pos hc_10).symm.trans hf
      refine lv_aload_n hx hb dX11_fault_21 rfl (lv_at hl 0 rfl) ?_
      refine am_get hx hb hts hK hown hH (am_o11 (p := 0) (by decide +kernel)) rfl am_inX11 3 (by decide) am_q334 (v := .ref (G.1 + 19)) rfl dX11_fault_22 ?_
      refine lv_aload_n hx hb dX11_fault_25 rfl (lv_at hl 0 rfl) ?_
      refine am_get hx hb hts hK hown hH (am_o11 (p := 0) (by decide +kernel)) rfl am_inX11 0 (by decide) am_q331 (v := .ref (G.1 + 1)) rfl dX11_fault_26 ?_
      obtain ⟨r_13, w_11, hq_12, hf⟩ := am_b2_some hf
      refine am_calli (r := r_13) (w' := w_11) (am_runV (n := 1) (As := [.ref (G.1 + 1)]) (rest := []) ⟨hx, hb, hml, hown, hts⟩ hK hE hH (k_X8_readFrom (by decide +kernel) hq_12) (am_gV am_q567 am_q568 am_q569 am_q4 am_q570) (am_o8 (p := 19) (by decide +kernel)) rfl ⟨rfl, rfl⟩ (by decide +kernel) ⟨Nat.le_of_ble_eq_true rfl, Nat.le_of_ble_eq_true rfl⟩ rfl hl.1 rfl (Nat.le_of_ble_eq_true rfl) ⟨Nat.zero_le _, Nat.zero_le _⟩ dX11_fault_29) hH (fun H locs hH => ?_)
      refine lv_goto (tgt := 37) hx hb dX11_fault_32 (by decide) ?_
      exact P37 r_13 w_11 H locs ls hf hH (lv_sub hl [] rfl)
  · have hf := (if_pos hc_9).symm.trans hf
    refine lv_aload_n hx hb dX11_fault_4 rfl (lv_at hl 0 rfl) ?_
    refine am_get hx hb hts hK hown hH (am_o11 (p := 0) (by decide +kernel)) rfl am_inX11 1 (by decide) am_q332 (v := .ref (G.1 + 3)) rfl dX11_fault_5 ?_
    refine lv_aload_n hx hb dX11_fault_8 rfl (lv_at hl 0 rfl) ?_
    refine am_get hx hb hts hK hown hH (am_o11 (p := 0) (by decide +kernel)) rfl am_inX11 0 (by decide) am_q331 (v := .ref (G.1 + 1)) rfl dX11_fault_9 ?_
    obtain ⟨r_16, w_14, hq_15, hf⟩ := am_b2_some hf
    refine am_calli (r := r_16) (w' := w_14) (am_runV (n := 1) (As := [.ref (G.1 + 1)]) (rest := []) ⟨hx, hb, hml, hown, hts⟩ hK hE hH (k_X1_readFrom (by decide +kernel) hq_15) (am_gV am_q408 am_q409 am_q410 am_q3 am_q411) (am_o1 (p := 3) (by decide +kernel)) rfl ⟨rfl, rfl⟩ (by decide +kernel) ⟨Nat.le_of_ble_eq_true rfl, Nat.le_of_ble_eq_true rfl⟩ rfl hl.1 rfl (Nat.le_of_ble_eq_true rfl) ⟨Nat.zero_le _, Nat.zero_le _⟩ dX11_fault_12) hH (fun H locs hH => ?_)
    exact am_reti hx hb hr hlocks hH hf dX11_fault_15

def f_X10_signsIn_25 (a0 : Int32) (x2 : Int32) (s0 : Int32) (s1 : Int32) (w : am_S) : Option ((Int32 × am_S) ⊕ (Int32 × Int32 × am_S)) :=
  am_v (s1 + s0) fun (x1_5 : Int32) => am_v (x2 + (-8 : Int32)) fun (x2_6 : Int32) => some (.inr (x1_5, x2_6, w))
def f_X10_signsIn_5b (a0 : Int32) (x1 : Int32) (x2 : Int32) (w : am_S) : Option ((Int32 × am_S) ⊕ (Int32 × Int32 × am_S)) :=
  if x2 < 0 then (am_x (some (x1, w))) else (if ((am_iushr a0 x2) &&& (255 : Int32)) = 0 then (f_X10_signsIn_25 a0 x2 (0 : Int32) x1 w) else (f_X10_signsIn_25 a0 x2 (1 : Int32) x1 w))
def f_X10_signsIn_5 (a0 : Int32) (x1 : Int32) (x2 : Int32) (w : am_S) : Option (Int32 × am_S) :=
  am_loop (fun (st : (Int32 × Int32 × am_S)) => f_X10_signsIn_5b a0 st.1 st.2.1 st.2.2) am_fuel (x1, x2, w)
def f_X10_signsIn (a0 : Int32) (w : am_S) : Option (Int32 × am_S) :=
  f_X10_signsIn_5 a0 (0 : Int32) (24 : Int32) w
set_option maxRecDepth 100000 in
set_option maxHeartbeats 4000000 in
theorem k_X10_signsIn {G : am_G} {l : Launch} {a0 : Int32}  {w : am_S} {rr : Int32} {ww : am_S} (hf : f_X10_signsIn a0 w = some (rr, ww)) : am_Mi G l yX10_signsIn (Cond.code yX10_signsIn cX10_signsIn 3 (some .int) :: am_T) { frames := 0, cells := 0, slots := 0, locals := 0 } [.int a0] w rr ww := by
  refine Met.ofW (cc := cX10_signsIn) (maxL := 3) (ret := (some .int)) (by decide) rfl ?_
  intro p e s m args below meth c s₁ B hml hv
  obtain ⟨rfl, hx, hb, hr, hts, hown, hlocks, hK, hE, hH⟩ := am_begin B hv
  have hown : s.vm.findClass RX10 = some m.cls := hown
  show W p l e { frames := 0, cells := 0, slots := 0, locals := 0 } s m _ below meth c s.heap [] 0 0 _ _
  have P5 : ∀ (n1 : Nat) (x1 : Int32) (x2 : Int32) (w : am_S) (H : Heap) (locs : List Loc) (ls : Array Slot), am_loop (fun (st : (Int32 × Int32 × am_S)) => f_X10_signsIn_5b a0 st.1 st.2.1 st.2.2) n1 (x1, x2, w) = some (rr, ww) → am_H G w s H locs → lv_has ls 3 [(0, .int a0), (1, .int x1), (2, .int x2)] → W p l e { frames := 0, cells := 0, slots := 0, locals := 0 } s m [.int a0].toArray below meth c H locs 0 0 (MQ below (va_Qi (fun (x : Int32) (u : am_S) => x = rr ∧ u = ww) (am_U G) (am_A G)) [.int a0].toArray s 0 0 (am_A G)) (F0 m 5 ls []) := by
    intro n1
    induction n1 with
    | zero =>
      intro x1 x2 w H locs ls hf hH hl
      exact (am_loop_zero hf).elim
    | succ n1 ih1 =>
      intro x1 x2 w H locs ls hf hH hl
      obtain ⟨z1, hf, hk1⟩ := am_loop_succ hf
      have hf : f_X10_signsIn_5b a0 x1 x2 w = some z1 := hf
      have P25 : ∀ (x2 : Int32) (s0 : Int32) (s1 : Int32) (w : am_S) (z1 : ((Int32 × am_S) ⊕ (Int32 × Int32 × am_S))) (H : Heap) (locs : List Loc) (ls : Array Slot), f_X10_signsIn_25 a0 x2 s0 s1 w = some z1 → am_lk (fun (st : (Int32 × Int32 × am_S)) => f_X10_signsIn_5b a0 st.1 st.2.1 st.2.2) n1 (rr, ww) z1 → am_H G w s H locs → lv_has ls 3 [(0, .int a0), (2, .int x2)] → W p l e { frames := 0, cells := 0, slots := 0, locals := 0 } s m [.int a0].toArray below meth c H locs 0 0 (MQ below (va_Qi (fun (x : Int32) (u : am_S) => x = rr ∧ u = ww) (am_U G) (am_A G)) [.int a0].toArray s 0 0 (am_A G)) (F0 m 25 ls [.int s0, .int s1]) := by
        intro x2 s0 s1 w z1 H locs ls hf hk1 hH hl
        unfold f_X10_signsIn_25 at hf
        refine lv_iadd hx hb dX10_signsIn_25 ?_
        obtain ⟨x1_5, hx1_5, hf⟩ := am_v_some hf
        refine am_topi hx1_5 ?_
        refine lv_istore_n (lv' := [(1, .int x1_5), (0, .int a0), (2, .int x2)]) hx hb dX10_signsIn_26 rfl hl (by decide) rfl (fun ls hl => ?_)
        obtain ⟨x2_6, hx2_6, hf⟩ := am_v_some hf
        refine lv_iinc (v := x2_6) (lv' := [(2, .int x2_6), (1, .int x1_5), (0, .int a0)]) hx hb dX10_signsIn_27 hl (k := 2) rfl (by rw [hx2_6]; rfl) (by decide) rfl (fun ls hl => ?_)
        refine lv_goto (tgt := 5) hx hb dX10_signsIn_30 (by decide) ?_
        obtain rfl := Option.some.inj hf
        exact ih1 x1_5 x2_6 w H locs ls hk1 hH (lv_sub hl [2, 1, 0] rfl)
      unfold f_X10_signsIn_5b at hf
      refine lv_iload_n hx hb dX10_signsIn_5 rfl (lv_at hl 2 rfl) ?_
      refine lv_if_lt (tgt := 33) hx hb dX10_signsIn_6 (by decide) (fun hc_7 => ?_) (fun hc_7 => ?_)
      · have hf := (if_pos hc_7).symm.trans hf
        obtain ⟨y_8, hf, hzy_8⟩ := am_x_some hf
        rw [hzy_8] at hk1
        have hf := hf.trans (congrArg some (show y_8 = (rr, ww) from hk1))
        refine lv_iload_n hx hb dX10_signsIn_33 rfl (lv_at hl 1 rfl) ?_
        exact am_reti hx hb hr hlocks hH hf dX10_signsIn_34
      · have hf := (if_neg hc_7).symm.trans hf
        refine lv_iload_n hx hb dX10_signsIn_9 rfl (lv_at hl 1 rfl) ?_
        refine lv_iload_n hx hb dX10_signsIn_10 rfl (lv_at hl 0 rfl) ?_
        refine lv_iload_n hx hb dX10_signsIn_11 rfl (lv_at hl 2 rfl) ?_
        refine lv_iushr (v := am_iushr a0 x2) hx hb dX10_signsIn_12 rfl ?_
        refine lv_sipush (v := 255) hx hb dX10_signsIn_13 (by decide) ?_
        refine lv_iand hx hb dX10_signsIn_16 ?_
        refine lv_if_eq (tgt := 24) hx hb dX10_signsIn_17 (by decide) (fun hc_9 => ?_) (fun hc_9 => ?_)
        · have hf := (if_pos hc_9).symm.trans hf
          refine lv_iconst (v := 0) hx hb dX10_signsIn_24 (by decide) ?_
          exact P25 x2 (0 : Int32) x1 w z1 H locs ls hf hk1 hH (lv_sub hl [0, 2] rfl)
        · have hf := (if_neg hc_9).symm.trans hf
          refine lv_iconst (v := 1) hx hb dX10_signsIn_20 (by decide) ?_
          refine lv_goto (tgt := 25) hx hb dX10_signsIn_21 (by decide) ?_
          exact P25 x2 (1 : Int32) x1 w z1 H locs ls hf hk1 hH (lv_sub hl [0, 2] rfl)
  refine am_enter (lv := [(0, .int a0)]) (Nat.le_of_ble_eq_true rfl) rfl (fun ls hl => ?_)
  unfold f_X10_signsIn at hf
  refine am_start hH (fun H locs hH => ?_)
  refine lv_iconst (v := 0) hx hb dX10_signsIn_0 (by decide) ?_
  refine lv_istore_n (lv' := [(1, .int (0 : Int32)), (0, .int a0)]) hx hb dX10_signsIn_1 rfl hl (by decide) rfl (fun ls hl => ?_)
  refine lv_bipush (v := 24) hx hb dX10_signsIn_2 (by decide) ?_
  refine lv_istore_n (lv' := [(2, .int (24 : Int32)), (1, .int (0 : Int32)), (0, .int a0)]) hx hb dX10_signsIn_4 rfl hl (by decide) rfl (fun ls hl => ?_)
  exact P5 am_fuel (0 : Int32) (24 : Int32) w H locs ls hf hH (lv_sub hl [2, 1, 0] rfl)

def f_X10_add_50 (a1 : Int32) (x2 : Int32) (w : am_S) : Option (am_S ⊕ (Int32 × am_S)) :=
  am_v (x2 + (-8 : Int32)) fun (x2_9 : Int32) => some (.inr (x2_9, w))
def f_X10_add_3b (a1 : Int32) (x2 : Int32) (w : am_S) : Option (am_S ⊕ (Int32 × am_S)) :=
  if x2 < 0 then (am_x (some w)) else (am_v ((am_iushr a1 x2) &&& (255 : Int32)) fun (x3_12 : Int32) => if x3_12 = 0 then (f_X10_add_50 a1 x2 w) else (if (240 : Int32) ≤ (w.1 1 1) then (f_X10_add_50 a1 x2 w) else (am_chk (w.1 1 1) 240 (am_v (am_pi w 2 (w.1 1 1).toNatClampNeg (vp_nar .char ((x3_12.toUInt32 % 65536).toInt32))) fun (w_16 : am_S) => am_v (am_pi w_16 1 1 ((w_16.1 1 1) + (1 : Int32))) fun (w_17 : am_S) => f_X10_add_50 a1 x2 w_17))))
def f_X10_add_3 (a1 : Int32) (x2 : Int32) (w : am_S) : Option am_S :=
  am_loop (fun (st : (Int32 × am_S)) => f_X10_add_3b a1 st.1 st.2) am_fuel (x2, w)
def f_X10_add (a1 : Int32) (w : am_S) : Option am_S :=
  f_X10_add_3 a1 (24 : Int32) w
set_option maxRecDepth 100000 in
set_option maxHeartbeats 4000000 in
theorem k_X10_add {G : am_G} {l : Launch} {a1 : Int32}  {w : am_S} {ww : am_S} (hf : f_X10_add a1 w = some ww) : am_Mv G l yX10_add (Cond.code yX10_add cX10_add 4 none :: am_T) { frames := 0, cells := 0, slots := 0, locals := 0 } [.ref (G.1 + 1), .int a1] w ww := by
  refine Met.ofW (cc := cX10_add) (maxL := 4) (ret := none) (by decide) rfl ?_
  intro p e s m args below meth c s₁ B hml hv
  obtain ⟨rfl, hx, hb, hr, hts, hown, hlocks, hK, hE, hH⟩ := am_begin B hv
  have hown : s.vm.findClass RX10 = some m.cls := hown
  show W p l e { frames := 0, cells := 0, slots := 0, locals := 0 } s m _ below meth c s.heap [] 0 0 _ _
  have P3 : ∀ (n1 : Nat) (x2 : Int32) (w : am_S) (H : Heap) (locs : List Loc) (ls : Array Slot), am_loop (fun (st : (Int32 × am_S)) => f_X10_add_3b a1 st.1 st.2) n1 (x2, w) = some ww → am_H G w s H locs → lv_has ls 4 [(0, .ref (G.1 + 1)), (1, .int a1), (2, .int x2)] → W p l e { frames := 0, cells := 0, slots := 0, locals := 0 } s m [.ref (G.1 + 1), .int a1].toArray below meth c H locs 0 0 (MQ below (va_Qv (fun (u : am_S) => u = ww) (am_U G) (am_A G)) [.ref (G.1 + 1), .int a1].toArray s 0 0 (am_A G)) (F0 m 3 ls []) := by
    intro n1
    induction n1 with
    | zero =>
      intro x2 w H locs ls hf hH hl
      exact (am_loop_zero hf).elim
    | succ n1 ih1 =>
      intro x2 w H locs ls hf hH hl
      obtain ⟨z1, hf, hk1⟩ := am_loop_succ hf
      have hf : f_X10_add_3b a1 x2 w = some z1 := hf
      have P50 : ∀ (x2 : Int32) (w : am_S) (z1 : (am_S ⊕ (Int32 × am_S))) (H : Heap) (locs : List Loc) (ls : Array Slot), f_X10_add_50 a1 x2 w = some z1 → am_lk (fun (st : (Int32 × am_S)) => f_X10_add_3b a1 st.1 st.2) n1 ww z1 → am_H G w s H locs → lv_has ls 4 [(0, .ref (G.1 + 1)), (1, .int a1), (2, .int x2)] → W p l e { frames := 0, cells := 0, slots := 0, locals := 0 } s m [.ref (G.1 + 1), .int a1].toArray below meth c H locs 0 0 (MQ below (va_Qv (fun (u : am_S) => u = ww) (am_U G) (am_A G)) [.ref (G.1 + 1), .int a1].toArray s 0 0 (am_A G)) (F0 m 50 ls []) := by
        intro x2 w z1 H locs ls hf hk1 hH hl
        unfold f_X10_add_50 at hf
        obtain ⟨x2_9, hx2_9, hf⟩ := am_v_some hf
        refine lv_iinc (v := x2_9) (lv' := [(2, .int x2_9), (0, .ref (G.1 + 1)), (1, .int a1)]) hx hb dX10_add_50 hl (k := 2) rfl (by rw [hx2_9]; rfl) (by decide) rfl (fun ls hl => ?_)
        refine lv_goto (tgt := 3) hx hb dX10_add_53 (by decide) ?_
        obtain rfl := Option.some.inj hf
        exact ih1 x2_9 w H locs ls hk1 hH (lv_sub hl [1, 2, 0] rfl)
      unfold f_X10_add_3b at hf
      refine lv_iload_n hx hb dX10_add_3 rfl (lv_at hl 2 rfl) ?_
      refine lv_if_lt (tgt := 56) hx hb dX10_add_4 (by decide) (fun hc_10 => ?_) (fun hc_10 => ?_)
      · have hf := (if_pos hc_10).symm.trans hf
        obtain ⟨y_11, hf, hzy_11⟩ := am_x_some hf
        rw [hzy_11] at hk1
        have hf := hf.trans (congrArg some (show y_11 = ww from hk1))
        exact am_retv hx hb hr hlocks hH hf dX10_add_56
      · have hf := (if_neg hc_10).symm.trans hf
        refine lv_iload_n hx hb dX10_add_7 rfl (lv_at hl 1 rfl) ?_
        refine lv_iload_n hx hb dX10_add_8 rfl (lv_at hl 2 rfl) ?_
        refine lv_iushr (v := am_iushr a1 x2) hx hb dX10_add_9 rfl ?_
        refine lv_sipush (v := 255) hx hb dX10_add_10 (by decide) ?_
        refine lv_iand hx hb dX10_add_13 ?_
        obtain ⟨x3_12, hx3_12, hf⟩ := am_v_some hf
        refine am_topi hx3_12 ?_
        refine lv_istore_n (lv' := [(3, .int x3_12), (0, .ref (G.1 + 1)), (1, .int a1), (2, .int x2)]) hx hb dX10_add_14 rfl hl (by decide) rfl (fun ls hl => ?_)
        refine lv_iload_n hx hb dX10_add_15 rfl (lv_at hl 0 rfl) ?_
        refine lv_if_eq (tgt := 50) hx hb dX10_add_16 (by decide) (fun hc_13 => ?_) (fun hc_13 => ?_)
        · have hf := (if_pos hc_13).symm.trans hf
          exact P50 x2 w z1 H locs ls hf hk1 hH (lv_sub hl [1, 2, 3] rfl)
        · have hf := (if_neg hc_13).symm.trans hf
          refine lv_aload_n hx hb dX10_add_19 rfl (lv_at hl 1 rfl) ?_
          refine am_get hx hb hts hK hown hH (am_o10 (p := 1) (by decide +kernel)) rfl am_inX10 1 (by decide) am_q47 (v := .int (w.1 1 1)) rfl dX10_add_20 ?_
          refine lv_sipush (v := 240) hx hb dX10_add_23 (by decide) ?_
          refine lv_icmp_ge (tgt := 50) hx hb dX10_add_26 (by decide) (fun hc_14 => ?_) (fun hc_14 => ?_)
          · have hf := (if_pos hc_14).symm.trans hf
            exact P50 x2 w z1 H locs ls hf hk1 hH (lv_sub hl [1, 2, 3] rfl)
          · have hf := (if_neg hc_14).symm.trans hf
            refine lv_aload_n hx hb dX10_add_29 rfl (lv_at hl 1 rfl) ?_
            refine am_get hx hb hts hK hown hH (am_o10 (p := 1) (by decide +kernel)) rfl am_inX10 0 (by decide) am_q45 (v := .ref (G.1 + 2)) rfl dX10_add_30 ?_
            refine lv_aload_n hx hb dX10_add_33 rfl (lv_at hl 1 rfl) ?_
            refine am_get hx hb hts hK hown hH (am_o10 (p := 1) (by decide +kernel)) rfl am_inX10 1 (by decide) am_q47 (v := .int (w.1 1 1)) rfl dX10_add_34 ?_
            refine lv_iload_n hx hb dX10_add_37 rfl (lv_at hl 0 rfl) ?_
            refine lv_i2c hx hb dX10_add_38 rfl ?_
            obtain ⟨hi_15, hf⟩ := am_chk_some hf
            obtain ⟨w_16, hw_16, hf⟩ := am_v_some hf
            refine am_cast hx hb hK hH (am_ac_of (N := 240) (by decide +kernel)) hi_15 dX10_add_39 (fun H locs hH => ?_)
            rw [← hw_16] at hH
            refine lv_aload_n hx hb dX10_add_40 rfl (lv_at hl 1 rfl) ?_
            refine lv_dup hx hb dX10_add_41 rfl ?_
            refine am_get hx hb hts hK hown hH (am_o10 (p := 1) (by decide +kernel)) rfl am_inX10 1 (by decide) am_q47 (v := .int (w_16.1 1 1)) rfl dX10_add_42 ?_
            refine lv_iconst (v := 1) hx hb dX10_add_45 (by decide) ?_
            refine lv_iadd hx hb dX10_add_46 ?_
            obtain ⟨w_17, hw_17, hf⟩ := am_v_some hf
            refine am_puti hx hb hts hK hown hH (am_o10 (p := 1) (by decide +kernel)) rfl am_inX10 tyX10 tyX10_ok nmX10 1 (by decide) am_q47 rfl rfl rfl (fun _ _ => Nat.le_of_ble_eq_true rfl) (fun _ _ _ => rfl) dX10_add_47 (fun H locs hH => ?_)
            rw [← hw_17] at hH
            exact P50 x2 w_17 z1 H locs ls hf hk1 hH (lv_sub hl [1, 2, 3] rfl)
  refine am_enter (lv := [(0, .ref (G.1 + 1)), (1, .int a1)]) (Nat.le_of_ble_eq_true rfl) rfl (fun ls hl => ?_)
  unfold f_X10_add at hf
  refine am_start hH (fun H locs hH => ?_)
  refine lv_bipush (v := 24) hx hb dX10_add_0 (by decide) ?_
  refine lv_istore_n (lv' := [(2, .int (24 : Int32)), (0, .ref (G.1 + 1)), (1, .int a1)]) hx hb dX10_add_2 rfl hl (by decide) rfl (fun ls hl => ?_)
  exact P3 am_fuel (24 : Int32) w H locs ls hf hH (lv_sub hl [1, 2, 0] rfl)

def f_X11_feed (a1 : Int32) (a2 : Int32) (a3 : Int32) (a4 : Int32) (a5 : Int32) (w : am_S) : Option (Int32 × am_S) :=
  am_b2 (f_X10_signsIn a1 w) fun r_30 w_28 => am_b2 (f_X10_signsIn a2 w_28) fun r_33 w_31 => am_b2 (f_X10_signsIn a3 w_31) fun r_36 w_34 => am_b2 (f_X10_signsIn a4 w_34) fun r_39 w_37 => am_b2 (f_X10_signsIn a5 w_37) fun r_42 w_40 => am_v ((((r_30 + r_33) + r_36) + r_39) + r_42) fun (x6_43 : Int32) => if ((w_40.1 1 1) + x6_43) ≤ (240 : Int32) then (am_b1 (f_X10_add a1 w_40) fun w_45 => am_b1 (f_X10_add a2 w_45) fun w_47 => am_b1 (f_X10_add a3 w_47) fun w_49 => am_b1 (f_X10_add a4 w_49) fun w_51 => am_b1 (f_X10_add a5 w_51) fun w_53 => some (w_53.1 1 1, w_53)) else (some ((-1 : Int32), w_40))
set_option maxRecDepth 100000 in
set_option maxHeartbeats 4000000 in
theorem k_X11_feed {G : am_G} {l : Launch} {a1 : Int32} {a2 : Int32} {a3 : Int32} {a4 : Int32} {a5 : Int32}  {w : am_S} {rr : Int32} {ww : am_S} (hf : f_X11_feed a1 a2 a3 a4 a5 w = some (rr, ww)) : am_Mi G l yX11_feed (Cond.code yX11_feed cX11_feed 7 (some .int) :: am_T) { frames := 1, cells := 0, slots := 0, locals := 64 } [.ref (G.1 + 0), .int a1, .int a2, .int a3, .int a4, .int a5] w rr ww := by
  refine Met.ofW (cc := cX11_feed) (maxL := 7) (ret := (some .int)) (by decide) rfl ?_
  intro p e s m args below meth c s₁ B hml hv
  obtain ⟨rfl, hx, hb, hr, hts, hown, hlocks, hK, hE, hH⟩ := am_begin B hv
  have hown : s.vm.findClass RX11 = some m.cls := hown
  show W p l e { frames := 1, cells := 0, slots := 0, locals := 64 } s m _ below meth c s.heap [] 0 0 _ _
  refine am_enter (lv := [(0, .ref (G.1 + 0)), (1, .int a1), (2, .int a2), (3, .int a3), (4, .int a4), (5, .int a5)]) (Nat.le_of_ble_eq_true rfl) rfl (fun ls hl => ?_)
  unfold f_X11_feed at hf
  refine am_start hH (fun H locs hH => ?_)
  refine lv_iload_n hx hb dX11_feed_0 rfl (lv_at hl 1 rfl) ?_
  obtain ⟨r_30, w_28, hq_29, hf⟩ := am_b2_some hf
  refine am_calli (r := r_30) (w' := w_28) (am_runS (n := 1) (As := [.int a1]) (rest := []) ⟨hx, hb, hml, hown, hts⟩ hK hE hH (k_X10_signsIn hq_29) (am_gS am_q393 am_q394 am_q2 am_q395) ⟨rfl, rfl⟩ (by decide +kernel) ⟨Nat.le_of_ble_eq_true rfl, Nat.le_of_ble_eq_true rfl⟩ rfl hl.1 rfl (Nat.le_of_ble_eq_true rfl) ⟨Nat.zero_le _, Nat.zero_le _⟩ dX11_feed_1) hH (fun H locs hH => ?_)
  refine lv_iload_n hx hb dX11_feed_4 rfl (lv_at hl 2 rfl) ?_
  obtain ⟨r_33, w_31, hq_32, hf⟩ := am_b2_some hf
  refine am_calli (r := r_33) (w' := w_31) (am_runS (n := 1) (As := [.int a2]) (rest := [.int r_30]) ⟨hx, hb, hml, hown, hts⟩ hK hE hH (k_X10_signsIn hq_32) (am_gS am_q393 am_q394 am_q2 am_q395) ⟨rfl, rfl⟩ (by decide +kernel) ⟨Nat.le_of_ble_eq_true rfl, Nat.le_of_ble_eq_true rfl⟩ rfl hl.1 rfl (Nat.le_of_ble_eq_true rfl) ⟨Nat.zero_le _, Nat.zero_le _⟩ dX11_feed_5) hH (fun H locs hH => ?_)
  refine lv_iadd hx hb dX11_feed_8 ?_
  refine lv_iload_n hx hb dX11_feed_9 rfl (lv_at hl 3 rfl) ?_
  obtain ⟨r_36, w_34, hq_35, hf⟩ := am_b2_some hf
  refine am_calli (r := r_36) (w' := w_34) (am_runS (n := 1) (As := [.int a3]) (rest := [.int (r_30 + r_33)]) ⟨hx, hb, hml, hown, hts⟩ hK hE hH (k_X10_signsIn hq_35) (am_gS am_q393 am_q394 am_q2 am_q395) ⟨rfl, rfl⟩ (by decide +kernel) ⟨Nat.le_of_ble_eq_true rfl, Nat.le_of_ble_eq_true rfl⟩ rfl hl.1 rfl (Nat.le_of_ble_eq_true rfl) ⟨Nat.zero_le _, Nat.zero_le _⟩ dX11_feed_10) hH (fun H locs hH => ?_)
  refine lv_iadd hx hb dX11_feed_13 ?_
  refine lv_iload hx hb dX11_feed_14 (lv_at hl 4 rfl) ?_
  obtain ⟨r_39, w_37, hq_38, hf⟩ := am_b2_some hf
  refine am_calli (r := r_39) (w' := w_37) (am_runS (n := 1) (As := [.int a4]) (rest := [.int ((r_30 + r_33) + r_36)]) ⟨hx, hb, hml, hown, hts⟩ hK hE hH (k_X10_signsIn hq_38) (am_gS am_q393 am_q394 am_q2 am_q395) ⟨rfl, rfl⟩ (by decide +kernel) ⟨Nat.le_of_ble_eq_true rfl, Nat.le_of_ble_eq_true rfl⟩ rfl hl.1 rfl (Nat.le_of_ble_eq_true rfl) ⟨Nat.zero_le _, Nat.zero_le _⟩ dX11_feed_16) hH (fun H locs hH => ?_)
  refine lv_iadd hx hb dX11_feed_19 ?_
  refine lv_iload hx hb dX11_feed_20 (lv_at hl 5 rfl) ?_
  obtain ⟨r_42, w_40, hq_41, hf⟩ := am_b2_some hf
  refine am_calli (r := r_42) (w' := w_40) (am_runS (n := 1) (As := [.int a5]) (rest := [.int (((r_30 + r_33) + r_36) + r_39)]) ⟨hx, hb, hml, hown, hts⟩ hK hE hH (k_X10_signsIn hq_41) (am_gS am_q393 am_q394 am_q2 am_q395) ⟨rfl, rfl⟩ (by decide +kernel) ⟨Nat.le_of_ble_eq_true rfl, Nat.le_of_ble_eq_true rfl⟩ rfl hl.1 rfl (Nat.le_of_ble_eq_true rfl) ⟨Nat.zero_le _, Nat.zero_le _⟩ dX11_feed_22) hH (fun H locs hH => ?_)
  refine lv_iadd hx hb dX11_feed_25 ?_
  obtain ⟨x6_43, hx6_43, hf⟩ := am_v_some hf
  refine am_topi hx6_43 ?_
  refine lv_istore (lv' := [(6, .int x6_43), (0, .ref (G.1 + 0)), (1, .int a1), (2, .int a2), (3, .int a3), (4, .int a4), (5, .int a5)]) hx hb dX11_feed_26 hl (by decide) rfl (fun ls hl => ?_)
  refine lv_aload_n hx hb dX11_feed_28 rfl (lv_at hl 1 rfl) ?_
  refine am_get hx hb hts hK hown hH (am_o11 (p := 0) (by decide +kernel)) rfl am_inX11 0 (by decide) am_q331 (v := .ref (G.1 + 1)) rfl dX11_feed_29 ?_
  refine am_get hx hb hts hK hown hH (am_o10 (p := 1) (by decide +kernel)) rfl am_inX10 1 (by decide) am_q46 (v := .int (w_40.1 1 1)) rfl dX11_feed_32 ?_
  refine lv_iload hx hb dX11_feed_35 (lv_at hl 0 rfl) ?_
  refine lv_iadd hx hb dX11_feed_37 ?_
  refine lv_sipush (v := 240) hx hb dX11_feed_38 (by decide) ?_
  refine lv_icmp_le (tgt := 46) hx hb dX11_feed_41 (by decide) (fun hc_44 => ?_) (fun hc_44 => ?_)
  · have hf := (if_pos hc_44).symm.trans hf
    refine lv_aload_n hx hb dX11_feed_46 rfl (lv_at hl 1 rfl) ?_
    refine am_get hx hb hts hK hown hH (am_o11 (p := 0) (by decide +kernel)) rfl am_inX11 0 (by decide) am_q331 (v := .ref (G.1 + 1)) rfl dX11_feed_47 ?_
    refine lv_iload_n hx hb dX11_feed_50 rfl (lv_at hl 2 rfl) ?_
    obtain ⟨w_45, hq_46, hf⟩ := am_b1_some hf
    refine am_callv (w' := w_45) (am_runV (n := 1) (As := [.int a1]) (rest := []) ⟨hx, hb, hml, hown, hts⟩ hK hE hH (k_X10_add hq_46) (am_gV am_q396 am_q397 am_q398 am_q2 am_q399) (am_o10 (p := 1) (by decide +kernel)) rfl ⟨rfl, rfl⟩ (by decide +kernel) ⟨Nat.le_of_ble_eq_true rfl, Nat.le_of_ble_eq_true rfl⟩ rfl hl.1 rfl (Nat.le_of_ble_eq_true rfl) ⟨Nat.zero_le _, Nat.zero_le _⟩ dX11_feed_51) hH (fun H locs hH => ?_)
    refine lv_aload_n hx hb dX11_feed_54 rfl (lv_at hl 1 rfl) ?_
    refine am_get hx hb hts hK hown hH (am_o11 (p := 0) (by decide +kernel)) rfl am_inX11 0 (by decide) am_q331 (v := .ref (G.1 + 1)) rfl dX11_feed_55 ?_
    refine lv_iload_n hx hb dX11_feed_58 rfl (lv_at hl 3 rfl) ?_
    obtain ⟨w_47, hq_48, hf⟩ := am_b1_some hf
    refine am_callv (w' := w_47) (am_runV (n := 1) (As := [.int a2]) (rest := []) ⟨hx, hb, hml, hown, hts⟩ hK hE hH (k_X10_add hq_48) (am_gV am_q396 am_q397 am_q398 am_q2 am_q399) (am_o10 (p := 1) (by decide +kernel)) rfl ⟨rfl, rfl⟩ (by decide +kernel) ⟨Nat.le_of_ble_eq_true rfl, Nat.le_of_ble_eq_true rfl⟩ rfl hl.1 rfl (Nat.le_of_ble_eq_true rfl) ⟨Nat.zero_le _, Nat.zero_le _⟩ dX11_feed_59) hH (fun H locs hH => ?_)
    refine lv_aload_n hx hb dX11_feed_62 rfl (lv_at hl 1 rfl) ?_
    refine am_get hx hb hts hK hown hH (am_o11 (p := 0) (by decide +kernel)) rfl am_inX11 0 (by decide) am_q331 (v := .ref (G.1 + 1)) rfl dX11_feed_63 ?_
    refine lv_iload_n hx hb dX11_feed_66 rfl (lv_at hl 4 rfl) ?_
    obtain ⟨w_49, hq_50, hf⟩ := am_b1_some hf
    refine am_callv (w' := w_49) (am_runV (n := 1) (As := [.int a3]) (rest := []) ⟨hx, hb, hml, hown, hts⟩ hK hE hH (k_X10_add hq_50) (am_gV am_q396 am_q397 am_q398 am_q2 am_q399) (am_o10 (p := 1) (by decide +kernel)) rfl ⟨rfl, rfl⟩ (by decide +kernel) ⟨Nat.le_of_ble_eq_true rfl, Nat.le_of_ble_eq_true rfl⟩ rfl hl.1 rfl (Nat.le_of_ble_eq_true rfl) ⟨Nat.zero_le _, Nat.zero_le _⟩ dX11_feed_67) hH (fun H locs hH => ?_)
    refine lv_aload_n hx hb dX11_feed_70 rfl (lv_at hl 1 rfl) ?_
    refine am_get hx hb hts hK hown hH (am_o11 (p := 0) (by decide +kernel)) rfl am_inX11 0 (by decide) am_q331 (v := .ref (G.1 + 1)) rfl dX11_feed_71 ?_
    refine lv_iload hx hb dX11_feed_74 (lv_at hl 5 rfl) ?_
    obtain ⟨w_51, hq_52, hf⟩ := am_b1_some hf
    refine am_callv (w' := w_51) (am_runV (n := 1) (As := [.int a4]) (rest := []) ⟨hx, hb, hml, hown, hts⟩ hK hE hH (k_X10_add hq_52) (am_gV am_q396 am_q397 am_q398 am_q2 am_q399) (am_o10 (p := 1) (by decide +kernel)) rfl ⟨rfl, rfl⟩ (by decide +kernel) ⟨Nat.le_of_ble_eq_true rfl, Nat.le_of_ble_eq_true rfl⟩ rfl hl.1 rfl (Nat.le_of_ble_eq_true rfl) ⟨Nat.zero_le _, Nat.zero_le _⟩ dX11_feed_76) hH (fun H locs hH => ?_)
    refine lv_aload_n hx hb dX11_feed_79 rfl (lv_at hl 1 rfl) ?_
    refine am_get hx hb hts hK hown hH (am_o11 (p := 0) (by decide +kernel)) rfl am_inX11 0 (by decide) am_q331 (v := .ref (G.1 + 1)) rfl dX11_feed_80 ?_
    refine lv_iload hx hb dX11_feed_83 (lv_at hl 6 rfl) ?_
    obtain ⟨w_53, hq_54, hf⟩ := am_b1_some hf
    refine am_callv (w' := w_53) (am_runV (n := 1) (As := [.int a5]) (rest := []) ⟨hx, hb, hml, hown, hts⟩ hK hE hH (k_X10_add hq_54) (am_gV am_q396 am_q397 am_q398 am_q2 am_q399) (am_o10 (p := 1) (by decide +kernel)) rfl ⟨rfl, rfl⟩ (by decide +kernel) ⟨Nat.le_of_ble_eq_true rfl, Nat.le_of_ble_eq_true rfl⟩ rfl hl.1 rfl (Nat.le_of_ble_eq_true rfl) ⟨Nat.zero_le _, Nat.zero_le _⟩ dX11_feed_85) hH (fun H locs hH => ?_)
    refine lv_aload_n hx hb dX11_feed_88 rfl (lv_at hl 1 rfl) ?_
    refine am_get hx hb hts hK hown hH (am_o11 (p := 0) (by decide +kernel)) rfl am_inX11 0 (by decide) am_q331 (v := .ref (G.1 + 1)) rfl dX11_feed_89 ?_
    refine am_get hx hb hts hK hown hH (am_o10 (p := 1) (by decide +kernel)) rfl am_inX10 1 (by decide) am_q46 (v := .int (w_53.1 1 1)) rfl dX11_feed_92 ?_
    exact am_reti hx hb hr hlocks hH hf dX11_feed_95
  · have hf := (if_neg hc_44).symm.trans hf
    refine lv_iconst (v := -1) hx hb dX11_feed_44 (by decide) ?_
    exact am_reti hx hb hr hlocks hH hf dX11_feed_45

def f_X6_fewestHelpers_72  (x1 : Int32) (x2 : Int32) (x3 : Int32) (w : am_S) : Option ((Int32 × am_S) ⊕ (Int32 × Int32 × am_S)) :=
  am_v (x3 + (1 : Int32)) fun (x3_19 : Int32) => some (.inr (x2, x3_19, w))
def f_X6_fewestHelpers_40  (x1 : Int32) (x2 : Int32) (x3 : Int32) (s0 : Int32) (w : am_S) : Option ((Int32 × am_S) ⊕ (Int32 × Int32 × am_S)) :=
  if (x3 &&& (x1 ^^^ (-1 : Int32))) = 0 then (if s0 = 0 then (f_X6_fewestHelpers_72 x1 x2 x3 w) else (am_b2 (f_X7_stuckOf (x1 &&& (x3 ^^^ (-1 : Int32))) w) fun r_24 w_22 => if r_24 = 0 then (f_X6_fewestHelpers_72 x1 x3 x3 w_22) else (f_X6_fewestHelpers_72 x1 x2 x3 w_22))) else (f_X6_fewestHelpers_72 x1 x2 x3 w)
def f_X6_fewestHelpers_19b  (x1 : Int32) (x2 : Int32) (x3 : Int32) (w : am_S) : Option ((Int32 × am_S) ⊕ (Int32 × Int32 × am_S)) :=
  if x1 ≤ x3 then (am_x (some (x2, w))) else (am_b2 (f_J6_bitCount_0f7a4 x3 w) fun r_30 w_28 => am_b2 (f_J6_bitCount_0f7a4 x2 w_28) fun r_33 w_31 => if r_33 ≤ r_30 then (f_X6_fewestHelpers_40 x1 x2 x3 (0 : Int32) w_31) else (f_X6_fewestHelpers_40 x1 x2 x3 (1 : Int32) w_31))
def f_X6_fewestHelpers_19  (x1 : Int32) (x2 : Int32) (x3 : Int32) (w : am_S) : Option (Int32 × am_S) :=
  am_loop (fun (st : (Int32 × Int32 × am_S)) => f_X6_fewestHelpers_19b x1 st.1 st.2.1 st.2.2) am_fuel (x2, x3, w)
def f_X6_fewestHelpers  (w : am_S) : Option (Int32 × am_S) :=
  am_b2 (f_X7_stuckOf (w.1 250 6) w) fun r_37 w_35 => f_X6_fewestHelpers_19 r_37 r_37 (0 : Int32) w_35
set_option maxRecDepth 100000 in
set_option maxHeartbeats 4000000 in
theorem k_X6_fewestHelpers {G : am_G} {l : Launch}   {w : am_S} {rr : Int32} {ww : am_S} (hf : f_X6_fewestHelpers  w = some (rr, ww)) : am_Mi G l yX6_fewestHelpers (Cond.code yX6_fewestHelpers cX6_fewestHelpers 5 (some .int) :: am_T) { frames := 4, cells := 0, slots := 0, locals := 256 } [.ref (G.1 + 257)] w rr ww := by
  refine Met.ofW (cc := cX6_fewestHelpers) (maxL := 5) (ret := (some .int)) (by decide) rfl ?_
  intro p e s m args below meth c s₁ B hml hv
  obtain ⟨rfl, hx, hb, hr, hts, hown, hlocks, hK, hE, hH⟩ := am_begin B hv
  have hown : s.vm.findClass RX6 = some m.cls := hown
  show W p l e { frames := 4, cells := 0, slots := 0, locals := 256 } s m _ below meth c s.heap [] 0 0 _ _
  have P19 : ∀ (x1 : Int32) (n1 : Nat) (x2 : Int32) (x3 : Int32) (w : am_S) (H : Heap) (locs : List Loc) (ls : Array Slot), am_loop (fun (st : (Int32 × Int32 × am_S)) => f_X6_fewestHelpers_19b x1 st.1 st.2.1 st.2.2) n1 (x2, x3, w) = some (rr, ww) → am_H G w s H locs → lv_has ls 5 [(0, .ref (G.1 + 257)), (1, .int x1), (2, .int x2), (3, .int x3)] → W p l e { frames := 4, cells := 0, slots := 0, locals := 256 } s m [.ref (G.1 + 257)].toArray below meth c H locs 0 0 (MQ below (va_Qi (fun (x : Int32) (u : am_S) => x = rr ∧ u = ww) (am_U G) (am_A G)) [.ref (G.1 + 257)].toArray s 0 0 (am_A G)) (F0 m 19 ls []) := by
    intro x1 n1
    induction n1 with
    | zero =>
      intro x2 x3 w H locs ls hf hH hl
      exact (am_loop_zero hf).elim
    | succ n1 ih1 =>
      intro x2 x3 w H locs ls hf hH hl
      obtain ⟨z1, hf, hk1⟩ := am_loop_succ hf
      have hf : f_X6_fewestHelpers_19b x1 x2 x3 w = some z1 := hf
      have P72 : ∀ (x2 : Int32) (x3 : Int32) (w : am_S) (z1 : ((Int32 × am_S) ⊕ (Int32 × Int32 × am_S))) (H : Heap) (locs : List Loc) (ls : Array Slot), f_X6_fewestHelpers_72 x1 x2 x3 w = some z1 → am_lk (fun (st : (Int32 × Int32 × am_S)) => f_X6_fewestHelpers_19b x1 st.1 st.2.1 st.2.2) n1 (rr, ww) z1 → am_H G w s H locs → lv_has ls 5 [(0, .ref (G.1 + 257)), (1, .int x1), (2, .int x2), (3, .int x3)] → W p l e { frames := 4, cells := 0, slots := 0, locals := 256 } s m [.ref (G.1 + 257)].toArray below meth c H locs 0 0 (MQ below (va_Qi (fun (x : Int32) (u : am_S) => x = rr ∧ u = ww) (am_U G) (am_A G)) [.ref (G.1 + 257)].toArray s 0 0 (am_A G)) (F0 m 72 ls []) := by
        intro x2 x3 w z1 H locs ls hf hk1 hH hl
        unfold f_X6_fewestHelpers_72 at hf
        obtain ⟨x3_19, hx3_19, hf⟩ := am_v_some hf
        refine lv_iinc (v := x3_19) (lv' := [(3, .int x3_19), (0, .ref (G.1 + 257)), (1, .int x1), (2, .int x2)]) hx hb dX6_fewestHelpers_72 hl (k := 3) rfl (by rw [hx3_19]; rfl) (by decide) rfl (fun ls hl => ?_)
        refine lv_goto (tgt := 19) hx hb dX6_fewestHelpers_75 (by decide) ?_
        obtain rfl := Option.some.inj hf
        exact ih1 x2 x3_19 w H locs ls hk1 hH (lv_sub hl [1, 2, 3, 0] rfl)
      have P40 : ∀ (x2 : Int32) (x3 : Int32) (s0 : Int32) (w : am_S) (z1 : ((Int32 × am_S) ⊕ (Int32 × Int32 × am_S))) (H : Heap) (locs : List Loc) (ls : Array Slot), f_X6_fewestHelpers_40 x1 x2 x3 s0 w = some z1 → am_lk (fun (st : (Int32 × Int32 × am_S)) => f_X6_fewestHelpers_19b x1 st.1 st.2.1 st.2.2) n1 (rr, ww) z1 → am_H G w s H locs → lv_has ls 5 [(0, .ref (G.1 + 257)), (1, .int x1), (2, .int x2), (3, .int x3)] → W p l e { frames := 4, cells := 0, slots := 0, locals := 256 } s m [.ref (G.1 + 257)].toArray below meth c H locs 0 0 (MQ below (va_Qi (fun (x : Int32) (u : am_S) => x = rr ∧ u = ww) (am_U G) (am_A G)) [.ref (G.1 + 257)].toArray s 0 0 (am_A G)) (F0 m 40 ls [.int s0]) := by
        intro x2 x3 s0 w z1 H locs ls hf hk1 hH hl
        unfold f_X6_fewestHelpers_40 at hf
        refine lv_istore (lv' := [(4, .int s0), (0, .ref (G.1 + 257)), (1, .int x1), (2, .int x2), (3, .int x3)]) hx hb dX6_fewestHelpers_40 hl (by decide) rfl (fun ls hl => ?_)
        refine lv_iload_n hx hb dX6_fewestHelpers_42 rfl (lv_at hl 4 rfl) ?_
        refine lv_iload_n hx hb dX6_fewestHelpers_43 rfl (lv_at hl 2 rfl) ?_
        refine lv_iconst (v := -1) hx hb dX6_fewestHelpers_44 (by decide) ?_
        refine lv_ixor hx hb dX6_fewestHelpers_45 ?_
        refine lv_iand hx hb dX6_fewestHelpers_46 ?_
        refine lv_if_ne (tgt := 72) hx hb dX6_fewestHelpers_47 (by decide) (fun hc_20 => ?_) (fun hc_20 => ?_)
        · have hf := (if_neg hc_20).symm.trans hf
          exact P72 x2 x3 w z1 H locs ls hf hk1 hH (lv_sub hl [1, 2, 3, 4] rfl)
        · have hf := (if_pos hc_20).symm.trans hf
          refine lv_iload hx hb dX6_fewestHelpers_50 (lv_at hl 0 rfl) ?_
          refine lv_if_eq (tgt := 72) hx hb dX6_fewestHelpers_52 (by decide) (fun hc_21 => ?_) (fun hc_21 => ?_)
          · have hf := (if_pos hc_21).symm.trans hf
            exact P72 x2 x3 w z1 H locs ls hf hk1 hH (lv_sub hl [1, 2, 3, 4] rfl)
          · have hf := (if_neg hc_21).symm.trans hf
            refine lv_aload_n hx hb dX6_fewestHelpers_55 rfl (lv_at hl 1 rfl) ?_
            refine am_get hx hb hts hK hown hH (am_o6 (p := 257) (by decide +kernel)) rfl am_inX6 1 (by decide) am_q315 (v := .ref (G.1 + 250)) rfl dX6_fewestHelpers_56 ?_
            refine lv_iload_n hx hb dX6_fewestHelpers_59 rfl (lv_at hl 2 rfl) ?_
            refine lv_iload_n hx hb dX6_fewestHelpers_60 rfl (lv_at hl 4 rfl) ?_
            refine lv_iconst (v := -1) hx hb dX6_fewestHelpers_61 (by decide) ?_
            refine lv_ixor hx hb dX6_fewestHelpers_62 ?_
            refine lv_iand hx hb dX6_fewestHelpers_63 ?_
            obtain ⟨r_24, w_22, hq_23, hf⟩ := am_b2_some hf
            refine am_calli (r := r_24) (w' := w_22) (am_runV (n := 1) (As := [.int (x1 &&& (x3 ^^^ (-1 : Int32)))]) (rest := []) ⟨hx, hb, hml, hown, hts⟩ hK hE hH (k_X7_stuckOf hq_23) (am_gV am_q973 am_q950 am_q951 am_q9 am_q952) (am_o7 (p := 250) (by decide +kernel)) rfl ⟨rfl, rfl⟩ (by decide +kernel) ⟨Nat.le_of_ble_eq_true rfl, Nat.le_of_ble_eq_true rfl⟩ rfl hl.1 rfl (Nat.le_of_ble_eq_true rfl) ⟨Nat.zero_le _, Nat.zero_le _⟩ dX6_fewestHelpers_64) hH (fun H locs hH => ?_)
            refine lv_if_ne (tgt := 72) hx hb dX6_fewestHelpers_67 (by decide) (fun hc_25 => ?_) (fun hc_25 => ?_)
            · have hf := (if_neg hc_25).symm.trans hf
              exact P72 x2 x3 w_22 z1 H locs ls hf hk1 hH (lv_sub hl [1, 2, 3, 4] rfl)
            · have hf := (if_pos hc_25).symm.trans hf
              refine lv_iload_n hx hb dX6_fewestHelpers_70 rfl (lv_at hl 4 rfl) ?_
              refine lv_istore_n (lv' := [(2, .int x3), (4, .int s0), (0, .ref (G.1 + 257)), (1, .int x1), (3, .int x3)]) hx hb dX6_fewestHelpers_71 rfl hl (by decide) rfl (fun ls hl => ?_)
              exact P72 x3 x3 w_22 z1 H locs ls hf hk1 hH (lv_sub hl [2, 3, 0, 4] rfl)
      unfold f_X6_fewestHelpers_19b at hf
      refine lv_iload_n hx hb dX6_fewestHelpers_19 rfl (lv_at hl 3 rfl) ?_
      refine lv_iload_n hx hb dX6_fewestHelpers_20 rfl (lv_at hl 1 rfl) ?_
      refine lv_icmp_ge (tgt := 78) hx hb dX6_fewestHelpers_21 (by decide) (fun hc_26 => ?_) (fun hc_26 => ?_)
      · have hf := (if_pos hc_26).symm.trans hf
        obtain ⟨y_27, hf, hzy_27⟩ := am_x_some hf
        rw [hzy_27] at hk1
        have hf := hf.trans (congrArg some (show y_27 = (rr, ww) from hk1))
        refine lv_iload_n hx hb dX6_fewestHelpers_78 rfl (lv_at hl 2 rfl) ?_
        exact am_reti hx hb hr hlocks hH hf dX6_fewestHelpers_79
      · have hf := (if_neg hc_26).symm.trans hf
        refine lv_iload_n hx hb dX6_fewestHelpers_24 rfl (lv_at hl 3 rfl) ?_
        obtain ⟨r_30, w_28, hq_29, hf⟩ := am_b2_some hf
        refine am_calli (r := r_30) (w' := w_28) (am_runS (n := 1) (As := [.int x3]) (rest := []) ⟨hx, hb, hml, hown, hts⟩ hK hE hH (k_J6_bitCount_0f7a4 hq_29) (am_gS am_q974 am_q716 am_q23 am_q717) ⟨rfl, rfl⟩ (by decide +kernel) ⟨Nat.le_of_ble_eq_true rfl, Nat.le_of_ble_eq_true rfl⟩ rfl hl.1 rfl (Nat.le_of_ble_eq_true rfl) ⟨Nat.zero_le _, Nat.zero_le _⟩ dX6_fewestHelpers_25) hH (fun H locs hH => ?_)
        refine lv_iload_n hx hb dX6_fewestHelpers_28 rfl (lv_at hl 2 rfl) ?_
        obtain ⟨r_33, w_31, hq_32, hf⟩ := am_b2_some hf
        refine am_calli (r := r_33) (w' := w_31) (am_runS (n := 1) (As := [.int x2]) (rest := [.int r_30]) ⟨hx, hb, hml, hown, hts⟩ hK hE hH (k_J6_bitCount_0f7a4 hq_32) (am_gS am_q974 am_q716 am_q23 am_q717) ⟨rfl, rfl⟩ (by decide +kernel) ⟨Nat.le_of_ble_eq_true rfl, Nat.le_of_ble_eq_true rfl⟩ rfl hl.1 rfl (Nat.le_of_ble_eq_true rfl) ⟨Nat.zero_le _, Nat.zero_le _⟩ dX6_fewestHelpers_29) hH (fun H locs hH => ?_)
        refine lv_icmp_ge (tgt := 39) hx hb dX6_fewestHelpers_32 (by decide) (fun hc_34 => ?_) (fun hc_34 => ?_)
        · have hf := (if_pos hc_34).symm.trans hf
          refine lv_iconst (v := 0) hx hb dX6_fewestHelpers_39 (by decide) ?_
          exact P40 x2 x3 (0 : Int32) w_31 z1 H locs ls hf hk1 hH (lv_sub hl [0, 1, 2, 3] rfl)
        · have hf := (if_neg hc_34).symm.trans hf
          refine lv_iconst (v := 1) hx hb dX6_fewestHelpers_35 (by decide) ?_
          refine lv_goto (tgt := 40) hx hb dX6_fewestHelpers_36 (by decide) ?_
          exact P40 x2 x3 (1 : Int32) w_31 z1 H locs ls hf hk1 hH (lv_sub hl [0, 1, 2, 3] rfl)
  refine am_enter (lv := [(0, .ref (G.1 + 257))]) (Nat.le_of_ble_eq_true rfl) rfl (fun ls hl => ?_)
  unfold f_X6_fewestHelpers at hf
  refine am_start hH (fun H locs hH => ?_)
  refine lv_aload_n hx hb dX6_fewestHelpers_0 rfl (lv_at hl 0 rfl) ?_
  refine am_get hx hb hts hK hown hH (am_o6 (p := 257) (by decide +kernel)) rfl am_inX6 1 (by decide) am_q315 (v := .ref (G.1 + 250)) rfl dX6_fewestHelpers_1 ?_
  refine lv_aload_n hx hb dX6_fewestHelpers_4 rfl (lv_at hl 0 rfl) ?_
  refine am_get hx hb hts hK hown hH (am_o6 (p := 257) (by decide +kernel)) rfl am_inX6 1 (by decide) am_q315 (v := .ref (G.1 + 250)) rfl dX6_fewestHelpers_5 ?_
  refine am_get hx hb hts hK hown hH (am_o7 (p := 250) (by decide +kernel)) rfl am_inX7 6 (by decide) am_q270 (v := .int (w.1 250 6)) rfl dX6_fewestHelpers_8 ?_
  obtain ⟨r_37, w_35, hq_36, hf⟩ := am_b2_some hf
  refine am_calli (r := r_37) (w' := w_35) (am_runV (n := 1) (As := [.int (w.1 250 6)]) (rest := []) ⟨hx, hb, hml, hown, hts⟩ hK hE hH (k_X7_stuckOf hq_36) (am_gV am_q973 am_q950 am_q951 am_q9 am_q952) (am_o7 (p := 250) (by decide +kernel)) rfl ⟨rfl, rfl⟩ (by decide +kernel) ⟨Nat.le_of_ble_eq_true rfl, Nat.le_of_ble_eq_true rfl⟩ rfl hl.1 rfl (Nat.le_of_ble_eq_true rfl) ⟨Nat.zero_le _, Nat.zero_le _⟩ dX6_fewestHelpers_11) hH (fun H locs hH => ?_)
  refine lv_istore_n (lv' := [(1, .int r_37), (0, .ref (G.1 + 257))]) hx hb dX6_fewestHelpers_14 rfl hl (by decide) rfl (fun ls hl => ?_)
  refine lv_iload_n hx hb dX6_fewestHelpers_15 rfl (lv_at hl 0 rfl) ?_
  refine lv_istore_n (lv' := [(2, .int r_37), (1, .int r_37), (0, .ref (G.1 + 257))]) hx hb dX6_fewestHelpers_16 rfl hl (by decide) rfl (fun ls hl => ?_)
  refine lv_iconst (v := 0) hx hb dX6_fewestHelpers_17 (by decide) ?_
  refine lv_istore_n (lv' := [(3, .int (0 : Int32)), (2, .int r_37), (1, .int r_37), (0, .ref (G.1 + 257))]) hx hb dX6_fewestHelpers_18 rfl hl (by decide) rfl (fun ls hl => ?_)
  exact P19 r_37 am_fuel r_37 (0 : Int32) w_35 H locs ls hf hH (lv_sub hl [3, 2, 1, 0] rfl)

def f_X11_fewest_25 (a1 : Int32) (a2 : Int32) (w : am_S) : Option (Int32 × am_S) :=
  some ((-1 : Int32), w)
def f_X11_fewest_58 (a1 : Int32) (a2 : Int32) (s0 : Int32) (w : am_S) : Option (Int32 × am_S) :=
  some (s0, w)
def f_X11_fewest (a1 : Int32) (a2 : Int32) (w : am_S) : Option (Int32 × am_S) :=
  am_b2 (f_X11_noField w) fun r_20 w_18 => if r_20 = 0 then (if a1 < 0 then (f_X11_fewest_25 a1 a2 w_18) else (if (1 : Int32) < a1 then (f_X11_fewest_25 a1 a2 w_18) else (if a2 < 0 then (f_X11_fewest_25 a1 a2 w_18) else (if a2 ≤ (1 : Int32) then (am_b1 (f_X7_lookAt 23 w_18) fun w_26 => am_b2 (f_X6_fewestHelpers w_26) fun r_30 w_28 => if a2 = 0 then (am_b2 (f_J6_bitCount_0f7a4 r_30 w_28) fun r_34 w_32 => f_X11_fewest_58 a1 a2 r_34 w_32) else (f_X11_fewest_58 a1 a2 r_30 w_28)) else (f_X11_fewest_25 a1 a2 w_18))))) else (f_X11_fewest_25 a1 a2 w_18)
set_option maxRecDepth 100000 in
set_option maxHeartbeats 4000000 in
theorem k_X11_fewest {G : am_G} {l : Launch} {a1 : Int32} {a2 : Int32}  {w : am_S} {rr : Int32} {ww : am_S} (hf : f_X11_fewest a1 a2 w = some (rr, ww)) : am_Mi G l yX11_fewest (Cond.code yX11_fewest cX11_fewest 4 (some .int) :: am_T) { frames := 5, cells := 0, slots := 0, locals := 320 } [.ref (G.1 + 0), .int a1, .int a2] w rr ww := by
  refine Met.ofW (cc := cX11_fewest) (maxL := 4) (ret := (some .int)) (by decide) rfl ?_
  intro p e s m args below meth c s₁ B hml hv
  obtain ⟨rfl, hx, hb, hr, hts, hown, hlocks, hK, hE, hH⟩ := am_begin B hv
  have hown : s.vm.findClass RX11 = some m.cls := hown
  show W p l e { frames := 5, cells := 0, slots := 0, locals := 320 } s m _ below meth c s.heap [] 0 0 _ _
  have P25 : ∀ (w : am_S) (H : Heap) (locs : List Loc) (ls : Array Slot), f_X11_fewest_25 a1 a2 w = some (rr, ww) → am_H G w s H locs → lv_has ls 4 [] → W p l e { frames := 5, cells := 0, slots := 0, locals := 320 } s m [.ref (G.1 + 0), .int a1, .int a2].toArray below meth c H locs 0 0 (MQ below (va_Qi (fun (x : Int32) (u : am_S) => x = rr ∧ u = ww) (am_U G) (am_A G)) [.ref (G.1 + 0), .int a1, .int a2].toArray s 0 0 (am_A G)) (F0 m 25 ls []) := by
    intro w H locs ls hf hH hl
    unfold f_X11_fewest_25 at hf
    refine lv_iconst (v := -1) hx hb dX11_fewest_25 (by decide) ?_
    exact am_reti hx hb hr hlocks hH hf dX11_fewest_26
  have P58 : ∀ (s0 : Int32) (w : am_S) (H : Heap) (locs : List Loc) (ls : Array Slot), f_X11_fewest_58 a1 a2 s0 w = some (rr, ww) → am_H G w s H locs → lv_has ls 4 [] → W p l e { frames := 5, cells := 0, slots := 0, locals := 320 } s m [.ref (G.1 + 0), .int a1, .int a2].toArray below meth c H locs 0 0 (MQ below (va_Qi (fun (x : Int32) (u : am_S) => x = rr ∧ u = ww) (am_U G) (am_A G)) [.ref (G.1 + 0), .int a1, .int a2].toArray s 0 0 (am_A G)) (F0 m 58 ls [.int s0]) := by
    intro s0 w H locs ls hf hH hl
    unfold f_X11_fewest_58 at hf
    exact am_reti hx hb hr hlocks hH hf dX11_fewest_58
  refine am_enter (lv := [(0, .ref (G.1 + 0)), (1, .int a1), (2, .int a2)]) (Nat.le_of_ble_eq_true rfl) rfl (fun ls hl => ?_)
  unfold f_X11_fewest at hf
  refine am_start hH (fun H locs hH => ?_)
  refine lv_aload_n hx hb dX11_fewest_0 rfl (lv_at hl 0 rfl) ?_
  obtain ⟨r_20, w_18, hq_19, hf⟩ := am_b2_some hf
  refine am_calli (r := r_20) (w' := w_18) (am_runV (n := 0) (As := []) (rest := []) ⟨hx, hb, hml, hown, hts⟩ hK hE hH (k_X11_noField hq_19) (am_gV am_q625 am_q627 am_qs11 am_q1 am_q628) (am_o11 (p := 0) (by decide +kernel)) rfl ⟨rfl, rfl⟩ (by decide +kernel) ⟨Nat.le_of_ble_eq_true rfl, Nat.le_of_ble_eq_true rfl⟩ rfl hl.1 rfl (Nat.le_of_ble_eq_true rfl) ⟨Nat.zero_le _, Nat.zero_le _⟩ dX11_fewest_1) hH (fun H locs hH => ?_)
  refine lv_if_ne (tgt := 25) hx hb dX11_fewest_4 (by decide) (fun hc_21 => ?_) (fun hc_21 => ?_)
  · have hf := (if_neg hc_21).symm.trans hf
    exact P25 w_18 H locs ls hf hH (lv_sub hl [] rfl)
  · have hf := (if_pos hc_21).symm.trans hf
    refine lv_iload_n hx hb dX11_fewest_7 rfl (lv_at hl 1 rfl) ?_
    refine lv_if_lt (tgt := 25) hx hb dX11_fewest_8 (by decide) (fun hc_22 => ?_) (fun hc_22 => ?_)
    · have hf := (if_pos hc_22).symm.trans hf
      exact P25 w_18 H locs ls hf hH (lv_sub hl [] rfl)
    · have hf := (if_neg hc_22).symm.trans hf
      refine lv_iload_n hx hb dX11_fewest_11 rfl (lv_at hl 1 rfl) ?_
      refine lv_iconst (v := 1) hx hb dX11_fewest_12 (by decide) ?_
      refine lv_icmp_gt (tgt := 25) hx hb dX11_fewest_13 (by decide) (fun hc_23 => ?_) (fun hc_23 => ?_)
      · have hf := (if_pos hc_23).symm.trans hf
        exact P25 w_18 H locs ls hf hH (lv_sub hl [] rfl)
      · have hf := (if_neg hc_23).symm.trans hf
        refine lv_iload_n hx hb dX11_fewest_16 rfl (lv_at hl 2 rfl) ?_
        refine lv_if_lt (tgt := 25) hx hb dX11_fewest_17 (by decide) (fun hc_24 => ?_) (fun hc_24 => ?_)
        · have hf := (if_pos hc_24).symm.trans hf
          exact P25 w_18 H locs ls hf hH (lv_sub hl [] rfl)
        · have hf := (if_neg hc_24).symm.trans hf
          refine lv_iload_n hx hb dX11_fewest_20 rfl (lv_at hl 2 rfl) ?_
          refine lv_iconst (v := 1) hx hb dX11_fewest_21 (by decide) ?_
          refine lv_icmp_le (tgt := 27) hx hb dX11_fewest_22 (by decide) (fun hc_25 => ?_) (fun hc_25 => ?_)
          · have hf := (if_pos hc_25).symm.trans hf
            refine lv_aload_n hx hb dX11_fewest_27 rfl (lv_at hl 0 rfl) ?_
            refine am_get hx hb hts hK hown hH (am_o11 (p := 0) (by decide +kernel)) rfl am_inX11 13 (by decide) am_q344 (v := .ref (G.1 + 250)) rfl dX11_fewest_28 ?_
            refine lv_aload_n hx hb dX11_fewest_31 rfl (lv_at hl 0 rfl) ?_
            refine am_get hx hb hts hK hown hH (am_o11 (p := 0) (by decide +kernel)) rfl am_inX11 5 (by decide) am_q336 (v := .ref (G.1 + 23)) rfl dX11_fewest_32 ?_
            obtain ⟨w_26, hq_27, hf⟩ := am_b1_some hf
            refine am_callv (w' := w_26) (am_runV (n := 1) (As := [.ref (G.1 + 23)]) (rest := []) ⟨hx, hb, hml, hown, hts⟩ hK hE hH (k_X7_lookAt (by decide +kernel) hq_27) (am_gV am_q670 am_q671 am_q672 am_q9 am_q673) (am_o7 (p := 250) (by decide +kernel)) rfl ⟨rfl, rfl⟩ (by decide +kernel) ⟨Nat.le_of_ble_eq_true rfl, Nat.le_of_ble_eq_true rfl⟩ rfl hl.1 rfl (Nat.le_of_ble_eq_true rfl) ⟨Nat.zero_le _, Nat.zero_le _⟩ dX11_fewest_35) hH (fun H locs hH => ?_)
            refine lv_aload_n hx hb dX11_fewest_38 rfl (lv_at hl 0 rfl) ?_
            refine am_get hx hb hts hK hown hH (am_o11 (p := 0) (by decide +kernel)) rfl am_inX11 15 (by decide) am_q346 (v := .ref (G.1 + 257)) rfl dX11_fewest_39 ?_
            obtain ⟨r_30, w_28, hq_29, hf⟩ := am_b2_some hf
            refine am_calli (r := r_30) (w' := w_28) (am_runV (n := 0) (As := []) (rest := []) ⟨hx, hb, hml, hown, hts⟩ hK hE hH (k_X6_fewestHelpers hq_29) (am_gV am_q969 am_q970 am_q971 am_q11 am_q972) (am_o6 (p := 257) (by decide +kernel)) rfl ⟨rfl, rfl⟩ (by decide +kernel) ⟨Nat.le_of_ble_eq_true rfl, Nat.le_of_ble_eq_true rfl⟩ rfl hl.1 rfl (Nat.le_of_ble_eq_true rfl) ⟨Nat.zero_le _, Nat.zero_le _⟩ dX11_fewest_42) hH (fun H locs hH => ?_)
            refine lv_istore_n (lv' := [(3, .int r_30), (0, .ref (G.1 + 0)), (1, .int a1), (2, .int a2)]) hx hb dX11_fewest_45 rfl hl (by decide) rfl (fun ls hl => ?_)
            refine lv_iload_n hx hb dX11_fewest_46 rfl (lv_at hl 3 rfl) ?_
            refine lv_if_ne (tgt := 57) hx hb dX11_fewest_47 (by decide) (fun hc_31 => ?_) (fun hc_31 => ?_)
            · have hf := (if_neg hc_31).symm.trans hf
              refine lv_iload_n hx hb dX11_fewest_57 rfl (lv_at hl 0 rfl) ?_
              exact P58 r_30 w_28 H locs ls hf hH (lv_sub hl [] rfl)
            · have hf := (if_pos hc_31).symm.trans hf
              refine lv_iload_n hx hb dX11_fewest_50 rfl (lv_at hl 0 rfl) ?_
              obtain ⟨r_34, w_32, hq_33, hf⟩ := am_b2_some hf
              refine am_calli (r := r_34) (w' := w_32) (am_runS (n := 1) (As := [.int r_30]) (rest := []) ⟨hx, hb, hml, hown, hts⟩ hK hE hH (k_J6_bitCount_0f7a4 hq_33) (am_gS am_q715 am_q716 am_q23 am_q717) ⟨rfl, rfl⟩ (by decide +kernel) ⟨Nat.le_of_ble_eq_true rfl, Nat.le_of_ble_eq_true rfl⟩ rfl hl.1 rfl (Nat.le_of_ble_eq_true rfl) ⟨Nat.zero_le _, Nat.zero_le _⟩ dX11_fewest_51) hH (fun H locs hH => ?_)
              refine lv_goto (tgt := 58) hx hb dX11_fewest_54 (by decide) ?_
              exact P58 r_34 w_32 H locs ls hf hH (lv_sub hl [] rfl)
          · have hf := (if_neg hc_25).symm.trans hf
            exact P25 w_18 H locs ls hf hH (lv_sub hl [] rfl)

def f_X11_file (a1 : Int32) (a2 : Int32) (w : am_S) : Option (Int32 × am_S) :=
  am_b2 (f_X11_act (7 : Int32) a1 a2 (0 : Int64) w) fun r_6 w_4 => some (r_6, w_4)
set_option maxRecDepth 100000 in
set_option maxHeartbeats 4000000 in
theorem k_X11_file {G : am_G} {l : Launch} {a1 : Int32} {a2 : Int32}  {w : am_S} {rr : Int32} {ww : am_S} (hf : f_X11_file a1 a2 w = some (rr, ww)) : am_Mi G l yX11_file (Cond.code yX11_file cX11_file 3 (some .int) :: am_T) { frames := 7, cells := 0, slots := 0, locals := 448 } [.ref (G.1 + 0), .int a1, .int a2] w rr ww := by
  refine Met.ofW (cc := cX11_file) (maxL := 3) (ret := (some .int)) (by decide) rfl ?_
  intro p e s m args below meth c s₁ B hml hv
  obtain ⟨rfl, hx, hb, hr, hts, hown, hlocks, hK, hE, hH⟩ := am_begin B hv
  have hown : s.vm.findClass RX11 = some m.cls := hown
  show W p l e { frames := 7, cells := 0, slots := 0, locals := 448 } s m _ below meth c s.heap [] 0 0 _ _
  refine am_enter (lv := [(0, .ref (G.1 + 0)), (1, .int a1), (2, .int a2)]) (Nat.le_of_ble_eq_true rfl) rfl (fun ls hl => ?_)
  unfold f_X11_file at hf
  refine am_start hH (fun H locs hH => ?_)
  refine lv_aload_n hx hb dX11_file_0 rfl (lv_at hl 0 rfl) ?_
  refine lv_bipush (v := 7) hx hb dX11_file_1 (by decide) ?_
  refine lv_iload_n hx hb dX11_file_3 rfl (lv_at hl 1 rfl) ?_
  refine lv_iload_n hx hb dX11_file_4 rfl (lv_at hl 2 rfl) ?_
  refine lv_lconst (v := 0) hx hb dX11_file_5 (by decide) ?_
  obtain ⟨r_6, w_4, hq_5, hf⟩ := am_b2_some hf
  refine am_calli (r := r_6) (w' := w_4) (am_runV (n := 4) (As := [.int (7 : Int32), .int a1, .int a2, .long (0 : Int64)]) (rest := []) ⟨hx, hb, hml, hown, hts⟩ hK hE hH (k_X11_act hq_5) (am_gV am_q725 am_q727 am_qs16 am_q1 am_q728) (am_o11 (p := 0) (by decide +kernel)) rfl ⟨rfl, rfl⟩ (by decide +kernel) ⟨Nat.le_of_ble_eq_true rfl, Nat.le_of_ble_eq_true rfl⟩ rfl hl.1 rfl (Nat.le_of_ble_eq_true rfl) ⟨Nat.zero_le _, Nat.zero_le _⟩ dX11_file_6) hH (fun H locs hH => ?_)
  exact am_reti hx hb hr hlocks hH hf dX11_file_9

def f_X11_forget (a1 : Int32) (w : am_S) : Option (Int32 × am_S) :=
  am_b2 (f_X11_act (3 : Int32) a1 (-1 : Int32) (0 : Int64) w) fun r_6 w_4 => some (r_6, w_4)
set_option maxRecDepth 100000 in
set_option maxHeartbeats 4000000 in
theorem k_X11_forget {G : am_G} {l : Launch} {a1 : Int32}  {w : am_S} {rr : Int32} {ww : am_S} (hf : f_X11_forget a1 w = some (rr, ww)) : am_Mi G l yX11_forget (Cond.code yX11_forget cX11_forget 2 (some .int) :: am_T) { frames := 7, cells := 0, slots := 0, locals := 448 } [.ref (G.1 + 0), .int a1] w rr ww := by
  refine Met.ofW (cc := cX11_forget) (maxL := 2) (ret := (some .int)) (by decide) rfl ?_
  intro p e s m args below meth c s₁ B hml hv
  obtain ⟨rfl, hx, hb, hr, hts, hown, hlocks, hK, hE, hH⟩ := am_begin B hv
  have hown : s.vm.findClass RX11 = some m.cls := hown
  show W p l e { frames := 7, cells := 0, slots := 0, locals := 448 } s m _ below meth c s.heap [] 0 0 _ _
  refine am_enter (lv := [(0, .ref (G.1 + 0)), (1, .int a1)]) (Nat.le_of_ble_eq_true rfl) rfl (fun ls hl => ?_)
  unfold f_X11_forget at hf
  refine am_start hH (fun H locs hH => ?_)
  refine lv_aload_n hx hb dX11_forget_0 rfl (lv_at hl 0 rfl) ?_
  refine lv_iconst (v := 3) hx hb dX11_forget_1 (by decide) ?_
  refine lv_iload_n hx hb dX11_forget_2 rfl (lv_at hl 1 rfl) ?_
  refine lv_iconst (v := -1) hx hb dX11_forget_3 (by decide) ?_
  refine lv_lconst (v := 0) hx hb dX11_forget_4 (by decide) ?_
  obtain ⟨r_6, w_4, hq_5, hf⟩ := am_b2_some hf
  refine am_calli (r := r_6) (w' := w_4) (am_runV (n := 4) (As := [.int (3 : Int32), .int a1, .int (-1 : Int32), .long (0 : Int64)]) (rest := []) ⟨hx, hb, hml, hown, hts⟩ hK hE hH (k_X11_act hq_5) (am_gV am_q725 am_q727 am_qs16 am_q1 am_q728) (am_o11 (p := 0) (by decide +kernel)) rfl ⟨rfl, rfl⟩ (by decide +kernel) ⟨Nat.le_of_ble_eq_true rfl, Nat.le_of_ble_eq_true rfl⟩ rfl hl.1 rfl (Nat.le_of_ble_eq_true rfl) ⟨Nat.zero_le _, Nat.zero_le _⟩ dX11_forget_5) hH (fun H locs hH => ?_)
  exact am_reti hx hb hr hlocks hH hf dX11_forget_8

def f_X11_noFrame_27 (a1 : Int32) (s0 : Int32) (w : am_S) : Option (Int32 × am_S) :=
  am_nar .boolean s0 (some (s0, w))
def f_X11_noFrame_22 (a1 : Int32) (w : am_S) : Option (Int32 × am_S) :=
  f_X11_noFrame_27 a1 (1 : Int32) w
def f_X11_noFrame (a1 : Int32) (w : am_S) : Option (Int32 × am_S) :=
  am_b2 (f_X11_noField w) fun r_10 w_8 => if r_10 = 0 then (if a1 < 0 then (f_X11_noFrame_22 a1 w_8) else (if a1 < (w_8.1 11 8) then (f_X11_noFrame_27 a1 (0 : Int32) w_8) else (f_X11_noFrame_22 a1 w_8))) else (f_X11_noFrame_22 a1 w_8)
set_option maxRecDepth 100000 in
set_option maxHeartbeats 4000000 in
theorem k_X11_noFrame {G : am_G} {l : Launch} {a1 : Int32}  {w : am_S} {rr : Int32} {ww : am_S} (hf : f_X11_noFrame a1 w = some (rr, ww)) : am_Mi G l yX11_noFrame (Cond.code yX11_noFrame cX11_noFrame 2 (some .boolean) :: am_T) { frames := 1, cells := 0, slots := 0, locals := 64 } [.ref (G.1 + 0), .int a1] w rr ww := by
  refine Met.ofW (cc := cX11_noFrame) (maxL := 2) (ret := (some .boolean)) (by decide) rfl ?_
  intro p e s m args below meth c s₁ B hml hv
  obtain ⟨rfl, hx, hb, hr, hts, hown, hlocks, hK, hE, hH⟩ := am_begin B hv
  have hown : s.vm.findClass RX11 = some m.cls := hown
  show W p l e { frames := 1, cells := 0, slots := 0, locals := 64 } s m _ below meth c s.heap [] 0 0 _ _
  have P27 : ∀ (s0 : Int32) (w : am_S) (H : Heap) (locs : List Loc) (ls : Array Slot), f_X11_noFrame_27 a1 s0 w = some (rr, ww) → am_H G w s H locs → lv_has ls 2 [] → W p l e { frames := 1, cells := 0, slots := 0, locals := 64 } s m [.ref (G.1 + 0), .int a1].toArray below meth c H locs 0 0 (MQ below (va_Qi (fun (x : Int32) (u : am_S) => x = rr ∧ u = ww) (am_U G) (am_A G)) [.ref (G.1 + 0), .int a1].toArray s 0 0 (am_A G)) (F0 m 27 ls [.int s0]) := by
    intro s0 w H locs ls hf hH hl
    unfold f_X11_noFrame_27 at hf
    obtain ⟨hr_7, hf⟩ := am_nar_some hf
    exact am_retz hx hb hr hr_7.1 hlocks hH hf dX11_noFrame_27
  have P22 : ∀ (w : am_S) (H : Heap) (locs : List Loc) (ls : Array Slot), f_X11_noFrame_22 a1 w = some (rr, ww) → am_H G w s H locs → lv_has ls 2 [] → W p l e { frames := 1, cells := 0, slots := 0, locals := 64 } s m [.ref (G.1 + 0), .int a1].toArray below meth c H locs 0 0 (MQ below (va_Qi (fun (x : Int32) (u : am_S) => x = rr ∧ u = ww) (am_U G) (am_A G)) [.ref (G.1 + 0), .int a1].toArray s 0 0 (am_A G)) (F0 m 22 ls []) := by
    intro w H locs ls hf hH hl
    unfold f_X11_noFrame_22 at hf
    refine lv_iconst (v := 1) hx hb dX11_noFrame_22 (by decide) ?_
    refine lv_goto (tgt := 27) hx hb dX11_noFrame_23 (by decide) ?_
    exact P27 (1 : Int32) w H locs ls hf hH (lv_sub hl [] rfl)
  refine am_enter (lv := [(0, .ref (G.1 + 0)), (1, .int a1)]) (Nat.le_of_ble_eq_true rfl) rfl (fun ls hl => ?_)
  unfold f_X11_noFrame at hf
  refine am_start hH (fun H locs hH => ?_)
  refine lv_aload_n hx hb dX11_noFrame_0 rfl (lv_at hl 0 rfl) ?_
  obtain ⟨r_10, w_8, hq_9, hf⟩ := am_b2_some hf
  refine am_calli (r := r_10) (w' := w_8) (am_runV (n := 0) (As := []) (rest := []) ⟨hx, hb, hml, hown, hts⟩ hK hE hH (k_X11_noField hq_9) (am_gV am_q625 am_q627 am_qs11 am_q1 am_q628) (am_o11 (p := 0) (by decide +kernel)) rfl ⟨rfl, rfl⟩ (by decide +kernel) ⟨Nat.le_of_ble_eq_true rfl, Nat.le_of_ble_eq_true rfl⟩ rfl hl.1 rfl (Nat.le_of_ble_eq_true rfl) ⟨Nat.zero_le _, Nat.zero_le _⟩ dX11_noFrame_1) hH (fun H locs hH => ?_)
  refine lv_if_ne (tgt := 22) hx hb dX11_noFrame_4 (by decide) (fun hc_11 => ?_) (fun hc_11 => ?_)
  · have hf := (if_neg hc_11).symm.trans hf
    exact P22 w_8 H locs ls hf hH (lv_sub hl [] rfl)
  · have hf := (if_pos hc_11).symm.trans hf
    refine lv_iload_n hx hb dX11_noFrame_7 rfl (lv_at hl 1 rfl) ?_
    refine lv_if_lt (tgt := 22) hx hb dX11_noFrame_8 (by decide) (fun hc_12 => ?_) (fun hc_12 => ?_)
    · have hf := (if_pos hc_12).symm.trans hf
      exact P22 w_8 H locs ls hf hH (lv_sub hl [] rfl)
    · have hf := (if_neg hc_12).symm.trans hf
      refine lv_iload_n hx hb dX11_noFrame_11 rfl (lv_at hl 1 rfl) ?_
      refine lv_aload_n hx hb dX11_noFrame_12 rfl (lv_at hl 0 rfl) ?_
      refine am_get hx hb hts hK hown hH (am_o11 (p := 0) (by decide +kernel)) rfl am_inX11 2 (by decide) am_q333 (v := .ref (G.1 + 11)) rfl dX11_noFrame_13 ?_
      refine am_get hx hb hts hK hown hH (am_o1 (p := 11) (by decide +kernel)) rfl am_inX1 8 (by decide) am_q95 (v := .int (w_8.1 11 8)) rfl dX11_noFrame_16 ?_
      refine lv_icmp_lt (tgt := 26) hx hb dX11_noFrame_19 (by decide) (fun hc_13 => ?_) (fun hc_13 => ?_)
      · have hf := (if_pos hc_13).symm.trans hf
        refine lv_iconst (v := 0) hx hb dX11_noFrame_26 (by decide) ?_
        exact P27 (0 : Int32) w_8 H locs ls hf hH (lv_sub hl [] rfl)
      · have hf := (if_neg hc_13).symm.trans hf
        exact P22 w_8 H locs ls hf hH (lv_sub hl [] rfl)

def f_X1_membersOf_30 (o0 : Nat) (a1 : Int32) (x3 : Int32) (s0 : Int32) (s1 : Int32) (w : am_S) : Option ((Int32 × am_S) ⊕ (Int32 × Int32 × am_S)) :=
  am_v (s1 ||| s0) fun (x2_6 : Int32) => am_v (x3 + (1 : Int32)) fun (x3_7 : Int32) => some (.inr (x2_6, x3_7, w))
def f_X1_membersOf_4b (o0 : Nat) (a1 : Int32) (x2 : Int32) (x3 : Int32) (w : am_S) : Option ((Int32 × am_S) ⊕ (Int32 × Int32 × am_S)) :=
  if (w.1 o0 11) ≤ x3 then (am_x (some (x2, w))) else (am_chk x3 10 (if (w.1 (o0 + 4) x3.toNatClampNeg) = a1 then (f_X1_membersOf_30 o0 a1 x3 ((1 : Int32) <<< (x3 &&& 31)) x2 w) else (f_X1_membersOf_30 o0 a1 x3 (0 : Int32) x2 w)))
def f_X1_membersOf_4 (o0 : Nat) (a1 : Int32) (x2 : Int32) (x3 : Int32) (w : am_S) : Option (Int32 × am_S) :=
  am_loop (fun (st : (Int32 × Int32 × am_S)) => f_X1_membersOf_4b o0 a1 st.1 st.2.1 st.2.2) am_fuel (x2, x3, w)
def f_X1_membersOf (o0 : Nat) (a1 : Int32) (w : am_S) : Option (Int32 × am_S) :=
  f_X1_membersOf_4 o0 a1 (0 : Int32) (0 : Int32) w
set_option maxRecDepth 100000 in
set_option maxHeartbeats 4000000 in
theorem k_X1_membersOf {G : am_G} {l : Launch} {o0 : Nat} {a1 : Int32} (ho0 : am_f1 o0) {w : am_S} {rr : Int32} {ww : am_S} (hf : f_X1_membersOf o0 a1 w = some (rr, ww)) : am_Mi G l yX1_membersOf (Cond.code yX1_membersOf cX1_membersOf 4 (some .int) :: am_T) { frames := 0, cells := 0, slots := 0, locals := 0 } [.ref (G.1 + o0), .int a1] w rr ww := by
  refine Met.ofW (cc := cX1_membersOf) (maxL := 4) (ret := (some .int)) (by decide) rfl ?_
  intro p e s m args below meth c s₁ B hml hv
  obtain ⟨rfl, hx, hb, hr, hts, hown, hlocks, hK, hE, hH⟩ := am_begin B hv
  have hown : s.vm.findClass RX1 = some m.cls := hown
  show W p l e { frames := 0, cells := 0, slots := 0, locals := 0 } s m _ below meth c s.heap [] 0 0 _ _
  have P4 : ∀ (n1 : Nat) (x2 : Int32) (x3 : Int32) (w : am_S) (H : Heap) (locs : List Loc) (ls : Array Slot), am_loop (fun (st : (Int32 × Int32 × am_S)) => f_X1_membersOf_4b o0 a1 st.1 st.2.1 st.2.2) n1 (x2, x3, w) = some (rr, ww) → am_H G w s H locs → lv_has ls 4 [(0, .ref (G.1 + o0)), (1, .int a1), (2, .int x2), (3, .int x3)] → W p l e { frames := 0, cells := 0, slots := 0, locals := 0 } s m [.ref (G.1 + o0), .int a1].toArray below meth c H locs 0 0 (MQ below (va_Qi (fun (x : Int32) (u : am_S) => x = rr ∧ u = ww) (am_U G) (am_A G)) [.ref (G.1 + o0), .int a1].toArray s 0 0 (am_A G)) (F0 m 4 ls []) := by
    intro n1
    induction n1 with
    | zero =>
      intro x2 x3 w H locs ls hf hH hl
      exact (am_loop_zero hf).elim
    | succ n1 ih1 =>
      intro x2 x3 w H locs ls hf hH hl
      obtain ⟨z1, hf, hk1⟩ := am_loop_succ hf
      have hf : f_X1_membersOf_4b o0 a1 x2 x3 w = some z1 := hf
      have P30 : ∀ (x3 : Int32) (s0 : Int32) (s1 : Int32) (w : am_S) (z1 : ((Int32 × am_S) ⊕ (Int32 × Int32 × am_S))) (H : Heap) (locs : List Loc) (ls : Array Slot), f_X1_membersOf_30 o0 a1 x3 s0 s1 w = some z1 → am_lk (fun (st : (Int32 × Int32 × am_S)) => f_X1_membersOf_4b o0 a1 st.1 st.2.1 st.2.2) n1 (rr, ww) z1 → am_H G w s H locs → lv_has ls 4 [(0, .ref (G.1 + o0)), (1, .int a1), (3, .int x3)] → W p l e { frames := 0, cells := 0, slots := 0, locals := 0 } s m [.ref (G.1 + o0), .int a1].toArray below meth c H locs 0 0 (MQ below (va_Qi (fun (x : Int32) (u : am_S) => x = rr ∧ u = ww) (am_U G) (am_A G)) [.ref (G.1 + o0), .int a1].toArray s 0 0 (am_A G)) (F0 m 30 ls [.int s0, .int s1]) := by
        intro x3 s0 s1 w z1 H locs ls hf hk1 hH hl
        unfold f_X1_membersOf_30 at hf
        refine lv_ior hx hb dX1_membersOf_30 ?_
        obtain ⟨x2_6, hx2_6, hf⟩ := am_v_some hf
        refine am_topi hx2_6 ?_
        refine lv_istore_n (lv' := [(2, .int x2_6), (0, .ref (G.1 + o0)), (1, .int a1), (3, .int x3)]) hx hb dX1_membersOf_31 rfl hl (by decide) rfl (fun ls hl => ?_)
        obtain ⟨x3_7, hx3_7, hf⟩ := am_v_some hf
        refine lv_iinc (v := x3_7) (lv' := [(3, .int x3_7), (2, .int x2_6), (0, .ref (G.1 + o0)), (1, .int a1)]) hx hb dX1_membersOf_32 hl (k := 3) rfl (by rw [hx3_7]; rfl) (by decide) rfl (fun ls hl => ?_)
        refine lv_goto (tgt := 4) hx hb dX1_membersOf_35 (by decide) ?_
        obtain rfl := Option.some.inj hf
        exact ih1 x2_6 x3_7 w H locs ls hk1 hH (lv_sub hl [2, 3, 1, 0] rfl)
      unfold f_X1_membersOf_4b at hf
      refine lv_iload_n hx hb dX1_membersOf_4 rfl (lv_at hl 3 rfl) ?_
      refine lv_aload_n hx hb dX1_membersOf_5 rfl (lv_at hl 0 rfl) ?_
      refine am_get hx hb hts hK hown hH (am_o1 ho0.1) rfl am_inX1 11 (by decide) am_q104 (v := .int (w.1 o0 11)) rfl dX1_membersOf_6 ?_
      refine lv_icmp_ge (tgt := 38) hx hb dX1_membersOf_9 (by decide) (fun hc_8 => ?_) (fun hc_8 => ?_)
      · have hf := (if_pos hc_8).symm.trans hf
        obtain ⟨y_9, hf, hzy_9⟩ := am_x_some hf
        rw [hzy_9] at hk1
        have hf := hf.trans (congrArg some (show y_9 = (rr, ww) from hk1))
        refine lv_iload_n hx hb dX1_membersOf_38 rfl (lv_at hl 2 rfl) ?_
        exact am_reti hx hb hr hlocks hH hf dX1_membersOf_39
      · have hf := (if_neg hc_8).symm.trans hf
        refine lv_iload_n hx hb dX1_membersOf_12 rfl (lv_at hl 2 rfl) ?_
        refine lv_aload_n hx hb dX1_membersOf_13 rfl (lv_at hl 0 rfl) ?_
        refine am_get hx hb hts hK hown hH (am_o1 ho0.1) rfl am_inX1 3 (by decide) am_q78 (v := .ref (G.1 + (o0 + 4))) rfl dX1_membersOf_14 ?_
        refine lv_iload_n hx hb dX1_membersOf_17 rfl (lv_at hl 3 rfl) ?_
        obtain ⟨hi_10, hf⟩ := am_chk_some hf
        refine am_iald hx hb hK hH (am_ai_of (N := 10) ho0.2.2.2.2.1) hi_10 dX1_membersOf_18 ?_
        refine lv_iload_n hx hb dX1_membersOf_19 rfl (lv_at hl 1 rfl) ?_
        refine lv_icmp_ne (tgt := 29) hx hb dX1_membersOf_20 (by decide) (fun hc_11 => ?_) (fun hc_11 => ?_)
        · have hf := (if_neg hc_11).symm.trans hf
          refine lv_iconst (v := 0) hx hb dX1_membersOf_29 (by decide) ?_
          exact P30 x3 (0 : Int32) x2 w z1 H locs ls hf hk1 hH (lv_sub hl [0, 1, 3] rfl)
        · have hf := (if_pos hc_11).symm.trans hf
          refine lv_iconst (v := 1) hx hb dX1_membersOf_23 (by decide) ?_
          refine lv_iload_n hx hb dX1_membersOf_24 rfl (lv_at hl 3 rfl) ?_
          refine lv_ishl hx hb dX1_membersOf_25 ?_
          refine lv_goto (tgt := 30) hx hb dX1_membersOf_26 (by decide) ?_
          exact P30 x3 ((1 : Int32) <<< (x3 &&& 31)) x2 w z1 H locs ls hf hk1 hH (lv_sub hl [0, 1, 3] rfl)
  refine am_enter (lv := [(0, .ref (G.1 + o0)), (1, .int a1)]) (Nat.le_of_ble_eq_true rfl) rfl (fun ls hl => ?_)
  unfold f_X1_membersOf at hf
  refine am_start hH (fun H locs hH => ?_)
  refine lv_iconst (v := 0) hx hb dX1_membersOf_0 (by decide) ?_
  refine lv_istore_n (lv' := [(2, .int (0 : Int32)), (0, .ref (G.1 + o0)), (1, .int a1)]) hx hb dX1_membersOf_1 rfl hl (by decide) rfl (fun ls hl => ?_)
  refine lv_iconst (v := 0) hx hb dX1_membersOf_2 (by decide) ?_
  refine lv_istore_n (lv' := [(3, .int (0 : Int32)), (2, .int (0 : Int32)), (0, .ref (G.1 + o0)), (1, .int a1)]) hx hb dX1_membersOf_3 rfl hl (by decide) rfl (fun ls hl => ?_)
  exact P4 am_fuel (0 : Int32) (0 : Int32) w H locs ls hf hH (lv_sub hl [2, 3, 1, 0] rfl)

def f_X6_copiesIn_4b (a1 : Int32) (x2 : Int32) (x3 : Int32) (w : am_S) : Option ((Int32 × am_S) ⊕ (Int32 × Int32 × am_S)) :=
  if (w.1 11 7) ≤ x3 then (am_x (some (x2, w))) else (am_chk ((a1 * (w.1 11 7)) + x3) 48 (am_b2 (f_J6_bitCount_0f7a4 (w.1 254 ((a1 * (w.1 11 7)) + x3).toNatClampNeg) w) fun r_13 w_11 => am_v (x2 + r_13) fun (x2_14 : Int32) => am_v (x3 + (1 : Int32)) fun (x3_15 : Int32) => some (.inr (x2_14, x3_15, w_11))))
def f_X6_copiesIn_4 (a1 : Int32) (x2 : Int32) (x3 : Int32) (w : am_S) : Option (Int32 × am_S) :=
  am_loop (fun (st : (Int32 × Int32 × am_S)) => f_X6_copiesIn_4b a1 st.1 st.2.1 st.2.2) am_fuel (x2, x3, w)
def f_X6_copiesIn (a1 : Int32) (w : am_S) : Option (Int32 × am_S) :=
  f_X6_copiesIn_4 a1 (0 : Int32) (0 : Int32) w
set_option maxRecDepth 100000 in
set_option maxHeartbeats 4000000 in
theorem k_X6_copiesIn {G : am_G} {l : Launch} {a1 : Int32}  {w : am_S} {rr : Int32} {ww : am_S} (hf : f_X6_copiesIn a1 w = some (rr, ww)) : am_Mi G l yX6_copiesIn (Cond.code yX6_copiesIn cX6_copiesIn 4 (some .int) :: am_T) { frames := 1, cells := 0, slots := 0, locals := 64 } [.ref (G.1 + 257), .int a1] w rr ww := by
  refine Met.ofW (cc := cX6_copiesIn) (maxL := 4) (ret := (some .int)) (by decide) rfl ?_
  intro p e s m args below meth c s₁ B hml hv
  obtain ⟨rfl, hx, hb, hr, hts, hown, hlocks, hK, hE, hH⟩ := am_begin B hv
  have hown : s.vm.findClass RX6 = some m.cls := hown
  show W p l e { frames := 1, cells := 0, slots := 0, locals := 64 } s m _ below meth c s.heap [] 0 0 _ _
  have P4 : ∀ (n1 : Nat) (x2 : Int32) (x3 : Int32) (w : am_S) (H : Heap) (locs : List Loc) (ls : Array Slot), am_loop (fun (st : (Int32 × Int32 × am_S)) => f_X6_copiesIn_4b a1 st.1 st.2.1 st.2.2) n1 (x2, x3, w) = some (rr, ww) → am_H G w s H locs → lv_has ls 4 [(0, .ref (G.1 + 257)), (1, .int a1), (2, .int x2), (3, .int x3)] → W p l e { frames := 1, cells := 0, slots := 0, locals := 64 } s m [.ref (G.1 + 257), .int a1].toArray below meth c H locs 0 0 (MQ below (va_Qi (fun (x : Int32) (u : am_S) => x = rr ∧ u = ww) (am_U G) (am_A G)) [.ref (G.1 + 257), .int a1].toArray s 0 0 (am_A G)) (F0 m 4 ls []) := by
    intro n1
    induction n1 with
    | zero =>
      intro x2 x3 w H locs ls hf hH hl
      exact (am_loop_zero hf).elim
    | succ n1 ih1 =>
      intro x2 x3 w H locs ls hf hH hl
      obtain ⟨z1, hf, hk1⟩ := am_loop_succ hf
      have hf : f_X6_copiesIn_4b a1 x2 x3 w = some z1 := hf
      unfold f_X6_copiesIn_4b at hf
      refine lv_iload_n hx hb dX6_copiesIn_4 rfl (lv_at hl 3 rfl) ?_
      refine lv_aload_n hx hb dX6_copiesIn_5 rfl (lv_at hl 0 rfl) ?_
      refine am_get hx hb hts hK hown hH (am_o6 (p := 257) (by decide +kernel)) rfl am_inX6 0 (by decide) am_q314 (v := .ref (G.1 + 11)) rfl dX6_copiesIn_6 ?_
      refine am_get hx hb hts hK hown hH (am_o1 (p := 11) (by decide +kernel)) rfl am_inX1 7 (by decide) am_q92 (v := .int (w.1 11 7)) rfl dX6_copiesIn_9 ?_
      refine lv_icmp_ge (tgt := 46) hx hb dX6_copiesIn_12 (by decide) (fun hc_8 => ?_) (fun hc_8 => ?_)
      · have hf := (if_pos hc_8).symm.trans hf
        obtain ⟨y_9, hf, hzy_9⟩ := am_x_some hf
        rw [hzy_9] at hk1
        have hf := hf.trans (congrArg some (show y_9 = (rr, ww) from hk1))
        refine lv_iload_n hx hb dX6_copiesIn_46 rfl (lv_at hl 2 rfl) ?_
        exact am_reti hx hb hr hlocks hH hf dX6_copiesIn_47
      · have hf := (if_neg hc_8).symm.trans hf
        refine lv_iload_n hx hb dX6_copiesIn_15 rfl (lv_at hl 2 rfl) ?_
        refine lv_aload_n hx hb dX6_copiesIn_16 rfl (lv_at hl 0 rfl) ?_
        refine am_get hx hb hts hK hown hH (am_o6 (p := 257) (by decide +kernel)) rfl am_inX6 1 (by decide) am_q315 (v := .ref (G.1 + 250)) rfl dX6_copiesIn_17 ?_
        refine am_get hx hb hts hK hown hH (am_o7 (p := 250) (by decide +kernel)) rfl am_inX7 4 (by decide) am_q266 (v := .ref (G.1 + 254)) rfl dX6_copiesIn_20 ?_
        refine lv_iload_n hx hb dX6_copiesIn_23 rfl (lv_at hl 1 rfl) ?_
        refine lv_aload_n hx hb dX6_copiesIn_24 rfl (lv_at hl 0 rfl) ?_
        refine am_get hx hb hts hK hown hH (am_o6 (p := 257) (by decide +kernel)) rfl am_inX6 0 (by decide) am_q314 (v := .ref (G.1 + 11)) rfl dX6_copiesIn_25 ?_
        refine am_get hx hb hts hK hown hH (am_o1 (p := 11) (by decide +kernel)) rfl am_inX1 7 (by decide) am_q92 (v := .int (w.1 11 7)) rfl dX6_copiesIn_28 ?_
        refine lv_imul hx hb dX6_copiesIn_31 ?_
        refine lv_iload_n hx hb dX6_copiesIn_32 rfl (lv_at hl 3 rfl) ?_
        refine lv_iadd hx hb dX6_copiesIn_33 ?_
        obtain ⟨hi_10, hf⟩ := am_chk_some hf
        refine am_iald hx hb hK hH (am_ai_of (N := 48) (by decide +kernel)) hi_10 dX6_copiesIn_34 ?_
        obtain ⟨r_13, w_11, hq_12, hf⟩ := am_b2_some hf
        refine am_calli (r := r_13) (w' := w_11) (am_runS (n := 1) (As := [.int (w.1 254 ((a1 * (w.1 11 7)) + x3).toNatClampNeg)]) (rest := [.int x2]) ⟨hx, hb, hml, hown, hts⟩ hK hE hH (k_J6_bitCount_0f7a4 hq_12) (am_gS am_q974 am_q716 am_q23 am_q717) ⟨rfl, rfl⟩ (by decide +kernel) ⟨Nat.le_of_ble_eq_true rfl, Nat.le_of_ble_eq_true rfl⟩ rfl hl.1 rfl (Nat.le_of_ble_eq_true rfl) ⟨Nat.zero_le _, Nat.zero_le _⟩ dX6_copiesIn_35) hH (fun H locs hH => ?_)
        refine lv_iadd hx hb dX6_copiesIn_38 ?_
        obtain ⟨x2_14, hx2_14, hf⟩ := am_v_some hf
        refine am_topi hx2_14 ?_
        refine lv_istore_n (lv' := [(2, .int x2_14), (0, .ref (G.1 + 257)), (1, .int a1), (3, .int x3)]) hx hb dX6_copiesIn_39 rfl hl (by decide) rfl (fun ls hl => ?_)
        obtain ⟨x3_15, hx3_15, hf⟩ := am_v_some hf
        refine lv_iinc (v := x3_15) (lv' := [(3, .int x3_15), (2, .int x2_14), (0, .ref (G.1 + 257)), (1, .int a1)]) hx hb dX6_copiesIn_40 hl (k := 3) rfl (by rw [hx3_15]; rfl) (by decide) rfl (fun ls hl => ?_)
        refine lv_goto (tgt := 4) hx hb dX6_copiesIn_43 (by decide) ?_
        obtain rfl := Option.some.inj hf
        exact ih1 x2_14 x3_15 w_11 H locs ls hk1 hH (lv_sub hl [2, 3, 1, 0] rfl)
  refine am_enter (lv := [(0, .ref (G.1 + 257)), (1, .int a1)]) (Nat.le_of_ble_eq_true rfl) rfl (fun ls hl => ?_)
  unfold f_X6_copiesIn at hf
  refine am_start hH (fun H locs hH => ?_)
  refine lv_iconst (v := 0) hx hb dX6_copiesIn_0 (by decide) ?_
  refine lv_istore_n (lv' := [(2, .int (0 : Int32)), (0, .ref (G.1 + 257)), (1, .int a1)]) hx hb dX6_copiesIn_1 rfl hl (by decide) rfl (fun ls hl => ?_)
  refine lv_iconst (v := 0) hx hb dX6_copiesIn_2 (by decide) ?_
  refine lv_istore_n (lv' := [(3, .int (0 : Int32)), (2, .int (0 : Int32)), (0, .ref (G.1 + 257)), (1, .int a1)]) hx hb dX6_copiesIn_3 rfl hl (by decide) rfl (fun ls hl => ?_)
  exact P4 am_fuel (0 : Int32) (0 : Int32) w H locs ls hf hH (lv_sub hl [2, 3, 1, 0] rfl)

def f_X6_clearSlotsIn_49 (a1 : Int32) (x3 : Int32) (s0 : Int32) (s1 : Int32) (w : am_S) : Option ((Int32 × am_S) ⊕ (Int32 × Int32 × am_S)) :=
  am_v (s1 + s0) fun (x2_8 : Int32) => am_v (x3 + (1 : Int32)) fun (x3_9 : Int32) => some (.inr (x2_8, x3_9, w))
def f_X6_clearSlotsIn_4b (a1 : Int32) (x2 : Int32) (x3 : Int32) (w : am_S) : Option ((Int32 × am_S) ⊕ (Int32 × Int32 × am_S)) :=
  if (w.1 11 7) ≤ x3 then (am_x (some (x2, w))) else (am_b2 (f_X7_clearIn ((a1 * (w.1 11 7)) + x3) (w.1 250 6) w) fun r_14 w_12 => if r_14 = 0 then (f_X6_clearSlotsIn_49 a1 x3 (0 : Int32) x2 w_12) else (f_X6_clearSlotsIn_49 a1 x3 (1 : Int32) x2 w_12))
def f_X6_clearSlotsIn_4 (a1 : Int32) (x2 : Int32) (x3 : Int32) (w : am_S) : Option (Int32 × am_S) :=
  am_loop (fun (st : (Int32 × Int32 × am_S)) => f_X6_clearSlotsIn_4b a1 st.1 st.2.1 st.2.2) am_fuel (x2, x3, w)
def f_X6_clearSlotsIn (a1 : Int32) (w : am_S) : Option (Int32 × am_S) :=
  f_X6_clearSlotsIn_4 a1 (0 : Int32) (0 : Int32) w
set_option maxRecDepth 100000 in
set_option maxHeartbeats 4000000 in
theorem k_X6_clearSlotsIn {G : am_G} {l : Launch} {a1 : Int32}  {w : am_S} {rr : Int32} {ww : am_S} (hf : f_X6_clearSlotsIn a1 w = some (rr, ww)) : am_Mi G l yX6_clearSlotsIn (Cond.code yX6_clearSlotsIn cX6_clearSlotsIn 4 (some .int) :: am_T) { frames := 2, cells := 0, slots := 0, locals := 128 } [.ref (G.1 + 257), .int a1] w rr ww := by
  refine Met.ofW (cc := cX6_clearSlotsIn) (maxL := 4) (ret := (some .int)) (by decide) rfl ?_
  intro p e s m args below meth c s₁ B hml hv
  obtain ⟨rfl, hx, hb, hr, hts, hown, hlocks, hK, hE, hH⟩ := am_begin B hv
  have hown : s.vm.findClass RX6 = some m.cls := hown
  show W p l e { frames := 2, cells := 0, slots := 0, locals := 128 } s m _ below meth c s.heap [] 0 0 _ _
  have P4 : ∀ (n1 : Nat) (x2 : Int32) (x3 : Int32) (w : am_S) (H : Heap) (locs : List Loc) (ls : Array Slot), am_loop (fun (st : (Int32 × Int32 × am_S)) => f_X6_clearSlotsIn_4b a1 st.1 st.2.1 st.2.2) n1 (x2, x3, w) = some (rr, ww) → am_H G w s H locs → lv_has ls 4 [(0, .ref (G.1 + 257)), (1, .int a1), (2, .int x2), (3, .int x3)] → W p l e { frames := 2, cells := 0, slots := 0, locals := 128 } s m [.ref (G.1 + 257), .int a1].toArray below meth c H locs 0 0 (MQ below (va_Qi (fun (x : Int32) (u : am_S) => x = rr ∧ u = ww) (am_U G) (am_A G)) [.ref (G.1 + 257), .int a1].toArray s 0 0 (am_A G)) (F0 m 4 ls []) := by
    intro n1
    induction n1 with
    | zero =>
      intro x2 x3 w H locs ls hf hH hl
      exact (am_loop_zero hf).elim
    | succ n1 ih1 =>
      intro x2 x3 w H locs ls hf hH hl
      obtain ⟨z1, hf, hk1⟩ := am_loop_succ hf
      have hf : f_X6_clearSlotsIn_4b a1 x2 x3 w = some z1 := hf
      have P49 : ∀ (x3 : Int32) (s0 : Int32) (s1 : Int32) (w : am_S) (z1 : ((Int32 × am_S) ⊕ (Int32 × Int32 × am_S))) (H : Heap) (locs : List Loc) (ls : Array Slot), f_X6_clearSlotsIn_49 a1 x3 s0 s1 w = some z1 → am_lk (fun (st : (Int32 × Int32 × am_S)) => f_X6_clearSlotsIn_4b a1 st.1 st.2.1 st.2.2) n1 (rr, ww) z1 → am_H G w s H locs → lv_has ls 4 [(0, .ref (G.1 + 257)), (1, .int a1), (3, .int x3)] → W p l e { frames := 2, cells := 0, slots := 0, locals := 128 } s m [.ref (G.1 + 257), .int a1].toArray below meth c H locs 0 0 (MQ below (va_Qi (fun (x : Int32) (u : am_S) => x = rr ∧ u = ww) (am_U G) (am_A G)) [.ref (G.1 + 257), .int a1].toArray s 0 0 (am_A G)) (F0 m 49 ls [.int s0, .int s1]) := by
        intro x3 s0 s1 w z1 H locs ls hf hk1 hH hl
        unfold f_X6_clearSlotsIn_49 at hf
        refine lv_iadd hx hb dX6_clearSlotsIn_49 ?_
        obtain ⟨x2_8, hx2_8, hf⟩ := am_v_some hf
        refine am_topi hx2_8 ?_
        refine lv_istore_n (lv' := [(2, .int x2_8), (0, .ref (G.1 + 257)), (1, .int a1), (3, .int x3)]) hx hb dX6_clearSlotsIn_50 rfl hl (by decide) rfl (fun ls hl => ?_)
        obtain ⟨x3_9, hx3_9, hf⟩ := am_v_some hf
        refine lv_iinc (v := x3_9) (lv' := [(3, .int x3_9), (2, .int x2_8), (0, .ref (G.1 + 257)), (1, .int a1)]) hx hb dX6_clearSlotsIn_51 hl (k := 3) rfl (by rw [hx3_9]; rfl) (by decide) rfl (fun ls hl => ?_)
        refine lv_goto (tgt := 4) hx hb dX6_clearSlotsIn_54 (by decide) ?_
        obtain rfl := Option.some.inj hf
        exact ih1 x2_8 x3_9 w H locs ls hk1 hH (lv_sub hl [2, 3, 1, 0] rfl)
      unfold f_X6_clearSlotsIn_4b at hf
      refine lv_iload_n hx hb dX6_clearSlotsIn_4 rfl (lv_at hl 3 rfl) ?_
      refine lv_aload_n hx hb dX6_clearSlotsIn_5 rfl (lv_at hl 0 rfl) ?_
      refine am_get hx hb hts hK hown hH (am_o6 (p := 257) (by decide +kernel)) rfl am_inX6 0 (by decide) am_q314 (v := .ref (G.1 + 11)) rfl dX6_clearSlotsIn_6 ?_
      refine am_get hx hb hts hK hown hH (am_o1 (p := 11) (by decide +kernel)) rfl am_inX1 7 (by decide) am_q92 (v := .int (w.1 11 7)) rfl dX6_clearSlotsIn_9 ?_
      refine lv_icmp_ge (tgt := 57) hx hb dX6_clearSlotsIn_12 (by decide) (fun hc_10 => ?_) (fun hc_10 => ?_)
      · have hf := (if_pos hc_10).symm.trans hf
        obtain ⟨y_11, hf, hzy_11⟩ := am_x_some hf
        rw [hzy_11] at hk1
        have hf := hf.trans (congrArg some (show y_11 = (rr, ww) from hk1))
        refine lv_iload_n hx hb dX6_clearSlotsIn_57 rfl (lv_at hl 2 rfl) ?_
        exact am_reti hx hb hr hlocks hH hf dX6_clearSlotsIn_58
      · have hf := (if_neg hc_10).symm.trans hf
        refine lv_iload_n hx hb dX6_clearSlotsIn_15 rfl (lv_at hl 2 rfl) ?_
        refine lv_aload_n hx hb dX6_clearSlotsIn_16 rfl (lv_at hl 0 rfl) ?_
        refine am_get hx hb hts hK hown hH (am_o6 (p := 257) (by decide +kernel)) rfl am_inX6 1 (by decide) am_q315 (v := .ref (G.1 + 250)) rfl dX6_clearSlotsIn_17 ?_
        refine lv_iload_n hx hb dX6_clearSlotsIn_20 rfl (lv_at hl 1 rfl) ?_
        refine lv_aload_n hx hb dX6_clearSlotsIn_21 rfl (lv_at hl 0 rfl) ?_
        refine am_get hx hb hts hK hown hH (am_o6 (p := 257) (by decide +kernel)) rfl am_inX6 0 (by decide) am_q314 (v := .ref (G.1 + 11)) rfl dX6_clearSlotsIn_22 ?_
        refine am_get hx hb hts hK hown hH (am_o1 (p := 11) (by decide +kernel)) rfl am_inX1 7 (by decide) am_q92 (v := .int (w.1 11 7)) rfl dX6_clearSlotsIn_25 ?_
        refine lv_imul hx hb dX6_clearSlotsIn_28 ?_
        refine lv_iload_n hx hb dX6_clearSlotsIn_29 rfl (lv_at hl 3 rfl) ?_
        refine lv_iadd hx hb dX6_clearSlotsIn_30 ?_
        refine lv_aload_n hx hb dX6_clearSlotsIn_31 rfl (lv_at hl 0 rfl) ?_
        refine am_get hx hb hts hK hown hH (am_o6 (p := 257) (by decide +kernel)) rfl am_inX6 1 (by decide) am_q315 (v := .ref (G.1 + 250)) rfl dX6_clearSlotsIn_32 ?_
        refine am_get hx hb hts hK hown hH (am_o7 (p := 250) (by decide +kernel)) rfl am_inX7 6 (by decide) am_q270 (v := .int (w.1 250 6)) rfl dX6_clearSlotsIn_35 ?_
        obtain ⟨r_14, w_12, hq_13, hf⟩ := am_b2_some hf
        refine am_calli (r := r_14) (w' := w_12) (am_runV (n := 2) (As := [.int ((a1 * (w.1 11 7)) + x3), .int (w.1 250 6)]) (rest := [.int x2]) ⟨hx, hb, hml, hown, hts⟩ hK hE hH (k_X7_clearIn hq_13) (am_gV am_q1009 am_q703 am_q704 am_q9 am_q705) (am_o7 (p := 250) (by decide +kernel)) rfl ⟨rfl, rfl⟩ (by decide +kernel) ⟨Nat.le_of_ble_eq_true rfl, Nat.le_of_ble_eq_true rfl⟩ rfl hl.1 rfl (Nat.le_of_ble_eq_true rfl) ⟨Nat.zero_le _, Nat.zero_le _⟩ dX6_clearSlotsIn_38) hH (fun H locs hH => ?_)
        refine lv_if_eq (tgt := 48) hx hb dX6_clearSlotsIn_41 (by decide) (fun hc_15 => ?_) (fun hc_15 => ?_)
        · have hf := (if_pos hc_15).symm.trans hf
          refine lv_iconst (v := 0) hx hb dX6_clearSlotsIn_48 (by decide) ?_
          exact P49 x3 (0 : Int32) x2 w_12 z1 H locs ls hf hk1 hH (lv_sub hl [0, 1, 3] rfl)
        · have hf := (if_neg hc_15).symm.trans hf
          refine lv_iconst (v := 1) hx hb dX6_clearSlotsIn_44 (by decide) ?_
          refine lv_goto (tgt := 49) hx hb dX6_clearSlotsIn_45 (by decide) ?_
          exact P49 x3 (1 : Int32) x2 w_12 z1 H locs ls hf hk1 hH (lv_sub hl [0, 1, 3] rfl)
  refine am_enter (lv := [(0, .ref (G.1 + 257)), (1, .int a1)]) (Nat.le_of_ble_eq_true rfl) rfl (fun ls hl => ?_)
  unfold f_X6_clearSlotsIn at hf
  refine am_start hH (fun H locs hH => ?_)
  refine lv_iconst (v := 0) hx hb dX6_clearSlotsIn_0 (by decide) ?_
  refine lv_istore_n (lv' := [(2, .int (0 : Int32)), (0, .ref (G.1 + 257)), (1, .int a1)]) hx hb dX6_clearSlotsIn_1 rfl hl (by decide) rfl (fun ls hl => ?_)
  refine lv_iconst (v := 0) hx hb dX6_clearSlotsIn_2 (by decide) ?_
  refine lv_istore_n (lv' := [(3, .int (0 : Int32)), (2, .int (0 : Int32)), (0, .ref (G.1 + 257)), (1, .int a1)]) hx hb dX6_clearSlotsIn_3 rfl hl (by decide) rfl (fun ls hl => ?_)
  exact P4 am_fuel (0 : Int32) (0 : Int32) w H locs ls hf hH (lv_sub hl [2, 3, 1, 0] rfl)

def f_X11_frame_17 (a1 : Int32) (a2 : Int32) (w : am_S) : Option (Int32 × am_S) :=
  some ((-1 : Int32), w)
def f_X11_frame (a1 : Int32) (a2 : Int32) (w : am_S) : Option (Int32 × am_S) :=
  am_b2 (f_X11_noFrame a1 w) fun r_36 w_34 => if r_36 = 0 then (if a2 < 0 then (f_X11_frame_17 a1 a2 w_34) else (if a2 ≤ (4 : Int32) then (am_b1 (f_X7_lookAt 23 w_34) fun w_40 => am_b2 (f_X1_membersOf 11 a1 w_40) fun r_44 w_42 => (if a2 = (0 : Int32) then (am_b2 (f_J6_bitCount_0f7a4 r_44 w_42) fun r_51 w_49 => some (r_51, w_49)) else (if a2 = (1 : Int32) then (am_b2 (f_J6_bitCount_0f7a4 (r_44 &&& ((w_42.1 250 6) ^^^ (-1 : Int32))) w_42) fun r_54 w_52 => some (r_54, w_52)) else (if a2 = (2 : Int32) then (am_b2 (f_X6_copiesIn a1 w_42) fun r_57 w_55 => some (r_57, w_55)) else (if a2 = (3 : Int32) then (am_b2 (f_X6_clearSlotsIn a1 w_42) fun r_60 w_58 => some (r_60, w_58)) else (am_b2 (f_X7_stuckOf (w_42.1 250 6) w_42) fun r_63 w_61 => am_b2 (f_J6_bitCount_0f7a4 (r_44 &&& r_63) w_61) fun r_66 w_64 => some (r_66, w_64))))))) else (f_X11_frame_17 a1 a2 w_34))) else (f_X11_frame_17 a1 a2 w_34)
set_option maxRecDepth 100000 in
set_option maxHeartbeats 4000000 in
theorem k_X11_frame {G : am_G} {l : Launch} {a1 : Int32} {a2 : Int32}  {w : am_S} {rr : Int32} {ww : am_S} (hf : f_X11_frame a1 a2 w = some (rr, ww)) : am_Mi G l yX11_frame (Cond.code yX11_frame cX11_frame 4 (some .int) :: am_T) { frames := 4, cells := 0, slots := 0, locals := 256 } [.ref (G.1 + 0), .int a1, .int a2] w rr ww := by
  refine Met.ofW (cc := cX11_frame) (maxL := 4) (ret := (some .int)) (by decide) rfl ?_
  intro p e s m args below meth c s₁ B hml hv
  obtain ⟨rfl, hx, hb, hr, hts, hown, hlocks, hK, hE, hH⟩ := am_begin B hv
  have hown : s.vm.findClass RX11 = some m.cls := hown
  show W p l e { frames := 4, cells := 0, slots := 0, locals := 256 } s m _ below meth c s.heap [] 0 0 _ _
  have P17 : ∀ (w : am_S) (H : Heap) (locs : List Loc) (ls : Array Slot), f_X11_frame_17 a1 a2 w = some (rr, ww) → am_H G w s H locs → lv_has ls 4 [] → W p l e { frames := 4, cells := 0, slots := 0, locals := 256 } s m [.ref (G.1 + 0), .int a1, .int a2].toArray below meth c H locs 0 0 (MQ below (va_Qi (fun (x : Int32) (u : am_S) => x = rr ∧ u = ww) (am_U G) (am_A G)) [.ref (G.1 + 0), .int a1, .int a2].toArray s 0 0 (am_A G)) (F0 m 17 ls []) := by
    intro w H locs ls hf hH hl
    unfold f_X11_frame_17 at hf
    refine lv_iconst (v := -1) hx hb dX11_frame_17 (by decide) ?_
    exact am_reti hx hb hr hlocks hH hf dX11_frame_18
  refine am_enter (lv := [(0, .ref (G.1 + 0)), (1, .int a1), (2, .int a2)]) (Nat.le_of_ble_eq_true rfl) rfl (fun ls hl => ?_)
  unfold f_X11_frame at hf
  refine am_start hH (fun H locs hH => ?_)
  refine lv_aload_n hx hb dX11_frame_0 rfl (lv_at hl 0 rfl) ?_
  refine lv_iload_n hx hb dX11_frame_1 rfl (lv_at hl 1 rfl) ?_
  obtain ⟨r_36, w_34, hq_35, hf⟩ := am_b2_some hf
  refine am_calli (r := r_36) (w' := w_34) (am_runV (n := 1) (As := [.int a1]) (rest := []) ⟨hx, hb, hml, hown, hts⟩ hK hE hH (k_X11_noFrame hq_35) (am_gV am_q993 am_q995 am_qs34 am_q1 am_q996) (am_o11 (p := 0) (by decide +kernel)) rfl ⟨rfl, rfl⟩ (by decide +kernel) ⟨Nat.le_of_ble_eq_true rfl, Nat.le_of_ble_eq_true rfl⟩ rfl hl.1 rfl (Nat.le_of_ble_eq_true rfl) ⟨Nat.zero_le _, Nat.zero_le _⟩ dX11_frame_2) hH (fun H locs hH => ?_)
  refine lv_if_ne (tgt := 17) hx hb dX11_frame_5 (by decide) (fun hc_37 => ?_) (fun hc_37 => ?_)
  · have hf := (if_neg hc_37).symm.trans hf
    exact P17 w_34 H locs ls hf hH (lv_sub hl [] rfl)
  · have hf := (if_pos hc_37).symm.trans hf
    refine lv_iload_n hx hb dX11_frame_8 rfl (lv_at hl 2 rfl) ?_
    refine lv_if_lt (tgt := 17) hx hb dX11_frame_9 (by decide) (fun hc_38 => ?_) (fun hc_38 => ?_)
    · have hf := (if_pos hc_38).symm.trans hf
      exact P17 w_34 H locs ls hf hH (lv_sub hl [] rfl)
    · have hf := (if_neg hc_38).symm.trans hf
      refine lv_iload_n hx hb dX11_frame_12 rfl (lv_at hl 2 rfl) ?_
      refine lv_iconst (v := 4) hx hb dX11_frame_13 (by decide) ?_
      refine lv_icmp_le (tgt := 19) hx hb dX11_frame_14 (by decide) (fun hc_39 => ?_) (fun hc_39 => ?_)
      · have hf := (if_pos hc_39).symm.trans hf
        refine lv_aload_n hx hb dX11_frame_19 rfl (lv_at hl 0 rfl) ?_
        refine am_get hx hb hts hK hown hH (am_o11 (p := 0) (by decide +kernel)) rfl am_inX11 13 (by decide) am_q344 (v := .ref (G.1 + 250)) rfl dX11_frame_20 ?_
        refine lv_aload_n hx hb dX11_frame_23 rfl (lv_at hl 0 rfl) ?_
        refine am_get hx hb hts hK hown hH (am_o11 (p := 0) (by decide +kernel)) rfl am_inX11 5 (by decide) am_q336 (v := .ref (G.1 + 23)) rfl dX11_frame_24 ?_
        obtain ⟨w_40, hq_41, hf⟩ := am_b1_some hf
        refine am_callv (w' := w_40) (am_runV (n := 1) (As := [.ref (G.1 + 23)]) (rest := []) ⟨hx, hb, hml, hown, hts⟩ hK hE hH (k_X7_lookAt (by decide +kernel) hq_41) (am_gV am_q670 am_q671 am_q672 am_q9 am_q673) (am_o7 (p := 250) (by decide +kernel)) rfl ⟨rfl, rfl⟩ (by decide +kernel) ⟨Nat.le_of_ble_eq_true rfl, Nat.le_of_ble_eq_true rfl⟩ rfl hl.1 rfl (Nat.le_of_ble_eq_true rfl) ⟨Nat.zero_le _, Nat.zero_le _⟩ dX11_frame_27) hH (fun H locs hH => ?_)
        refine lv_aload_n hx hb dX11_frame_30 rfl (lv_at hl 0 rfl) ?_
        refine am_get hx hb hts hK hown hH (am_o11 (p := 0) (by decide +kernel)) rfl am_inX11 2 (by decide) am_q333 (v := .ref (G.1 + 11)) rfl dX11_frame_31 ?_
        refine lv_iload_n hx hb dX11_frame_34 rfl (lv_at hl 1 rfl) ?_
        obtain ⟨r_44, w_42, hq_43, hf⟩ := am_b2_some hf
        refine am_calli (r := r_44) (w' := w_42) (am_runV (n := 1) (As := [.int a1]) (rest := []) ⟨hx, hb, hml, hown, hts⟩ hK hE hH (k_X1_membersOf (by decide +kernel) hq_43) (am_gV am_q997 am_q998 am_q999 am_q3 am_q1000) (am_o1 (p := 11) (by decide +kernel)) rfl ⟨rfl, rfl⟩ (by decide +kernel) ⟨Nat.le_of_ble_eq_true rfl, Nat.le_of_ble_eq_true rfl⟩ rfl hl.1 rfl (Nat.le_of_ble_eq_true rfl) ⟨Nat.zero_le _, Nat.zero_le _⟩ dX11_frame_35) hH (fun H locs hH => ?_)
        refine lv_istore_n (lv' := [(3, .int r_44), (0, .ref (G.1 + 0)), (1, .int a1), (2, .int a2)]) hx hb dX11_frame_38 rfl hl (by decide) rfl (fun ls hl => ?_)
        refine lv_iload_n hx hb dX11_frame_39 rfl (lv_at hl 3 rfl) ?_
        by_cases he_45 : a2 = (0 : Int32)
        · have hf := (if_pos he_45).symm.trans hf
          refine lv_tableIn (off := 32) (tgt := 72) hx hb dX11_frame_40 (by rw [he_45]; decide) (by rw [he_45]; decide) (by rw [he_45]; rfl) (by decide) ?_
          refine lv_iload_n hx hb dX11_frame_72 rfl (lv_at hl 0 rfl) ?_
          obtain ⟨r_51, w_49, hq_50, hf⟩ := am_b2_some hf
          refine am_calli (r := r_51) (w' := w_49) (am_runS (n := 1) (As := [.int r_44]) (rest := []) ⟨hx, hb, hml, hown, hts⟩ hK hE hH (k_J6_bitCount_0f7a4 hq_50) (am_gS am_q715 am_q716 am_q23 am_q717) ⟨rfl, rfl⟩ (by decide +kernel) ⟨Nat.le_of_ble_eq_true rfl, Nat.le_of_ble_eq_true rfl⟩ rfl hl.1 rfl (Nat.le_of_ble_eq_true rfl) ⟨Nat.zero_le _, Nat.zero_le _⟩ dX11_frame_73) hH (fun H locs hH => ?_)
          exact am_reti hx hb hr hlocks hH hf dX11_frame_76
        have hf := (if_neg he_45).symm.trans hf
        by_cases he_46 : a2 = (1 : Int32)
        · have hf := (if_pos he_46).symm.trans hf
          refine lv_tableIn (off := 37) (tgt := 77) hx hb dX11_frame_40 (by rw [he_46]; decide) (by rw [he_46]; decide) (by rw [he_46]; rfl) (by decide) ?_
          refine lv_iload_n hx hb dX11_frame_77 rfl (lv_at hl 0 rfl) ?_
          refine lv_aload_n hx hb dX11_frame_78 rfl (lv_at hl 1 rfl) ?_
          refine am_get hx hb hts hK hown hH (am_o11 (p := 0) (by decide +kernel)) rfl am_inX11 13 (by decide) am_q344 (v := .ref (G.1 + 250)) rfl dX11_frame_79 ?_
          refine am_get hx hb hts hK hown hH (am_o7 (p := 250) (by decide +kernel)) rfl am_inX7 6 (by decide) am_q273 (v := .int (w_42.1 250 6)) rfl dX11_frame_82 ?_
          refine lv_iconst (v := -1) hx hb dX11_frame_85 (by decide) ?_
          refine lv_ixor hx hb dX11_frame_86 ?_
          refine lv_iand hx hb dX11_frame_87 ?_
          obtain ⟨r_54, w_52, hq_53, hf⟩ := am_b2_some hf
          refine am_calli (r := r_54) (w' := w_52) (am_runS (n := 1) (As := [.int (r_44 &&& ((w_42.1 250 6) ^^^ (-1 : Int32)))]) (rest := []) ⟨hx, hb, hml, hown, hts⟩ hK hE hH (k_J6_bitCount_0f7a4 hq_53) (am_gS am_q715 am_q716 am_q23 am_q717) ⟨rfl, rfl⟩ (by decide +kernel) ⟨Nat.le_of_ble_eq_true rfl, Nat.le_of_ble_eq_true rfl⟩ rfl hl.1 rfl (Nat.le_of_ble_eq_true rfl) ⟨Nat.zero_le _, Nat.zero_le _⟩ dX11_frame_88) hH (fun H locs hH => ?_)
          exact am_reti hx hb hr hlocks hH hf dX11_frame_91
        have hf := (if_neg he_46).symm.trans hf
        by_cases he_47 : a2 = (2 : Int32)
        · have hf := (if_pos he_47).symm.trans hf
          refine lv_tableIn (off := 52) (tgt := 92) hx hb dX11_frame_40 (by rw [he_47]; decide) (by rw [he_47]; decide) (by rw [he_47]; rfl) (by decide) ?_
          refine lv_aload_n hx hb dX11_frame_92 rfl (lv_at hl 1 rfl) ?_
          refine am_get hx hb hts hK hown hH (am_o11 (p := 0) (by decide +kernel)) rfl am_inX11 15 (by decide) am_q346 (v := .ref (G.1 + 257)) rfl dX11_frame_93 ?_
          refine lv_iload_n hx hb dX11_frame_96 rfl (lv_at hl 2 rfl) ?_
          obtain ⟨r_57, w_55, hq_56, hf⟩ := am_b2_some hf
          refine am_calli (r := r_57) (w' := w_55) (am_runV (n := 1) (As := [.int a1]) (rest := []) ⟨hx, hb, hml, hown, hts⟩ hK hE hH (k_X6_copiesIn hq_56) (am_gV am_q1001 am_q1002 am_q1003 am_q11 am_q1004) (am_o6 (p := 257) (by decide +kernel)) rfl ⟨rfl, rfl⟩ (by decide +kernel) ⟨Nat.le_of_ble_eq_true rfl, Nat.le_of_ble_eq_true rfl⟩ rfl hl.1 rfl (Nat.le_of_ble_eq_true rfl) ⟨Nat.zero_le _, Nat.zero_le _⟩ dX11_frame_97) hH (fun H locs hH => ?_)
          exact am_reti hx hb hr hlocks hH hf dX11_frame_100
        have hf := (if_neg he_47).symm.trans hf
        by_cases he_48 : a2 = (3 : Int32)
        · have hf := (if_pos he_48).symm.trans hf
          refine lv_tableIn (off := 61) (tgt := 101) hx hb dX11_frame_40 (by rw [he_48]; decide) (by rw [he_48]; decide) (by rw [he_48]; rfl) (by decide) ?_
          refine lv_aload_n hx hb dX11_frame_101 rfl (lv_at hl 1 rfl) ?_
          refine am_get hx hb hts hK hown hH (am_o11 (p := 0) (by decide +kernel)) rfl am_inX11 15 (by decide) am_q346 (v := .ref (G.1 + 257)) rfl dX11_frame_102 ?_
          refine lv_iload_n hx hb dX11_frame_105 rfl (lv_at hl 2 rfl) ?_
          obtain ⟨r_60, w_58, hq_59, hf⟩ := am_b2_some hf
          refine am_calli (r := r_60) (w' := w_58) (am_runV (n := 1) (As := [.int a1]) (rest := []) ⟨hx, hb, hml, hown, hts⟩ hK hE hH (k_X6_clearSlotsIn hq_59) (am_gV am_q1005 am_q1006 am_q1007 am_q11 am_q1008) (am_o6 (p := 257) (by decide +kernel)) rfl ⟨rfl, rfl⟩ (by decide +kernel) ⟨Nat.le_of_ble_eq_true rfl, Nat.le_of_ble_eq_true rfl⟩ rfl hl.1 rfl (Nat.le_of_ble_eq_true rfl) ⟨Nat.zero_le _, Nat.zero_le _⟩ dX11_frame_106) hH (fun H locs hH => ?_)
          exact am_reti hx hb hr hlocks hH hf dX11_frame_109
        have hf := (if_neg he_48).symm.trans hf
        have nhe_45 := am_tne (k := 0) (0 : Int32) (by decide) he_45
        have nhe_46 := am_tne (k := 1) (1 : Int32) (by decide) he_46
        have nhe_47 := am_tne (k := 2) (2 : Int32) (by decide) he_47
        have nhe_48 := am_tne (k := 3) (3 : Int32) (by decide) he_48
        refine lv_tableOut (tgt := 110) hx hb dX11_frame_40 (by omega) (by decide) ?_
        refine lv_iload_n hx hb dX11_frame_110 rfl (lv_at hl 0 rfl) ?_
        refine lv_aload_n hx hb dX11_frame_111 rfl (lv_at hl 1 rfl) ?_
        refine am_get hx hb hts hK hown hH (am_o11 (p := 0) (by decide +kernel)) rfl am_inX11 13 (by decide) am_q344 (v := .ref (G.1 + 250)) rfl dX11_frame_112 ?_
        refine lv_aload_n hx hb dX11_frame_115 rfl (lv_at hl 1 rfl) ?_
        refine am_get hx hb hts hK hown hH (am_o11 (p := 0) (by decide +kernel)) rfl am_inX11 13 (by decide) am_q344 (v := .ref (G.1 + 250)) rfl dX11_frame_116 ?_
        refine am_get hx hb hts hK hown hH (am_o7 (p := 250) (by decide +kernel)) rfl am_inX7 6 (by decide) am_q273 (v := .int (w_42.1 250 6)) rfl dX11_frame_119 ?_
        obtain ⟨r_63, w_61, hq_62, hf⟩ := am_b2_some hf
        refine am_calli (r := r_63) (w' := w_61) (am_runV (n := 1) (As := [.int (w_42.1 250 6)]) (rest := [.int r_44]) ⟨hx, hb, hml, hown, hts⟩ hK hE hH (k_X7_stuckOf hq_62) (am_gV am_q949 am_q950 am_q951 am_q9 am_q952) (am_o7 (p := 250) (by decide +kernel)) rfl ⟨rfl, rfl⟩ (by decide +kernel) ⟨Nat.le_of_ble_eq_true rfl, Nat.le_of_ble_eq_true rfl⟩ rfl hl.1 rfl (Nat.le_of_ble_eq_true rfl) ⟨Nat.zero_le _, Nat.zero_le _⟩ dX11_frame_122) hH (fun H locs hH => ?_)
        refine lv_iand hx hb dX11_frame_125 ?_
        obtain ⟨r_66, w_64, hq_65, hf⟩ := am_b2_some hf
        refine am_calli (r := r_66) (w' := w_64) (am_runS (n := 1) (As := [.int (r_44 &&& r_63)]) (rest := []) ⟨hx, hb, hml, hown, hts⟩ hK hE hH (k_J6_bitCount_0f7a4 hq_65) (am_gS am_q715 am_q716 am_q23 am_q717) ⟨rfl, rfl⟩ (by decide +kernel) ⟨Nat.le_of_ble_eq_true rfl, Nat.le_of_ble_eq_true rfl⟩ rfl hl.1 rfl (Nat.le_of_ble_eq_true rfl) ⟨Nat.zero_le _, Nat.zero_le _⟩ dX11_frame_126) hH (fun H locs hH => ?_)
        exact am_reti hx hb hr hlocks hH hf dX11_frame_129
      · have hf := (if_neg hc_39).symm.trans hf
        exact P17 w_34 H locs ls hf hH (lv_sub hl [] rfl)

def f_X11_image  (w : am_S) : Option (Int32 × am_S) :=
  am_b2 (f_X11_noField w) fun r_15 w_13 => if r_15 = 0 then (am_b1 (f_X9_takeFrom 33 23 w_13) fun w_17 => am_b1 (f_X4_takeFrom 42 38 w_17) fun w_19 => am_v (am_pi w_19 0 18 (1 : Int32)) fun (w_21 : am_S) => am_b2 (f_X9_knownCount 23 w_21) fun r_24 w_22 => some (r_24, w_22)) else (some ((-1 : Int32), w_13))
set_option maxRecDepth 100000 in
set_option maxHeartbeats 4000000 in
theorem k_X11_image {G : am_G} {l : Launch}   {w : am_S} {rr : Int32} {ww : am_S} (hf : f_X11_image  w = some (rr, ww)) : am_Mi G l yX11_image (Cond.code yX11_image cX11_image 1 (some .int) :: am_T) { frames := 3, cells := 0, slots := 0, locals := 192 } [.ref (G.1 + 0)] w rr ww := by
  refine Met.ofW (cc := cX11_image) (maxL := 1) (ret := (some .int)) (by decide) rfl ?_
  intro p e s m args below meth c s₁ B hml hv
  obtain ⟨rfl, hx, hb, hr, hts, hown, hlocks, hK, hE, hH⟩ := am_begin B hv
  have hown : s.vm.findClass RX11 = some m.cls := hown
  show W p l e { frames := 3, cells := 0, slots := 0, locals := 192 } s m _ below meth c s.heap [] 0 0 _ _
  refine am_enter (lv := [(0, .ref (G.1 + 0))]) (Nat.le_of_ble_eq_true rfl) rfl (fun ls hl => ?_)
  unfold f_X11_image at hf
  refine am_start hH (fun H locs hH => ?_)
  refine lv_aload_n hx hb dX11_image_0 rfl (lv_at hl 0 rfl) ?_
  obtain ⟨r_15, w_13, hq_14, hf⟩ := am_b2_some hf
  refine am_calli (r := r_15) (w' := w_13) (am_runV (n := 0) (As := []) (rest := []) ⟨hx, hb, hml, hown, hts⟩ hK hE hH (k_X11_noField hq_14) (am_gV am_q625 am_q627 am_qs11 am_q1 am_q628) (am_o11 (p := 0) (by decide +kernel)) rfl ⟨rfl, rfl⟩ (by decide +kernel) ⟨Nat.le_of_ble_eq_true rfl, Nat.le_of_ble_eq_true rfl⟩ rfl hl.1 rfl (Nat.le_of_ble_eq_true rfl) ⟨Nat.zero_le _, Nat.zero_le _⟩ dX11_image_1) hH (fun H locs hH => ?_)
  refine lv_if_eq (tgt := 9) hx hb dX11_image_4 (by decide) (fun hc_16 => ?_) (fun hc_16 => ?_)
  · have hf := (if_pos hc_16).symm.trans hf
    refine lv_aload_n hx hb dX11_image_9 rfl (lv_at hl 0 rfl) ?_
    refine am_get hx hb hts hK hown hH (am_o11 (p := 0) (by decide +kernel)) rfl am_inX11 7 (by decide) am_q338 (v := .ref (G.1 + 33)) rfl dX11_image_10 ?_
    refine lv_aload_n hx hb dX11_image_13 rfl (lv_at hl 0 rfl) ?_
    refine am_get hx hb hts hK hown hH (am_o11 (p := 0) (by decide +kernel)) rfl am_inX11 5 (by decide) am_q336 (v := .ref (G.1 + 23)) rfl dX11_image_14 ?_
    obtain ⟨w_17, hq_18, hf⟩ := am_b1_some hf
    refine am_callv (w' := w_17) (am_runV (n := 1) (As := [.ref (G.1 + 23)]) (rest := []) ⟨hx, hb, hml, hown, hts⟩ hK hE hH (k_X9_takeFrom (by decide +kernel) (by decide +kernel) hq_18) (am_gV am_q1173 am_q776 am_q777 am_q5 am_q778) (am_o9 (p := 33) (by decide +kernel)) rfl ⟨rfl, rfl⟩ (by decide +kernel) ⟨Nat.le_of_ble_eq_true rfl, Nat.le_of_ble_eq_true rfl⟩ rfl hl.1 rfl (Nat.le_of_ble_eq_true rfl) ⟨Nat.zero_le _, Nat.zero_le _⟩ dX11_image_17) hH (fun H locs hH => ?_)
    refine lv_aload_n hx hb dX11_image_20 rfl (lv_at hl 0 rfl) ?_
    refine am_get hx hb hts hK hown hH (am_o11 (p := 0) (by decide +kernel)) rfl am_inX11 9 (by decide) am_q340 (v := .ref (G.1 + 42)) rfl dX11_image_21 ?_
    refine lv_aload_n hx hb dX11_image_24 rfl (lv_at hl 0 rfl) ?_
    refine am_get hx hb hts hK hown hH (am_o11 (p := 0) (by decide +kernel)) rfl am_inX11 8 (by decide) am_q339 (v := .ref (G.1 + 38)) rfl dX11_image_25 ?_
    obtain ⟨w_19, hq_20, hf⟩ := am_b1_some hf
    refine am_callv (w' := w_19) (am_runV (n := 1) (As := [.ref (G.1 + 38)]) (rest := []) ⟨hx, hb, hml, hown, hts⟩ hK hE hH (k_X4_takeFrom (by decide +kernel) (by decide +kernel) hq_20) (am_gV am_q1227 am_q1228 am_q1229 am_q6 am_q1230) (am_o4 (p := 42) (by decide +kernel)) rfl ⟨rfl, rfl⟩ (by decide +kernel) ⟨Nat.le_of_ble_eq_true rfl, Nat.le_of_ble_eq_true rfl⟩ rfl hl.1 rfl (Nat.le_of_ble_eq_true rfl) ⟨Nat.zero_le _, Nat.zero_le _⟩ dX11_image_28) hH (fun H locs hH => ?_)
    refine lv_aload_n hx hb dX11_image_31 rfl (lv_at hl 0 rfl) ?_
    refine lv_iconst (v := 1) hx hb dX11_image_32 (by decide) ?_
    obtain ⟨w_21, hw_21, hf⟩ := am_v_some hf
    refine am_puti hx hb hts hK hown hH (am_o11 (p := 0) (by decide +kernel)) rfl am_inX11 tyX11 tyX11_ok nmX11 18 (by decide) am_q349 rfl rfl rfl (fun _ _ => Nat.le_of_ble_eq_true rfl) (fun _ _ _ => rfl) dX11_image_33 (fun H locs hH => ?_)
    rw [← hw_21] at hH
    refine lv_aload_n hx hb dX11_image_36 rfl (lv_at hl 0 rfl) ?_
    refine am_get hx hb hts hK hown hH (am_o11 (p := 0) (by decide +kernel)) rfl am_inX11 5 (by decide) am_q336 (v := .ref (G.1 + 23)) rfl dX11_image_37 ?_
    obtain ⟨r_24, w_22, hq_23, hf⟩ := am_b2_some hf
    refine am_calli (r := r_24) (w' := w_22) (am_runV (n := 0) (As := []) (rest := []) ⟨hx, hb, hml, hown, hts⟩ hK hE hH (k_X9_knownCount (by decide +kernel) hq_23) (am_gV am_q858 am_q807 am_q808 am_q5 am_q809) (am_o9 (p := 23) (by decide +kernel)) rfl ⟨rfl, rfl⟩ (by decide +kernel) ⟨Nat.le_of_ble_eq_true rfl, Nat.le_of_ble_eq_true rfl⟩ rfl hl.1 rfl (Nat.le_of_ble_eq_true rfl) ⟨Nat.zero_le _, Nat.zero_le _⟩ dX11_image_40) hH (fun H locs hH => ?_)
    exact am_reti hx hb hr hlocks hH hf dX11_image_43
  · have hf := (if_neg hc_16).symm.trans hf
    refine lv_iconst (v := -1) hx hb dX11_image_7 (by decide) ?_
    exact am_reti hx hb hr hlocks hH hf dX11_image_8

def f_X7_isKnownDespite_27 (a1 : Int32) (a2 : Int64) (s0 : Int32) (w : am_S) : Option (Int32 × am_S) :=
  am_nar .boolean s0 (some (s0, w))
def f_X7_isKnownDespite (a1 : Int32) (a2 : Int64) (w : am_S) : Option (Int32 × am_S) :=
  am_b2 (f_X1_allSlots 11 w) fun r_11 w_9 => am_b2 (f_X7_settle (w.1 250 6) (0 : Int32) r_11 a2 w_9) fun r_14 w_12 => if (r_14 &&& a1) = 0 then (f_X7_isKnownDespite_27 a1 a2 (1 : Int32) w_12) else (f_X7_isKnownDespite_27 a1 a2 (0 : Int32) w_12)
set_option maxRecDepth 100000 in
set_option maxHeartbeats 4000000 in
theorem k_X7_isKnownDespite {G : am_G} {l : Launch} {a1 : Int32} {a2 : Int64}  {w : am_S} {rr : Int32} {ww : am_S} (hf : f_X7_isKnownDespite a1 a2 w = some (rr, ww)) : am_Mi G l yX7_isKnownDespite (Cond.code yX7_isKnownDespite cX7_isKnownDespite 4 (some .boolean) :: am_T) { frames := 3, cells := 0, slots := 0, locals := 192 } [.ref (G.1 + 250), .int a1, .long a2] w rr ww := by
  refine Met.ofW (cc := cX7_isKnownDespite) (maxL := 4) (ret := (some .boolean)) (by decide) rfl ?_
  intro p e s m args below meth c s₁ B hml hv
  obtain ⟨rfl, hx, hb, hr, hts, hown, hlocks, hK, hE, hH⟩ := am_begin B hv
  have hown : s.vm.findClass RX7 = some m.cls := hown
  show W p l e { frames := 3, cells := 0, slots := 0, locals := 192 } s m _ below meth c s.heap [] 0 0 _ _
  have P27 : ∀ (s0 : Int32) (w : am_S) (H : Heap) (locs : List Loc) (ls : Array Slot), f_X7_isKnownDespite_27 a1 a2 s0 w = some (rr, ww) → am_H G w s H locs → lv_has ls 4 [] → W p l e { frames := 3, cells := 0, slots := 0, locals := 192 } s m [.ref (G.1 + 250), .int a1, .long a2].toArray below meth c H locs 0 0 (MQ below (va_Qi (fun (x : Int32) (u : am_S) => x = rr ∧ u = ww) (am_U G) (am_A G)) [.ref (G.1 + 250), .int a1, .long a2].toArray s 0 0 (am_A G)) (F0 m 27 ls [.int s0]) := by
    intro s0 w H locs ls hf hH hl
    unfold f_X7_isKnownDespite_27 at hf
    obtain ⟨hr_8, hf⟩ := am_nar_some hf
    exact am_retz hx hb hr hr_8.1 hlocks hH hf dX7_isKnownDespite_27
  refine am_enter (lv := [(0, .ref (G.1 + 250)), (1, .int a1), (2, .long a2)]) (Nat.le_of_ble_eq_true rfl) rfl (fun ls hl => ?_)
  unfold f_X7_isKnownDespite at hf
  refine am_start hH (fun H locs hH => ?_)
  refine lv_aload_n hx hb dX7_isKnownDespite_0 rfl (lv_at hl 0 rfl) ?_
  refine lv_aload_n hx hb dX7_isKnownDespite_1 rfl (lv_at hl 0 rfl) ?_
  refine am_get hx hb hts hK hown hH (am_o7 (p := 250) (by decide +kernel)) rfl am_inX7 6 (by decide) am_q271 (v := .int (w.1 250 6)) rfl dX7_isKnownDespite_2 ?_
  refine lv_iconst (v := 0) hx hb dX7_isKnownDespite_5 (by decide) ?_
  refine lv_aload_n hx hb dX7_isKnownDespite_6 rfl (lv_at hl 0 rfl) ?_
  refine am_get hx hb hts hK hown hH (am_o7 (p := 250) (by decide +kernel)) rfl am_inX7 0 (by decide) am_q259 (v := .ref (G.1 + 11)) rfl dX7_isKnownDespite_7 ?_
  obtain ⟨r_11, w_9, hq_10, hf⟩ := am_b2_some hf
  refine am_calli (r := r_11) (w' := w_9) (am_runV (n := 0) (As := []) (rest := [.int (0 : Int32), .int (w.1 250 6), .ref (G.1 + 250)]) ⟨hx, hb, hml, hown, hts⟩ hK hE hH (k_X1_allSlots (by decide +kernel) hq_10) (am_gV am_q742 am_q630 am_q631 am_q3 am_q632) (am_o1 (p := 11) (by decide +kernel)) rfl ⟨rfl, rfl⟩ (by decide +kernel) ⟨Nat.le_of_ble_eq_true rfl, Nat.le_of_ble_eq_true rfl⟩ rfl hl.1 rfl (Nat.le_of_ble_eq_true rfl) ⟨Nat.zero_le _, Nat.zero_le _⟩ dX7_isKnownDespite_10) hH (fun H locs hH => ?_)
  refine lv_lload_n hx hb dX7_isKnownDespite_13 rfl (lv_at hl 2 rfl) ?_
  obtain ⟨r_14, w_12, hq_13, hf⟩ := am_b2_some hf
  refine am_calli (r := r_14) (w' := w_12) (am_runV (n := 4) (As := [.int (w.1 250 6), .int (0 : Int32), .int r_11, .long a2]) (rest := []) ⟨hx, hb, hml, hown, hts⟩ hK hE hH (k_X7_settle hq_13) (am_gV am_q953 am_q954 am_q955 am_q9 am_q956) (am_o7 (p := 250) (by decide +kernel)) rfl ⟨rfl, rfl⟩ (by decide +kernel) ⟨Nat.le_of_ble_eq_true rfl, Nat.le_of_ble_eq_true rfl⟩ rfl hl.1 rfl (Nat.le_of_ble_eq_true rfl) ⟨Nat.zero_le _, Nat.zero_le _⟩ dX7_isKnownDespite_14) hH (fun H locs hH => ?_)
  refine lv_iload_n hx hb dX7_isKnownDespite_17 rfl (lv_at hl 1 rfl) ?_
  refine lv_iand hx hb dX7_isKnownDespite_18 ?_
  refine lv_if_ne (tgt := 26) hx hb dX7_isKnownDespite_19 (by decide) (fun hc_15 => ?_) (fun hc_15 => ?_)
  · have hf := (if_neg hc_15).symm.trans hf
    refine lv_iconst (v := 0) hx hb dX7_isKnownDespite_26 (by decide) ?_
    exact P27 (0 : Int32) w_12 H locs ls hf hH (lv_sub hl [] rfl)
  · have hf := (if_pos hc_15).symm.trans hf
    refine lv_iconst (v := 1) hx hb dX7_isKnownDespite_22 (by decide) ?_
    refine lv_goto (tgt := 27) hx hb dX7_isKnownDespite_23 (by decide) ?_
    exact P27 (1 : Int32) w_12 H locs ls hf hH (lv_sub hl [] rfl)

def f_X6_partsFromB_17 (rec : Int32 → Int32 → Int64 → Int64 → Int64 → am_S → Option (Int64 × am_S)) (a1 : Int32) (a2 : Int32) (a3 : Int64) (a4 : Int64) (a5 : Int64) (w : am_S) : Option (Int64 × am_S) :=
  some ((0 : Int64), w)
def f_X6_partsFromB_37 (rec : Int32 → Int32 → Int64 → Int64 → Int64 → am_S → Option (Int64 × am_S)) (a1 : Int32) (a2 : Int32) (a3 : Int64) (a4 : Int64) (a5 : Int64) (w : am_S) : Option (Int64 × am_S) :=
  some (a5, w)
def f_X6_partsFromB (rec : Int32 → Int32 → Int64 → Int64 → Int64 → am_S → Option (Int64 × am_S)) (a1 : Int32) (a2 : Int32) (a3 : Int64) (a4 : Int64) (a5 : Int64) (w : am_S) : Option (Int64 × am_S) :=
  if (lg_cmp a5 (0 : Int64)) = 0 then (f_X6_partsFromB_17 rec a1 a2 a3 a4 a5 w) else (am_b2 (f_X7_isKnownDespite a1 a4 w) fun r_22 w_20 => if r_22 = 0 then (f_X6_partsFromB_17 rec a1 a2 a3 a4 a5 w_20) else (if (lg_cmp a3 (0 : Int64)) = 0 then (f_X6_partsFromB_37 rec a1 a2 a3 a4 a5 w_20) else (am_b2 (f_X7_isKnownDespite a1 (a4 ||| a3) w_20) fun r_27 w_25 => if r_27 = 0 then (am_v (a3 &&& (-a3)) fun (x9_29 : Int64) => am_v ((a5 * (a2.toInt64)) / (100 : Int64)) fun (x11_30 : Int64) => am_b2 (rec a1 a2 (a3 &&& (x9_29 ^^^ (-1 : Int64))) (a4 ||| x9_29) x11_30 w_25) fun r_33 w_31 => am_b2 (rec a1 a2 (a3 &&& (x9_29 ^^^ (-1 : Int64))) a4 (a5 - x11_30) w_31) fun r_36 w_34 => some (r_33 + r_36, w_34)) else (f_X6_partsFromB_37 rec a1 a2 a3 a4 a5 w_25))))
def f_X6_partsFrom : Nat → Int32 → Int32 → Int64 → Int64 → Int64 → am_S → Option (Int64 × am_S)
  | 0 => fun _ _ _ _ _ _ => none
  | dd + 1 => fun a1 a2 a3 a4 a5 w => f_X6_partsFromB (f_X6_partsFrom dd) a1 a2 a3 a4 a5 w
set_option maxRecDepth 100000 in
set_option maxHeartbeats 4000000 in
theorem k_X6_partsFromB {G : am_G} {l : Launch} {dd : Nat} {rec : Int32 → Int32 → Int64 → Int64 → Int64 → am_S → Option (Int64 × am_S)} {a1 : Int32} {a2 : Int32} {a3 : Int64} {a4 : Int64} {a5 : Int64} (hrec : ∀ {a1 : Int32} {a2 : Int32} {a3 : Int64} {a4 : Int64} {a5 : Int64} {w : am_S} {rr : Int64} {ww : am_S}, rec a1 a2 a3 a4 a5 w = some (rr, ww) → am_Ml G l yX6_partsFrom (Cond.code yX6_partsFrom cX6_partsFrom 13 (some .long) :: am_T) { frames := dd + 4, cells := 0, slots := 0, locals := 64 * (dd + 4) } [.ref (G.1 + 250), .int a1, .int a2, .long a3, .long a4, .long a5] w rr ww) {w : am_S} {rr : Int64} {ww : am_S} (hf : f_X6_partsFromB rec a1 a2 a3 a4 a5 w = some (rr, ww)) : am_Ml G l yX6_partsFrom (Cond.code yX6_partsFrom cX6_partsFrom 13 (some .long) :: am_T) { frames := dd + 1 + 4, cells := 0, slots := 0, locals := 64 * (dd + 1 + 4) } [.ref (G.1 + 250), .int a1, .int a2, .long a3, .long a4, .long a5] w rr ww := by
  refine Met.ofW (cc := cX6_partsFrom) (maxL := 13) (ret := (some .long)) (by decide) rfl ?_
  intro p e s m args below meth c s₁ B hml hv
  obtain ⟨rfl, hx, hb, hr, hts, hown, hlocks, hK, hE, hH⟩ := am_begin B hv
  have hown : s.vm.findClass RX6 = some m.cls := hown
  show W p l e { frames := dd + 1 + 4, cells := 0, slots := 0, locals := 64 * (dd + 1 + 4) } s m _ below meth c s.heap [] 0 0 _ _
  have P17 : ∀ (w : am_S) (H : Heap) (locs : List Loc) (ls : Array Slot), f_X6_partsFromB_17 rec a1 a2 a3 a4 a5 w = some (rr, ww) → am_H G w s H locs → lv_has ls 13 [] → W p l e { frames := dd + 1 + 4, cells := 0, slots := 0, locals := 64 * (dd + 1 + 4) } s m [.ref (G.1 + 250), .int a1, .int a2, .long a3, .long a4, .long a5].toArray below meth c H locs 0 0 (MQ below (va_Ql (fun (x : Int64) (u : am_S) => x = rr ∧ u = ww) (am_U G) (am_A G)) [.ref (G.1 + 250), .int a1, .int a2, .long a3, .long a4, .long a5].toArray s 0 0 (am_A G)) (F0 m 17 ls []) := by
    intro w H locs ls hf hH hl
    unfold f_X6_partsFromB_17 at hf
    refine lv_lconst (v := 0) hx hb dX6_partsFrom_17 (by decide) ?_
    exact am_retl hx hb hr hlocks hH hf dX6_partsFrom_18
  have P37 : ∀ (w : am_S) (H : Heap) (locs : List Loc) (ls : Array Slot), f_X6_partsFromB_37 rec a1 a2 a3 a4 a5 w = some (rr, ww) → am_H G w s H locs → lv_has ls 13 [(7, .long a5)] → W p l e { frames := dd + 1 + 4, cells := 0, slots := 0, locals := 64 * (dd + 1 + 4) } s m [.ref (G.1 + 250), .int a1, .int a2, .long a3, .long a4, .long a5].toArray below meth c H locs 0 0 (MQ below (va_Ql (fun (x : Int64) (u : am_S) => x = rr ∧ u = ww) (am_U G) (am_A G)) [.ref (G.1 + 250), .int a1, .int a2, .long a3, .long a4, .long a5].toArray s 0 0 (am_A G)) (F0 m 37 ls []) := by
    intro w H locs ls hf hH hl
    unfold f_X6_partsFromB_37 at hf
    refine lv_lload hx hb dX6_partsFrom_37 (lv_at hl 0 rfl) ?_
    exact am_retl hx hb hr hlocks hH hf dX6_partsFrom_39
  refine am_enter (lv := [(0, .ref (G.1 + 250)), (1, .int a1), (2, .int a2), (3, .long a3), (5, .long a4), (7, .long a5)]) (Nat.le_of_ble_eq_true rfl) rfl (fun ls hl => ?_)
  unfold f_X6_partsFromB at hf
  refine am_start hH (fun H locs hH => ?_)
  refine lv_lload hx hb dX6_partsFrom_0 (lv_at hl 5 rfl) ?_
  refine lv_lconst (v := 0) hx hb dX6_partsFrom_2 (by decide) ?_
  refine W.lcmp hx hb dX6_partsFrom_3 ?_
  refine lv_if_eq (tgt := 17) hx hb dX6_partsFrom_4 (by decide) (fun hc_19 => ?_) (fun hc_19 => ?_)
  · have hf := (if_pos hc_19).symm.trans hf
    exact P17 w H locs ls hf hH (lv_sub hl [] rfl)
  · have hf := (if_neg hc_19).symm.trans hf
    refine lv_aload_n hx hb dX6_partsFrom_7 rfl (lv_at hl 0 rfl) ?_
    refine lv_iload_n hx hb dX6_partsFrom_8 rfl (lv_at hl 1 rfl) ?_
    refine lv_lload hx hb dX6_partsFrom_9 (lv_at hl 4 rfl) ?_
    obtain ⟨r_22, w_20, hq_21, hf⟩ := am_b2_some hf
    refine am_calli (r := r_22) (w' := w_20) (am_runV (n := 2) (As := [.int a1, .long a4]) (rest := []) ⟨hx, hb, hml, hown, hts⟩ hK hE hH (k_X7_isKnownDespite hq_21) (am_gV am_q1107 am_q1108 am_q1109 am_q9 am_q1110) (am_o7 (p := 250) (by decide +kernel)) rfl ⟨rfl, rfl⟩ (by decide +kernel) ⟨(show 3 + 1 ≤ dd + 1 + 4 by omega), (show 8 + (4 + 11) + 192 ≤ 64 * (dd + 1 + 4) by omega)⟩ rfl hl.1 rfl (Nat.le_of_ble_eq_true rfl) ⟨Nat.zero_le _, Nat.zero_le _⟩ dX6_partsFrom_11) hH (fun H locs hH => ?_)
    refine lv_if_ne (tgt := 19) hx hb dX6_partsFrom_14 (by decide) (fun hc_23 => ?_) (fun hc_23 => ?_)
    · have hf := (if_neg hc_23).symm.trans hf
      refine lv_lload_n hx hb dX6_partsFrom_19 rfl (lv_at hl 3 rfl) ?_
      refine lv_lconst (v := 0) hx hb dX6_partsFrom_20 (by decide) ?_
      refine W.lcmp hx hb dX6_partsFrom_21 ?_
      refine lv_if_eq (tgt := 37) hx hb dX6_partsFrom_22 (by decide) (fun hc_24 => ?_) (fun hc_24 => ?_)
      · have hf := (if_pos hc_24).symm.trans hf
        exact P37 w_20 H locs ls hf hH (lv_sub hl [5] rfl)
      · have hf := (if_neg hc_24).symm.trans hf
        refine lv_aload_n hx hb dX6_partsFrom_25 rfl (lv_at hl 0 rfl) ?_
        refine lv_iload_n hx hb dX6_partsFrom_26 rfl (lv_at hl 1 rfl) ?_
        refine lv_lload hx hb dX6_partsFrom_27 (lv_at hl 4 rfl) ?_
        refine lv_lload_n hx hb dX6_partsFrom_29 rfl (lv_at hl 3 rfl) ?_
        refine lv_lor hx hb dX6_partsFrom_30 ?_
        obtain ⟨r_27, w_25, hq_26, hf⟩ := am_b2_some hf
        refine am_calli (r := r_27) (w' := w_25) (am_runV (n := 2) (As := [.int a1, .long (a4 ||| a3)]) (rest := []) ⟨hx, hb, hml, hown, hts⟩ hK hE hH (k_X7_isKnownDespite hq_26) (am_gV am_q1107 am_q1108 am_q1109 am_q9 am_q1110) (am_o7 (p := 250) (by decide +kernel)) rfl ⟨rfl, rfl⟩ (by decide +kernel) ⟨(show 3 + 1 ≤ dd + 1 + 4 by omega), (show 8 + (4 + 11) + 192 ≤ 64 * (dd + 1 + 4) by omega)⟩ rfl hl.1 rfl (Nat.le_of_ble_eq_true rfl) ⟨Nat.zero_le _, Nat.zero_le _⟩ dX6_partsFrom_31) hH (fun H locs hH => ?_)
        refine lv_if_eq (tgt := 40) hx hb dX6_partsFrom_34 (by decide) (fun hc_28 => ?_) (fun hc_28 => ?_)
        · have hf := (if_pos hc_28).symm.trans hf
          refine lv_lload_n hx hb dX6_partsFrom_40 rfl (lv_at hl 3 rfl) ?_
          refine lv_lload_n hx hb dX6_partsFrom_41 rfl (lv_at hl 3 rfl) ?_
          refine lv_lneg hx hb dX6_partsFrom_42 ?_
          refine lv_land hx hb dX6_partsFrom_43 ?_
          obtain ⟨x9_29, hx9_29, hf⟩ := am_v_some hf
          refine am_topl hx9_29 ?_
          refine lv_lstore (lv' := [(9, .long x9_29), (0, .ref (G.1 + 250)), (1, .int a1), (2, .int a2), (3, .long a3), (5, .long a4), (7, .long a5)]) hx hb dX6_partsFrom_44 hl (by decide) rfl (fun ls hl => ?_)
          refine lv_lload hx hb dX6_partsFrom_46 (lv_at hl 6 rfl) ?_
          refine lv_iload_n hx hb dX6_partsFrom_48 rfl (lv_at hl 3 rfl) ?_
          refine lv_i2l hx hb dX6_partsFrom_49 rfl ?_
          refine lv_lmul hx hb dX6_partsFrom_50 ?_
          refine lv_ldc2 (v := 100) hx hb hown (hts _ am_q1111) dX6_partsFrom_51 ?_
          refine lv_ldiv hx hb dX6_partsFrom_54 (by decide) ?_
          obtain ⟨x11_30, hx11_30, hf⟩ := am_v_some hf
          refine am_topl hx11_30 ?_
          refine lv_lstore (lv' := [(11, .long x11_30), (9, .long x9_29), (0, .ref (G.1 + 250)), (1, .int a1), (2, .int a2), (3, .long a3), (5, .long a4), (7, .long a5)]) hx hb dX6_partsFrom_55 hl (by decide) rfl (fun ls hl => ?_)
          refine lv_aload_n hx hb dX6_partsFrom_57 rfl (lv_at hl 2 rfl) ?_
          refine lv_iload_n hx hb dX6_partsFrom_58 rfl (lv_at hl 3 rfl) ?_
          refine lv_iload_n hx hb dX6_partsFrom_59 rfl (lv_at hl 4 rfl) ?_
          refine lv_lload_n hx hb dX6_partsFrom_60 rfl (lv_at hl 5 rfl) ?_
          refine lv_lload hx hb dX6_partsFrom_61 (lv_at hl 1 rfl) ?_
          refine lv_ldc2 (v := -1) hx hb hown (hts _ am_q1112) dX6_partsFrom_63 ?_
          refine lv_lxor hx hb dX6_partsFrom_66 ?_
          refine lv_land hx hb dX6_partsFrom_67 ?_
          refine lv_lload hx hb dX6_partsFrom_68 (lv_at hl 6 rfl) ?_
          refine lv_lload hx hb dX6_partsFrom_70 (lv_at hl 1 rfl) ?_
          refine lv_lor hx hb dX6_partsFrom_72 ?_
          refine lv_lload hx hb dX6_partsFrom_73 (lv_at hl 0 rfl) ?_
          obtain ⟨r_33, w_31, hq_32, hf⟩ := am_b2_some hf
          refine am_calll (r := r_33) (w' := w_31) (am_runS (n := 6) (As := [.ref (G.1 + 250), .int a1, .int a2, .long (a3 &&& (x9_29 ^^^ (-1 : Int64))), .long (a4 ||| x9_29), .long x11_30]) (rest := []) ⟨hx, hb, hml, hown, hts⟩ hK hE hH (hrec hq_32) (am_gS am_q1104 am_q1105 am_q11 am_q1106) ⟨rfl, rfl⟩ (by decide +kernel) ⟨(show dd + 4 + 1 ≤ dd + 1 + 4 by omega), (show 8 + (13 + 11) + 64 * (dd + 4) ≤ 64 * (dd + 1 + 4) by omega)⟩ rfl hl.1 rfl (Nat.le_of_ble_eq_true rfl) ⟨Nat.zero_le _, Nat.zero_le _⟩ dX6_partsFrom_75) hH (fun H locs hH => ?_)
          refine lv_aload_n hx hb dX6_partsFrom_78 rfl (lv_at hl 2 rfl) ?_
          refine lv_iload_n hx hb dX6_partsFrom_79 rfl (lv_at hl 3 rfl) ?_
          refine lv_iload_n hx hb dX6_partsFrom_80 rfl (lv_at hl 4 rfl) ?_
          refine lv_lload_n hx hb dX6_partsFrom_81 rfl (lv_at hl 5 rfl) ?_
          refine lv_lload hx hb dX6_partsFrom_82 (lv_at hl 1 rfl) ?_
          refine lv_ldc2 (v := -1) hx hb hown (hts _ am_q1112) dX6_partsFrom_84 ?_
          refine lv_lxor hx hb dX6_partsFrom_87 ?_
          refine lv_land hx hb dX6_partsFrom_88 ?_
          refine lv_lload hx hb dX6_partsFrom_89 (lv_at hl 6 rfl) ?_
          refine lv_lload hx hb dX6_partsFrom_91 (lv_at hl 7 rfl) ?_
          refine lv_lload hx hb dX6_partsFrom_93 (lv_at hl 0 rfl) ?_
          refine lv_lsub hx hb dX6_partsFrom_95 ?_
          obtain ⟨r_36, w_34, hq_35, hf⟩ := am_b2_some hf
          refine am_calll (r := r_36) (w' := w_34) (am_runS (n := 6) (As := [.ref (G.1 + 250), .int a1, .int a2, .long (a3 &&& (x9_29 ^^^ (-1 : Int64))), .long a4, .long (a5 - x11_30)]) (rest := [.long r_33]) ⟨hx, hb, hml, hown, hts⟩ hK hE hH (hrec hq_35) (am_gS am_q1104 am_q1105 am_q11 am_q1106) ⟨rfl, rfl⟩ (by decide +kernel) ⟨(show dd + 4 + 1 ≤ dd + 1 + 4 by omega), (show 8 + (13 + 11) + 64 * (dd + 4) ≤ 64 * (dd + 1 + 4) by omega)⟩ rfl hl.1 rfl (Nat.le_of_ble_eq_true rfl) ⟨Nat.zero_le _, Nat.zero_le _⟩ dX6_partsFrom_96) hH (fun H locs hH => ?_)
          refine lv_ladd hx hb dX6_partsFrom_99 ?_
          exact am_retl hx hb hr hlocks hH hf dX6_partsFrom_100
        · have hf := (if_neg hc_28).symm.trans hf
          exact P37 w_25 H locs ls hf hH (lv_sub hl [5] rfl)
    · have hf := (if_pos hc_23).symm.trans hf
      exact P17 w_20 H locs ls hf hH (lv_sub hl [] rfl)
theorem k_X6_partsFrom {G : am_G} {l : Launch} : ∀ (dd : Nat) {a1 : Int32} {a2 : Int32} {a3 : Int64} {a4 : Int64} {a5 : Int64} {w : am_S} {rr : Int64} {ww : am_S}, f_X6_partsFrom dd a1 a2 a3 a4 a5 w = some (rr, ww) → am_Ml G l yX6_partsFrom (Cond.code yX6_partsFrom cX6_partsFrom 13 (some .long) :: am_T) { frames := dd + 4, cells := 0, slots := 0, locals := 64 * (dd + 4) } [.ref (G.1 + 250), .int a1, .int a2, .long a3, .long a4, .long a5] w rr ww := by
  intro dd
  induction dd with
  | zero => intro a1 a2 a3 a4 a5 w rr ww h; cases h
  | succ dd ih => intro a1 a2 a3 a4 a5 w rr ww h; exact k_X6_partsFromB ih h

def f_X6_partsKnown (a1 : Int32) (a2 : Int32) (a3 : Int32) (w : am_S) : Option (Int32 × am_S) :=
  am_v (am_lshl ((am_lshl (1 : Int64) (w.1 11 7)) - (1 : Int64)) (a2 * (w.1 11 7))) fun (x4_5 : Int64) => am_b2 (f_X6_partsFrom 14 ((1 : Int32) <<< (a1 &&& 31)) a3 x4_5 (0 : Int64) (1000000000 : Int64) w) fun r_8 w_6 => some (r_8.toInt32, w_6)
set_option maxRecDepth 100000 in
set_option maxHeartbeats 4000000 in
theorem k_X6_partsKnown {G : am_G} {l : Launch} {a1 : Int32} {a2 : Int32} {a3 : Int32}  {w : am_S} {rr : Int32} {ww : am_S} (hf : f_X6_partsKnown a1 a2 a3 w = some (rr, ww)) : am_Mi G l yX6_partsKnown (Cond.code yX6_partsKnown cX6_partsKnown 6 (some .int) :: am_T) { frames := 19, cells := 0, slots := 0, locals := 1216 } [.ref (G.1 + 257), .int a1, .int a2, .int a3] w rr ww := by
  refine Met.ofW (cc := cX6_partsKnown) (maxL := 6) (ret := (some .int)) (by decide) rfl ?_
  intro p e s m args below meth c s₁ B hml hv
  obtain ⟨rfl, hx, hb, hr, hts, hown, hlocks, hK, hE, hH⟩ := am_begin B hv
  have hown : s.vm.findClass RX6 = some m.cls := hown
  show W p l e { frames := 19, cells := 0, slots := 0, locals := 1216 } s m _ below meth c s.heap [] 0 0 _ _
  refine am_enter (lv := [(0, .ref (G.1 + 257)), (1, .int a1), (2, .int a2), (3, .int a3)]) (Nat.le_of_ble_eq_true rfl) rfl (fun ls hl => ?_)
  unfold f_X6_partsKnown at hf
  refine am_start hH (fun H locs hH => ?_)
  refine lv_lconst (v := 1) hx hb dX6_partsKnown_0 (by decide) ?_
  refine lv_aload_n hx hb dX6_partsKnown_1 rfl (lv_at hl 0 rfl) ?_
  refine am_get hx hb hts hK hown hH (am_o6 (p := 257) (by decide +kernel)) rfl am_inX6 0 (by decide) am_q314 (v := .ref (G.1 + 11)) rfl dX6_partsKnown_2 ?_
  refine am_get hx hb hts hK hown hH (am_o1 (p := 11) (by decide +kernel)) rfl am_inX1 7 (by decide) am_q92 (v := .int (w.1 11 7)) rfl dX6_partsKnown_5 ?_
  refine lv_lshl (v := am_lshl (1 : Int64) (w.1 11 7)) hx hb dX6_partsKnown_8 rfl ?_
  refine lv_lconst (v := 1) hx hb dX6_partsKnown_9 (by decide) ?_
  refine lv_lsub hx hb dX6_partsKnown_10 ?_
  refine lv_iload_n hx hb dX6_partsKnown_11 rfl (lv_at hl 2 rfl) ?_
  refine lv_aload_n hx hb dX6_partsKnown_12 rfl (lv_at hl 0 rfl) ?_
  refine am_get hx hb hts hK hown hH (am_o6 (p := 257) (by decide +kernel)) rfl am_inX6 0 (by decide) am_q314 (v := .ref (G.1 + 11)) rfl dX6_partsKnown_13 ?_
  refine am_get hx hb hts hK hown hH (am_o1 (p := 11) (by decide +kernel)) rfl am_inX1 7 (by decide) am_q92 (v := .int (w.1 11 7)) rfl dX6_partsKnown_16 ?_
  refine lv_imul hx hb dX6_partsKnown_19 ?_
  refine lv_lshl (v := am_lshl ((am_lshl (1 : Int64) (w.1 11 7)) - (1 : Int64)) (a2 * (w.1 11 7))) hx hb dX6_partsKnown_20 rfl ?_
  obtain ⟨x4_5, hx4_5, hf⟩ := am_v_some hf
  refine am_topl hx4_5 ?_
  refine lv_lstore (lv' := [(4, .long x4_5), (0, .ref (G.1 + 257)), (1, .int a1), (2, .int a2), (3, .int a3)]) hx hb dX6_partsKnown_21 hl (by decide) rfl (fun ls hl => ?_)
  refine lv_aload_n hx hb dX6_partsKnown_23 rfl (lv_at hl 1 rfl) ?_
  refine am_get hx hb hts hK hown hH (am_o6 (p := 257) (by decide +kernel)) rfl am_inX6 1 (by decide) am_q315 (v := .ref (G.1 + 250)) rfl dX6_partsKnown_24 ?_
  refine lv_iconst (v := 1) hx hb dX6_partsKnown_27 (by decide) ?_
  refine lv_iload_n hx hb dX6_partsKnown_28 rfl (lv_at hl 2 rfl) ?_
  refine lv_ishl hx hb dX6_partsKnown_29 ?_
  refine lv_iload_n hx hb dX6_partsKnown_30 rfl (lv_at hl 4 rfl) ?_
  refine lv_lload hx hb dX6_partsKnown_31 (lv_at hl 0 rfl) ?_
  refine lv_lconst (v := 0) hx hb dX6_partsKnown_33 (by decide) ?_
  refine lv_ldc2 (v := 1000000000) hx hb hown (hts _ am_q1103) dX6_partsKnown_34 ?_
  obtain ⟨r_8, w_6, hq_7, hf⟩ := am_b2_some hf
  refine am_calll (r := r_8) (w' := w_6) (am_runS (n := 6) (As := [.ref (G.1 + 250), .int ((1 : Int32) <<< (a1 &&& 31)), .int a3, .long x4_5, .long (0 : Int64), .long (1000000000 : Int64)]) (rest := []) ⟨hx, hb, hml, hown, hts⟩ hK hE hH (k_X6_partsFrom 14 hq_7) (am_gS am_q1104 am_q1105 am_q11 am_q1106) ⟨rfl, rfl⟩ (by decide +kernel) ⟨Nat.le_of_ble_eq_true rfl, Nat.le_of_ble_eq_true rfl⟩ rfl hl.1 rfl (Nat.le_of_ble_eq_true rfl) ⟨Nat.zero_le _, Nat.zero_le _⟩ dX6_partsKnown_37) hH (fun H locs hH => ?_)
  refine lv_l2i hx hb dX6_partsKnown_40 rfl ?_
  exact am_reti hx hb hr hlocks hH hf dX6_partsKnown_41
