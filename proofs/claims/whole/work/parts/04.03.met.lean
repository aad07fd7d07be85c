/-! functions and contracts of methods, by program (wip/whole/gen.py) -/
def f_J0_coder_7d493_t1_14  (s0 : Int32) (w : am_S) : Option (Int32 × am_S) :=
  am_nar .byte s0 (some (s0, w))
def f_J0_coder_7d493_t1  (w : am_S) : Option (Int32 × am_S) :=
  if (1 : Int32) = 0 then (f_J0_coder_7d493_t1_14 (1 : Int32) w) else (f_J0_coder_7d493_t1_14 (0 : Int32) w)
set_option maxRecDepth 100000 in
set_option maxHeartbeats 4000000 in
theorem k_J0_coder_7d493_t1 {G : am_G} {l : Launch}   {w : am_S} {rr : Int32} {ww : am_S} (hf : f_J0_coder_7d493_t1  w = some (rr, ww)) : am_Mi G l yJ0_coder_7d493 (Cond.code yJ0_coder_7d493 cJ0_coder_7d493 1 (some .byte) :: am_T) { frames := 0, cells := 0, slots := 0, locals := 0 } [.ref (G.2.2.2.2.1 1)] w rr ww := by
  refine Met.ofW (cc := cJ0_coder_7d493) (maxL := 1) (ret := (some .byte)) (by decide) rfl ?_
  intro p e s m args below meth c s₁ B hml hv
  obtain ⟨rfl, hx, hb, hr, hts, hown, hlocks, hK, hE, hH⟩ := am_begin B hv
  have hown : s.vm.findClass RJ0 = some m.cls := hown
  show W p l e { frames := 0, cells := 0, slots := 0, locals := 0 } s m _ below meth c s.heap [] 0 0 _ _
  have P14 : ∀ (s0 : Int32) (w : am_S) (H : Heap) (locs : List Loc) (ls : Array Slot), f_J0_coder_7d493_t1_14 s0 w = some (rr, ww) → am_H G w s H locs → lv_has ls 1 [] → W p l e { frames := 0, cells := 0, slots := 0, locals := 0 } s m [.ref (G.2.2.2.2.1 1)].toArray below meth c H locs 0 0 (MQ below (va_Qi (fun (x : Int32) (u : am_S) => x = rr ∧ u = ww) (am_U G) (am_A G)) [.ref (G.2.2.2.2.1 1)].toArray s 0 0 (am_A G)) (F0 m 14 ls [.int s0]) := by
    intro s0 w H locs ls hf hH hl
    unfold f_J0_coder_7d493_t1_14 at hf
    obtain ⟨hr_2, hf⟩ := am_nar_some hf
    exact am_retz hx hb hr hr_2.1 hlocks hH hf dJ0_coder_7d493_14
  refine am_enter (lv := [(0, .ref (G.2.2.2.2.1 1))]) (Nat.le_of_ble_eq_true rfl) rfl (fun ls hl => ?_)
  unfold f_J0_coder_7d493_t1 at hf
  refine am_start hH (fun H locs hH => ?_)
  refine va_gets hx hb hE.2.2.2.1 hH.2 hown (hts _ am_q453) (fun _ h => h) dJ0_coder_7d493_0 ?_
  refine lv_if_eq (tgt := 13) hx hb dJ0_coder_7d493_3 (by decide) (fun hc_3 => ?_) (fun hc_3 => ?_)
  · have hf := (if_pos hc_3).symm.trans hf
    refine lv_iconst (v := 1) hx hb dJ0_coder_7d493_13 (by decide) ?_
    exact P14 (1 : Int32) w H locs ls hf hH (lv_sub hl [] rfl)
  · have hf := (if_neg hc_3).symm.trans hf
    refine lv_aload_n hx hb dJ0_coder_7d493_6 rfl (lv_at hl 0 rfl) ?_
    refine vk_getf hx hb (hE.2.1.1 1 (by decide)).2.1 hH.2 hown (hts _ am_q2024) (fun _ h => h) dJ0_coder_7d493_7 ?_
    refine lv_goto (tgt := 14) hx hb dJ0_coder_7d493_10 (by decide) ?_
    exact P14 (0 : Int32) w H locs ls hf hH (lv_sub hl [] rfl)

def f_J0_length_8abf5_t1  (w : am_S) : Option (Int32 × am_S) :=
  am_b2 (f_J0_coder_7d493_t1 w) fun r_6 w_4 => some ((5 : Int32) >>> (r_6 &&& 31), w_4)
set_option maxRecDepth 100000 in
set_option maxHeartbeats 4000000 in
theorem k_J0_length_8abf5_t1 {G : am_G} {l : Launch}   {w : am_S} {rr : Int32} {ww : am_S} (hf : f_J0_length_8abf5_t1  w = some (rr, ww)) : am_Mi G l yJ0_length_8abf5 (Cond.code yJ0_length_8abf5 cJ0_length_8abf5 1 (some .int) :: am_T) { frames := 1, cells := 0, slots := 0, locals := 64 } [.ref (G.2.2.2.2.1 1)] w rr ww := by
  refine Met.ofW (cc := cJ0_length_8abf5) (maxL := 1) (ret := (some .int)) (by decide) rfl ?_
  intro p e s m args below meth c s₁ B hml hv
  obtain ⟨rfl, hx, hb, hr, hts, hown, hlocks, hK, hE, hH⟩ := am_begin B hv
  have hown : s.vm.findClass RJ0 = some m.cls := hown
  show W p l e { frames := 1, cells := 0, slots := 0, locals := 64 } s m _ below meth c s.heap [] 0 0 _ _
  refine am_enter (lv := [(0, .ref (G.2.2.2.2.1 1))]) (Nat.le_of_ble_eq_true rfl) rfl (fun ls hl => ?_)
  unfold f_J0_length_8abf5_t1 at hf
  refine am_start hH (fun H locs hH => ?_)
  refine lv_aload_n hx hb dJ0_length_8abf5_0 rfl (lv_at hl 0 rfl) ?_
  refine vk_getf hx hb (hE.2.1.1 1 (by decide)).2.2.1 hH.2 hown (hts _ am_q2023) (fun _ h => h) dJ0_length_8abf5_1 ?_
  refine va_tlen (v := 5) hx hb (hE.2.1.1 1 (by decide)).2.2.2 hH.2 rfl dJ0_length_8abf5_4 ?_
  refine lv_aload_n hx hb dJ0_length_8abf5_5 rfl (lv_at hl 0 rfl) ?_
  obtain ⟨r_6, w_4, hq_5, hf⟩ := am_b2_some hf
  refine am_calli (r := r_6) (w' := w_4) (am_runVT (n := 0) (As := []) (rest := [.int (5 : Int32)]) 1 (by decide) ⟨hx, hb, hml, hown, hts⟩ hK hE hH (k_J0_coder_7d493_t1 hq_5) (am_gV am_q449 am_q450 am_q451 am_q16 am_q452) ⟨rfl, rfl⟩ (by decide +kernel) ⟨Nat.le_of_ble_eq_true rfl, Nat.le_of_ble_eq_true rfl⟩ rfl hl.1 rfl (Nat.le_of_ble_eq_true rfl) ⟨Nat.zero_le _, Nat.zero_le _⟩ dJ0_length_8abf5_6) hH (fun H locs hH => ?_)
  refine lv_ishr hx hb dJ0_length_8abf5_9 ?_
  exact am_reti hx hb hr hlocks hH hf dJ0_length_8abf5_10

def f_J0_isLatin1_aae02_t1_18  (s0 : Int32) (w : am_S) : Option (Int32 × am_S) :=
  am_nar .boolean s0 (some (s0, w))
def f_J0_isLatin1_aae02_t1_17  (w : am_S) : Option (Int32 × am_S) :=
  f_J0_isLatin1_aae02_t1_18 (0 : Int32) w
def f_J0_isLatin1_aae02_t1  (w : am_S) : Option (Int32 × am_S) :=
  if (1 : Int32) = 0 then (f_J0_isLatin1_aae02_t1_17 w) else (if (0 : Int32) = 0 then (f_J0_isLatin1_aae02_t1_18 (1 : Int32) w) else (f_J0_isLatin1_aae02_t1_17 w))
set_option maxRecDepth 100000 in
set_option maxHeartbeats 4000000 in
theorem k_J0_isLatin1_aae02_t1 {G : am_G} {l : Launch}   {w : am_S} {rr : Int32} {ww : am_S} (hf : f_J0_isLatin1_aae02_t1  w = some (rr, ww)) : am_Mi G l yJ0_isLatin1_aae02 (Cond.code yJ0_isLatin1_aae02 cJ0_isLatin1_aae02 1 (some .boolean) :: am_T) { frames := 0, cells := 0, slots := 0, locals := 0 } [.ref (G.2.2.2.2.1 1)] w rr ww := by
  refine Met.ofW (cc := cJ0_isLatin1_aae02) (maxL := 1) (ret := (some .boolean)) (by decide) rfl ?_
  intro p e s m args below meth c s₁ B hml hv
  obtain ⟨rfl, hx, hb, hr, hts, hown, hlocks, hK, hE, hH⟩ := am_begin B hv
  have hown : s.vm.findClass RJ0 = some m.cls := hown
  show W p l e { frames := 0, cells := 0, slots := 0, locals := 0 } s m _ below meth c s.heap [] 0 0 _ _
  have P18 : ∀ (s0 : Int32) (w : am_S) (H : Heap) (locs : List Loc) (ls : Array Slot), f_J0_isLatin1_aae02_t1_18 s0 w = some (rr, ww) → am_H G w s H locs → lv_has ls 1 [] → W p l e { frames := 0, cells := 0, slots := 0, locals := 0 } s m [.ref (G.2.2.2.2.1 1)].toArray below meth c H locs 0 0 (MQ below (va_Qi (fun (x : Int32) (u : am_S) => x = rr ∧ u = ww) (am_U G) (am_A G)) [.ref (G.2.2.2.2.1 1)].toArray s 0 0 (am_A G)) (F0 m 18 ls [.int s0]) := by
    intro s0 w H locs ls hf hH hl
    unfold f_J0_isLatin1_aae02_t1_18 at hf
    obtain ⟨hr_3, hf⟩ := am_nar_some hf
    exact am_retz hx hb hr hr_3.1 hlocks hH hf dJ0_isLatin1_aae02_18
  have P17 : ∀ (w : am_S) (H : Heap) (locs : List Loc) (ls : Array Slot), f_J0_isLatin1_aae02_t1_17 w = some (rr, ww) → am_H G w s H locs → lv_has ls 1 [] → W p l e { frames := 0, cells := 0, slots := 0, locals := 0 } s m [.ref (G.2.2.2.2.1 1)].toArray below meth c H locs 0 0 (MQ below (va_Qi (fun (x : Int32) (u : am_S) => x = rr ∧ u = ww) (am_U G) (am_A G)) [.ref (G.2.2.2.2.1 1)].toArray s 0 0 (am_A G)) (F0 m 17 ls []) := by
    intro w H locs ls hf hH hl
    unfold f_J0_isLatin1_aae02_t1_17 at hf
    refine lv_iconst (v := 0) hx hb dJ0_isLatin1_aae02_17 (by decide) ?_
    exact P18 (0 : Int32) w H locs ls hf hH (lv_sub hl [] rfl)
  refine am_enter (lv := [(0, .ref (G.2.2.2.2.1 1))]) (Nat.le_of_ble_eq_true rfl) rfl (fun ls hl => ?_)
  unfold f_J0_isLatin1_aae02_t1 at hf
  refine am_start hH (fun H locs hH => ?_)
  refine va_gets hx hb hE.2.2.2.1 hH.2 hown (hts _ am_q453) (fun _ h => h) dJ0_isLatin1_aae02_0 ?_
  refine lv_if_eq (tgt := 17) hx hb dJ0_isLatin1_aae02_3 (by decide) (fun hc_4 => ?_) (fun hc_4 => ?_)
  · have hf := (if_pos hc_4).symm.trans hf
    exact P17 w H locs ls hf hH (lv_sub hl [] rfl)
  · have hf := (if_neg hc_4).symm.trans hf
    refine lv_aload_n hx hb dJ0_isLatin1_aae02_6 rfl (lv_at hl 0 rfl) ?_
    refine vk_getf hx hb (hE.2.1.1 1 (by decide)).2.1 hH.2 hown (hts _ am_q2024) (fun _ h => h) dJ0_isLatin1_aae02_7 ?_
    refine lv_if_ne (tgt := 17) hx hb dJ0_isLatin1_aae02_10 (by decide) (fun hc_5 => ?_) (fun hc_5 => ?_)
    · have hf := (if_neg hc_5).symm.trans hf
      exact P17 w H locs ls hf hH (lv_sub hl [] rfl)
    · have hf := (if_pos hc_5).symm.trans hf
      refine lv_iconst (v := 1) hx hb dJ0_isLatin1_aae02_13 (by decide) ?_
      refine lv_goto (tgt := 18) hx hb dJ0_isLatin1_aae02_14 (by decide) ?_
      exact P18 (1 : Int32) w H locs ls hf hH (lv_sub hl [] rfl)

def f_J1_indexOfChar_4cfef_b1_7b (a1 : Int32) (a2 : Int32) (a3 : Int32) (x4 : Int32) (x5 : Int32) (w : am_S) : Option ((Int32 × am_S) ⊕ (Int32 × am_S)) :=
  if a3 ≤ x5 then (am_x (some ((-1 : Int32), w))) else (am_chk x5 5 (if (am_bv 1 x5.toNatClampNeg) = x4 then (am_x (some (x5, w))) else (am_v (x5 + (1 : Int32)) fun (x5_10 : Int32) => some (.inr (x5_10, w)))))
def f_J1_indexOfChar_4cfef_b1_7 (a1 : Int32) (a2 : Int32) (a3 : Int32) (x4 : Int32) (x5 : Int32) (w : am_S) : Option (Int32 × am_S) :=
  am_loop (fun (st : (Int32 × am_S)) => f_J1_indexOfChar_4cfef_b1_7b a1 a2 a3 x4 st.1 st.2) am_fuel (x5, w)
def f_J1_indexOfChar_4cfef_b1 (a1 : Int32) (a2 : Int32) (a3 : Int32) (w : am_S) : Option (Int32 × am_S) :=
  am_v (a1.toInt8.toInt32) fun (x4_12 : Int32) => f_J1_indexOfChar_4cfef_b1_7 a1 a2 a3 x4_12 a2 w
set_option maxRecDepth 100000 in
set_option maxHeartbeats 4000000 in
theorem k_J1_indexOfChar_4cfef_b1 {G : am_G} {l : Launch} {a1 : Int32} {a2 : Int32} {a3 : Int32}  {w : am_S} {rr : Int32} {ww : am_S} (hf : f_J1_indexOfChar_4cfef_b1 a1 a2 a3 w = some (rr, ww)) : am_Mi G l yJ1_indexOfChar_4cfef (Cond.code yJ1_indexOfChar_4cfef cJ1_indexOfChar_4cfef 6 (some .int) :: am_T) { frames := 0, cells := 0, slots := 0, locals := 0 } [.ref (G.2.2.2.2.2 1), .int a1, .int a2, .int a3] w rr ww := by
  refine Met.ofW (cc := cJ1_indexOfChar_4cfef) (maxL := 6) (ret := (some .int)) (by decide) rfl ?_
  intro p e s m args below meth c s₁ B hml hv
  obtain ⟨rfl, hx, hb, hr, hts, hown, hlocks, hK, hE, hH⟩ := am_begin B hv
  have hown : s.vm.findClass RJ1 = some m.cls := hown
  show W p l e { frames := 0, cells := 0, slots := 0, locals := 0 } s m _ below meth c s.heap [] 0 0 _ _
  have P7 : ∀ (x4 : Int32) (n1 : Nat) (x5 : Int32) (w : am_S) (H : Heap) (locs : List Loc) (ls : Array Slot), am_loop (fun (st : (Int32 × am_S)) => f_J1_indexOfChar_4cfef_b1_7b a1 a2 a3 x4 st.1 st.2) n1 (x5, w) = some (rr, ww) → am_H G w s H locs → lv_has ls 6 [(0, .ref (G.2.2.2.2.2 1)), (3, .int a3), (4, .int x4), (5, .int x5)] → W p l e { frames := 0, cells := 0, slots := 0, locals := 0 } s m [.ref (G.2.2.2.2.2 1), .int a1, .int a2, .int a3].toArray below meth c H locs 0 0 (MQ below (va_Qi (fun (x : Int32) (u : am_S) => x = rr ∧ u = ww) (am_U G) (am_A G)) [.ref (G.2.2.2.2.2 1), .int a1, .int a2, .int a3].toArray s 0 0 (am_A G)) (F0 m 7 ls []) := by
    intro x4 n1
    induction n1 with
    | zero =>
      intro x5 w H locs ls hf hH hl
      exact (am_loop_zero hf).elim
    | succ n1 ih1 =>
      intro x5 w H locs ls hf hH hl
      obtain ⟨z1, hf, hk1⟩ := am_loop_succ hf
      have hf : f_J1_indexOfChar_4cfef_b1_7b a1 a2 a3 x4 x5 w = some z1 := hf
      unfold f_J1_indexOfChar_4cfef_b1_7b at hf
      refine lv_iload hx hb dJ1_indexOfChar_4cfef_7 (lv_at hl 3 rfl) ?_
      refine lv_iload_n hx hb dJ1_indexOfChar_4cfef_9 rfl (lv_at hl 1 rfl) ?_
      refine lv_icmp_ge (tgt := 31) hx hb dJ1_indexOfChar_4cfef_10 (by decide) (fun hc_6 => ?_) (fun hc_6 => ?_)
      · have hf := (if_pos hc_6).symm.trans hf
        obtain ⟨y_7, hf, hzy_7⟩ := am_x_some hf
        rw [hzy_7] at hk1
        have hf := hf.trans (congrArg some (show y_7 = (rr, ww) from hk1))
        refine lv_iconst (v := -1) hx hb dJ1_indexOfChar_4cfef_31 (by decide) ?_
        exact am_reti hx hb hr hlocks hH hf dJ1_indexOfChar_4cfef_32
      · have hf := (if_neg hc_6).symm.trans hf
        refine lv_aload_n hx hb dJ1_indexOfChar_4cfef_13 rfl (lv_at hl 0 rfl) ?_
        refine lv_iload hx hb dJ1_indexOfChar_4cfef_14 (lv_at hl 3 rfl) ?_
        obtain ⟨hi_8, hf⟩ := am_chk_some hf
        refine va_tb hx hb (hE.2.1.1 1 (by decide)).2.2.2 hH.2 hi_8 rfl dJ1_indexOfChar_4cfef_16 ?_
        refine lv_iload hx hb dJ1_indexOfChar_4cfef_17 (lv_at hl 2 rfl) ?_
        refine lv_icmp_ne (tgt := 25) hx hb dJ1_indexOfChar_4cfef_19 (by decide) (fun hc_9 => ?_) (fun hc_9 => ?_)
        · have hf := (if_neg hc_9).symm.trans hf
          obtain ⟨x5_10, hx5_10, hf⟩ := am_v_some hf
          refine lv_iinc (v := x5_10) (lv' := [(5, .int x5_10), (0, .ref (G.2.2.2.2.2 1)), (3, .int a3), (4, .int x4)]) hx hb dJ1_indexOfChar_4cfef_25 hl (k := 3) rfl (by rw [hx5_10]; rfl) (by decide) rfl (fun ls hl => ?_)
          refine lv_goto (tgt := 7) hx hb dJ1_indexOfChar_4cfef_28 (by decide) ?_
          obtain rfl := Option.some.inj hf
          exact ih1 x5_10 w H locs ls hk1 hH (lv_sub hl [1, 2, 3, 0] rfl)
        · have hf := (if_pos hc_9).symm.trans hf
          obtain ⟨y_11, hf, hzy_11⟩ := am_x_some hf
          rw [hzy_11] at hk1
          have hf := hf.trans (congrArg some (show y_11 = (rr, ww) from hk1))
          refine lv_iload hx hb dJ1_indexOfChar_4cfef_22 (lv_at hl 3 rfl) ?_
          exact am_reti hx hb hr hlocks hH hf dJ1_indexOfChar_4cfef_24
  refine am_enter (lv := [(0, .ref (G.2.2.2.2.2 1)), (1, .int a1), (2, .int a2), (3, .int a3)]) (Nat.le_of_ble_eq_true rfl) rfl (fun ls hl => ?_)
  unfold f_J1_indexOfChar_4cfef_b1 at hf
  refine am_start hH (fun H locs hH => ?_)
  refine lv_iload_n hx hb dJ1_indexOfChar_4cfef_0 rfl (lv_at hl 1 rfl) ?_
  refine lv_i2b hx hb dJ1_indexOfChar_4cfef_1 rfl ?_
  obtain ⟨x4_12, hx4_12, hf⟩ := am_v_some hf
  refine am_topi hx4_12 ?_
  refine lv_istore (lv' := [(4, .int x4_12), (0, .ref (G.2.2.2.2.2 1)), (1, .int a1), (2, .int a2), (3, .int a3)]) hx hb dJ1_indexOfChar_4cfef_2 hl (by decide) rfl (fun ls hl => ?_)
  refine lv_iload_n hx hb dJ1_indexOfChar_4cfef_4 rfl (lv_at hl 3 rfl) ?_
  refine lv_istore (lv' := [(5, .int a2), (4, .int x4_12), (0, .ref (G.2.2.2.2.2 1)), (1, .int a1), (2, .int a2), (3, .int a3)]) hx hb dJ1_indexOfChar_4cfef_5 hl (by decide) rfl (fun ls hl => ?_)
  exact P7 x4_12 am_fuel a2 w H locs ls hf hH (lv_sub hl [2, 5, 1, 0] rfl)

def f_J1_indexOf_4cfef_b1 (a1 : Int32) (a2 : Int32) (a3 : Int32) (w : am_S) : Option (Int32 × am_S) :=
  am_b2 (f_J1_canEncode_9a6ad a1 w) fun r_17 w_15 => if r_17 = 0 then (some ((-1 : Int32), w_15)) else (am_b2 (f_J9_max_7cf53 a2 (0 : Int32) w_15) fun r_21 w_19 => am_b2 (f_J9_min_7cf53 a3 (5 : Int32) w_19) fun r_24 w_22 => if r_21 < r_24 then (am_b2 (f_J1_indexOfChar_4cfef_b1 a1 r_21 r_24 w_22) fun r_28 w_26 => some (r_28, w_26)) else (some ((-1 : Int32), w_22)))
set_option maxRecDepth 100000 in
set_option maxHeartbeats 4000000 in
theorem k_J1_indexOf_4cfef_b1 {G : am_G} {l : Launch} {a1 : Int32} {a2 : Int32} {a3 : Int32}  {w : am_S} {rr : Int32} {ww : am_S} (hf : f_J1_indexOf_4cfef_b1 a1 a2 a3 w = some (rr, ww)) : am_Mi G l yJ1_indexOf_4cfef (Cond.code yJ1_indexOf_4cfef cJ1_indexOf_4cfef 4 (some .int) :: am_T) { frames := 1, cells := 0, slots := 0, locals := 64 } [.ref (G.2.2.2.2.2 1), .int a1, .int a2, .int a3] w rr ww := by
  refine Met.ofW (cc := cJ1_indexOf_4cfef) (maxL := 4) (ret := (some .int)) (by decide) rfl ?_
  intro p e s m args below meth c s₁ B hml hv
  obtain ⟨rfl, hx, hb, hr, hts, hown, hlocks, hK, hE, hH⟩ := am_begin B hv
  have hown : s.vm.findClass RJ1 = some m.cls := hown
  show W p l e { frames := 1, cells := 0, slots := 0, locals := 64 } s m _ below meth c s.heap [] 0 0 _ _
  refine am_enter (lv := [(0, .ref (G.2.2.2.2.2 1)), (1, .int a1), (2, .int a2), (3, .int a3)]) (Nat.le_of_ble_eq_true rfl) rfl (fun ls hl => ?_)
  unfold f_J1_indexOf_4cfef_b1 at hf
  refine am_start hH (fun H locs hH => ?_)
  refine lv_iload_n hx hb dJ1_indexOf_4cfef_0 rfl (lv_at hl 1 rfl) ?_
  obtain ⟨r_17, w_15, hq_16, hf⟩ := am_b2_some hf
  refine am_calli (r := r_17) (w' := w_15) (am_runS (n := 1) (As := [.int a1]) (rest := []) ⟨hx, hb, hml, hown, hts⟩ hK hE hH (k_J1_canEncode_9a6ad hq_16) (am_gS am_q471 am_q472 am_q17 am_q473) ⟨rfl, rfl⟩ (by decide +kernel) ⟨Nat.le_of_ble_eq_true rfl, Nat.le_of_ble_eq_true rfl⟩ rfl hl.1 rfl (Nat.le_of_ble_eq_true rfl) ⟨Nat.zero_le _, Nat.zero_le _⟩ dJ1_indexOf_4cfef_1) hH (fun H locs hH => ?_)
  refine lv_if_ne (tgt := 9) hx hb dJ1_indexOf_4cfef_4 (by decide) (fun hc_18 => ?_) (fun hc_18 => ?_)
  · have hf := (if_neg hc_18).symm.trans hf
    refine lv_iload_n hx hb dJ1_indexOf_4cfef_9 rfl (lv_at hl 2 rfl) ?_
    refine lv_iconst (v := 0) hx hb dJ1_indexOf_4cfef_10 (by decide) ?_
    obtain ⟨r_21, w_19, hq_20, hf⟩ := am_b2_some hf
    refine am_calli (r := r_21) (w' := w_19) (am_runS (n := 2) (As := [.int a2, .int (0 : Int32)]) (rest := []) ⟨hx, hb, hml, hown, hts⟩ hK hE hH (k_J9_max_7cf53 hq_20) (am_gS am_q474 am_q475 am_q18 am_q476) ⟨rfl, rfl⟩ (by decide +kernel) ⟨Nat.le_of_ble_eq_true rfl, Nat.le_of_ble_eq_true rfl⟩ rfl hl.1 rfl (Nat.le_of_ble_eq_true rfl) ⟨Nat.zero_le _, Nat.zero_le _⟩ dJ1_indexOf_4cfef_11) hH (fun H locs hH => ?_)
    refine lv_istore_n (lv' := [(2, .int r_21), (0, .ref (G.2.2.2.2.2 1)), (1, .int a1), (3, .int a3)]) hx hb dJ1_indexOf_4cfef_14 rfl hl (by decide) rfl (fun ls hl => ?_)
    refine lv_iload_n hx hb dJ1_indexOf_4cfef_15 rfl (lv_at hl 3 rfl) ?_
    refine lv_aload_n hx hb dJ1_indexOf_4cfef_16 rfl (lv_at hl 1 rfl) ?_
    refine va_tlen (v := 5) hx hb (hE.2.1.1 1 (by decide)).2.2.2 hH.2 rfl dJ1_indexOf_4cfef_17 ?_
    obtain ⟨r_24, w_22, hq_23, hf⟩ := am_b2_some hf
    refine am_calli (r := r_24) (w' := w_22) (am_runS (n := 2) (As := [.int a3, .int (5 : Int32)]) (rest := []) ⟨hx, hb, hml, hown, hts⟩ hK hE hH (k_J9_min_7cf53 hq_23) (am_gS am_q477 am_q478 am_q18 am_q479) ⟨rfl, rfl⟩ (by decide +kernel) ⟨Nat.le_of_ble_eq_true rfl, Nat.le_of_ble_eq_true rfl⟩ rfl hl.1 rfl (Nat.le_of_ble_eq_true rfl) ⟨Nat.zero_le _, Nat.zero_le _⟩ dJ1_indexOf_4cfef_18) hH (fun H locs hH => ?_)
    refine lv_istore_n (lv' := [(3, .int r_24), (2, .int r_21), (0, .ref (G.2.2.2.2.2 1)), (1, .int a1)]) hx hb dJ1_indexOf_4cfef_21 rfl hl (by decide) rfl (fun ls hl => ?_)
    refine lv_iload_n hx hb dJ1_indexOf_4cfef_22 rfl (lv_at hl 1 rfl) ?_
    refine lv_iload_n hx hb dJ1_indexOf_4cfef_23 rfl (lv_at hl 0 rfl) ?_
    refine lv_icmp_lt (tgt := 29) hx hb dJ1_indexOf_4cfef_24 (by decide) (fun hc_25 => ?_) (fun hc_25 => ?_)
    · have hf := (if_pos hc_25).symm.trans hf
      refine lv_aload_n hx hb dJ1_indexOf_4cfef_29 rfl (lv_at hl 2 rfl) ?_
      refine lv_iload_n hx hb dJ1_indexOf_4cfef_30 rfl (lv_at hl 3 rfl) ?_
      refine lv_iload_n hx hb dJ1_indexOf_4cfef_31 rfl (lv_at hl 1 rfl) ?_
      refine lv_iload_n hx hb dJ1_indexOf_4cfef_32 rfl (lv_at hl 0 rfl) ?_
      obtain ⟨r_28, w_26, hq_27, hf⟩ := am_b2_some hf
      refine am_calli (r := r_28) (w' := w_26) (am_runS (n := 4) (As := [.ref (G.2.2.2.2.2 1), .int a1, .int r_21, .int r_24]) (rest := []) ⟨hx, hb, hml, hown, hts⟩ hK hE hH (k_J1_indexOfChar_4cfef_b1 hq_27) (am_gS am_q480 am_q481 am_q17 am_q482) ⟨rfl, rfl⟩ (by decide +kernel) ⟨Nat.le_of_ble_eq_true rfl, Nat.le_of_ble_eq_true rfl⟩ rfl hl.1 rfl (Nat.le_of_ble_eq_true rfl) ⟨Nat.zero_le _, Nat.zero_le _⟩ dJ1_indexOf_4cfef_33) hH (fun H locs hH => ?_)
      exact am_reti hx hb hr hlocks hH hf dJ1_indexOf_4cfef_36
    · have hf := (if_neg hc_25).symm.trans hf
      refine lv_iconst (v := -1) hx hb dJ1_indexOf_4cfef_27 (by decide) ?_
      exact am_reti hx hb hr hlocks hH hf dJ1_indexOf_4cfef_28
  · have hf := (if_pos hc_18).symm.trans hf
    refine lv_iconst (v := -1) hx hb dJ1_indexOf_4cfef_7 (by decide) ?_
    exact am_reti hx hb hr hlocks hH hf dJ1_indexOf_4cfef_8

def f_J0_indexOf_7cf53_t1_36 (a1 : Int32) (a2 : Int32) (s0 : Int32) (w : am_S) : Option (Int32 × am_S) :=
  some (s0, w)
def f_J0_indexOf_7cf53_t1 (a1 : Int32) (a2 : Int32) (w : am_S) : Option (Int32 × am_S) :=
  am_b2 (f_J0_isLatin1_aae02_t1 w) fun r_16 w_14 => if r_16 = 0 then (am_b2 (f_J0_length_8abf5_t1 w_14) fun r_20 w_18 => none) else (am_b2 (f_J0_length_8abf5_t1 w_14) fun r_23 w_21 => am_b2 (f_J1_indexOf_4cfef_b1 a1 a2 r_23 w_21) fun r_26 w_24 => f_J0_indexOf_7cf53_t1_36 a1 a2 r_26 w_24)
set_option maxRecDepth 100000 in
set_option maxHeartbeats 4000000 in
theorem k_J0_indexOf_7cf53_t1 {G : am_G} {l : Launch} {a1 : Int32} {a2 : Int32}  {w : am_S} {rr : Int32} {ww : am_S} (hf : f_J0_indexOf_7cf53_t1 a1 a2 w = some (rr, ww)) : am_Mi G l yJ0_indexOf_7cf53 (Cond.code yJ0_indexOf_7cf53 cJ0_indexOf_7cf53 3 (some .int) :: am_T) { frames := 2, cells := 0, slots := 0, locals := 128 } [.ref (G.2.2.2.2.1 1), .int a1, .int a2] w rr ww := by
  refine Met.ofW (cc := cJ0_indexOf_7cf53) (maxL := 3) (ret := (some .int)) (by decide) rfl ?_
  intro p e s m args below meth c s₁ B hml hv
  obtain ⟨rfl, hx, hb, hr, hts, hown, hlocks, hK, hE, hH⟩ := am_begin B hv
  have hown : s.vm.findClass RJ0 = some m.cls := hown
  show W p l e { frames := 2, cells := 0, slots := 0, locals := 128 } s m _ below meth c s.heap [] 0 0 _ _
  have P36 : ∀ (s0 : Int32) (w : am_S) (H : Heap) (locs : List Loc) (ls : Array Slot), f_J0_indexOf_7cf53_t1_36 a1 a2 s0 w = some (rr, ww) → am_H G w s H locs → lv_has ls 3 [] → W p l e { frames := 2, cells := 0, slots := 0, locals := 128 } s m [.ref (G.2.2.2.2.1 1), .int a1, .int a2].toArray below meth c H locs 0 0 (MQ below (va_Qi (fun (x : Int32) (u : am_S) => x = rr ∧ u = ww) (am_U G) (am_A G)) [.ref (G.2.2.2.2.1 1), .int a1, .int a2].toArray s 0 0 (am_A G)) (F0 m 36 ls [.int s0]) := by
    intro s0 w H locs ls hf hH hl
    unfold f_J0_indexOf_7cf53_t1_36 at hf
    exact am_reti hx hb hr hlocks hH hf dJ0_indexOf_7cf53_36
  refine am_enter (lv := [(0, .ref (G.2.2.2.2.1 1)), (1, .int a1), (2, .int a2)]) (Nat.le_of_ble_eq_true rfl) rfl (fun ls hl => ?_)
  unfold f_J0_indexOf_7cf53_t1 at hf
  refine am_start hH (fun H locs hH => ?_)
  refine lv_aload_n hx hb dJ0_indexOf_7cf53_0 rfl (lv_at hl 0 rfl) ?_
  obtain ⟨r_16, w_14, hq_15, hf⟩ := am_b2_some hf
  refine am_calli (r := r_16) (w' := w_14) (am_runVT (n := 0) (As := []) (rest := []) 1 (by decide) ⟨hx, hb, hml, hown, hts⟩ hK hE hH (k_J0_isLatin1_aae02_t1 hq_15) (am_gV am_q463 am_q464 am_q465 am_q16 am_q466) ⟨rfl, rfl⟩ (by decide +kernel) ⟨Nat.le_of_ble_eq_true rfl, Nat.le_of_ble_eq_true rfl⟩ rfl hl.1 rfl (Nat.le_of_ble_eq_true rfl) ⟨Nat.zero_le _, Nat.zero_le _⟩ dJ0_indexOf_7cf53_1) hH (fun H locs hH => ?_)
  refine lv_if_eq (tgt := 23) hx hb dJ0_indexOf_7cf53_4 (by decide) (fun hc_17 => ?_) (fun hc_17 => ?_)
  · have hf := (if_pos hc_17).symm.trans hf
    refine lv_aload_n hx hb dJ0_indexOf_7cf53_23 rfl (lv_at hl 0 rfl) ?_
    refine vk_getf hx hb (hE.2.1.1 1 (by decide)).2.2.1 hH.2 hown (hts _ am_q2023) (fun _ h => h) dJ0_indexOf_7cf53_24 ?_
    refine lv_iload_n hx hb dJ0_indexOf_7cf53_27 rfl (lv_at hl 1 rfl) ?_
    refine lv_iload_n hx hb dJ0_indexOf_7cf53_28 rfl (lv_at hl 2 rfl) ?_
    refine lv_aload_n hx hb dJ0_indexOf_7cf53_29 rfl (lv_at hl 0 rfl) ?_
    obtain ⟨r_20, w_18, hq_19, hf⟩ := am_b2_some hf
    refine am_calli (r := r_20) (w' := w_18) (am_runVT (n := 0) (As := []) (rest := [.int a2, .int a1, .ref (G.2.2.2.2.2 1)]) 1 (by decide) ⟨hx, hb, hml, hown, hts⟩ hK hE hH (k_J0_length_8abf5_t1 hq_19) (am_gV am_q467 am_q446 am_q447 am_q16 am_q448) ⟨rfl, rfl⟩ (by decide +kernel) ⟨Nat.le_of_ble_eq_true rfl, Nat.le_of_ble_eq_true rfl⟩ rfl hl.1 rfl (Nat.le_of_ble_eq_true rfl) ⟨Nat.zero_le _, Nat.zero_le _⟩ dJ0_indexOf_7cf53_30) hH (fun H locs hH => ?_)
    cases hf
  · have hf := (if_neg hc_17).symm.trans hf
    refine lv_aload_n hx hb dJ0_indexOf_7cf53_7 rfl (lv_at hl 0 rfl) ?_
    refine vk_getf hx hb (hE.2.1.1 1 (by decide)).2.2.1 hH.2 hown (hts _ am_q2023) (fun _ h => h) dJ0_indexOf_7cf53_8 ?_
    refine lv_iload_n hx hb dJ0_indexOf_7cf53_11 rfl (lv_at hl 1 rfl) ?_
    refine lv_iload_n hx hb dJ0_indexOf_7cf53_12 rfl (lv_at hl 2 rfl) ?_
    refine lv_aload_n hx hb dJ0_indexOf_7cf53_13 rfl (lv_at hl 0 rfl) ?_
    obtain ⟨r_23, w_21, hq_22, hf⟩ := am_b2_some hf
    refine am_calli (r := r_23) (w' := w_21) (am_runVT (n := 0) (As := []) (rest := [.int a2, .int a1, .ref (G.2.2.2.2.2 1)]) 1 (by decide) ⟨hx, hb, hml, hown, hts⟩ hK hE hH (k_J0_length_8abf5_t1 hq_22) (am_gV am_q467 am_q446 am_q447 am_q16 am_q448) ⟨rfl, rfl⟩ (by decide +kernel) ⟨Nat.le_of_ble_eq_true rfl, Nat.le_of_ble_eq_true rfl⟩ rfl hl.1 rfl (Nat.le_of_ble_eq_true rfl) ⟨Nat.zero_le _, Nat.zero_le _⟩ dJ0_indexOf_7cf53_14) hH (fun H locs hH => ?_)
    obtain ⟨r_26, w_24, hq_25, hf⟩ := am_b2_some hf
    refine am_calli (r := r_26) (w' := w_24) (am_runS (n := 4) (As := [.ref (G.2.2.2.2.2 1), .int a1, .int a2, .int r_23]) (rest := []) ⟨hx, hb, hml, hown, hts⟩ hK hE hH (k_J1_indexOf_4cfef_b1 hq_25) (am_gS am_q468 am_q469 am_q17 am_q470) ⟨rfl, rfl⟩ (by decide +kernel) ⟨Nat.le_of_ble_eq_true rfl, Nat.le_of_ble_eq_true rfl⟩ rfl hl.1 rfl (Nat.le_of_ble_eq_true rfl) ⟨Nat.zero_le _, Nat.zero_le _⟩ dJ0_indexOf_7cf53_17) hH (fun H locs hH => ?_)
    refine lv_goto (tgt := 36) hx hb dJ0_indexOf_7cf53_20 (by decide) ?_
    exact P36 r_26 w_24 H locs ls hf hH (lv_sub hl [] rfl)

def f_J0_indexOf_0f7a4_t1 (a1 : Int32) (w : am_S) : Option (Int32 × am_S) :=
  am_b2 (f_J0_indexOf_7cf53_t1 a1 (0 : Int32) w) fun r_6 w_4 => some (r_6, w_4)
set_option maxRecDepth 100000 in
set_option maxHeartbeats 4000000 in
theorem k_J0_indexOf_0f7a4_t1 {G : am_G} {l : Launch} {a1 : Int32}  {w : am_S} {rr : Int32} {ww : am_S} (hf : f_J0_indexOf_0f7a4_t1 a1 w = some (rr, ww)) : am_Mi G l yJ0_indexOf_0f7a4 (Cond.code yJ0_indexOf_0f7a4 cJ0_indexOf_0f7a4 2 (some .int) :: am_T) { frames := 3, cells := 0, slots := 0, locals := 192 } [.ref (G.2.2.2.2.1 1), .int a1] w rr ww := by
  refine Met.ofW (cc := cJ0_indexOf_0f7a4) (maxL := 2) (ret := (some .int)) (by decide) rfl ?_
  intro p e s m args below meth c s₁ B hml hv
  obtain ⟨rfl, hx, hb, hr, hts, hown, hlocks, hK, hE, hH⟩ := am_begin B hv
  have hown : s.vm.findClass RJ0 = some m.cls := hown
  show W p l e { frames := 3, cells := 0, slots := 0, locals := 192 } s m _ below meth c s.heap [] 0 0 _ _
  refine am_enter (lv := [(0, .ref (G.2.2.2.2.1 1)), (1, .int a1)]) (Nat.le_of_ble_eq_true rfl) rfl (fun ls hl => ?_)
  unfold f_J0_indexOf_0f7a4_t1 at hf
  refine am_start hH (fun H locs hH => ?_)
  refine lv_aload_n hx hb dJ0_indexOf_0f7a4_0 rfl (lv_at hl 0 rfl) ?_
  refine lv_iload_n hx hb dJ0_indexOf_0f7a4_1 rfl (lv_at hl 1 rfl) ?_
  refine lv_iconst (v := 0) hx hb dJ0_indexOf_0f7a4_2 (by decide) ?_
  obtain ⟨r_6, w_4, hq_5, hf⟩ := am_b2_some hf
  refine am_calli (r := r_6) (w' := w_4) (am_runVT (n := 2) (As := [.int a1, .int (0 : Int32)]) (rest := []) 1 (by decide) ⟨hx, hb, hml, hown, hts⟩ hK hE hH (k_J0_indexOf_7cf53_t1 hq_5) (am_gV am_q459 am_q460 am_q461 am_q16 am_q462) ⟨rfl, rfl⟩ (by decide +kernel) ⟨Nat.le_of_ble_eq_true rfl, Nat.le_of_ble_eq_true rfl⟩ rfl hl.1 rfl (Nat.le_of_ble_eq_true rfl) ⟨Nat.zero_le _, Nat.zero_le _⟩ dJ0_indexOf_0f7a4_3) hH (fun H locs hH => ?_)
  exact am_reti hx hb hr hlocks hH hf dJ0_indexOf_0f7a4_6

def f_X1_readItems_t1_x3_x4_x5_57 (o0 : Nat) (w : am_S) : Option (Int32 × am_S) :=
  some ((1 : Int32), w)
def f_X1_readItems_t1_x3_x4_x5_82 (o0 : Nat) (w : am_S) : Option (Int32 × am_S) :=
  some ((0 : Int32), w)
def f_X1_readItems_t1_x3_x4_x5_30b (o0 : Nat) (x6 : Int32) (x7 : Int32) (w : am_S) : Option ((Int32 × am_S) ⊕ (Int32 × Int32 × am_S)) :=
  am_b2 (f_J0_length_8abf5_t1 w) fun r_30 w_28 => if r_30 < x7 then (am_x (some ((0 : Int32), w_28))) else (am_b2 (f_X10_nextSign w_28) fun r_35 w_33 => if r_35 = 0 then (am_x (f_X1_readItems_t1_x3_x4_x5_57 o0 w_33)) else (if r_35 = (59 : Int32) then (am_x (f_X1_readItems_t1_x3_x4_x5_57 o0 w_33)) else (am_b2 (f_J0_indexOf_0f7a4_t1 r_35 w_33) fun r_41 w_39 => if r_41 < 0 then (am_x (f_X1_readItems_t1_x3_x4_x5_82 o0 w_39)) else (if ((x6 >>> (r_41 &&& 31)) &&& (1 : Int32)) = 0 then (am_v (am_pi w_39 1 2 ((w_39.1 1 2) + (1 : Int32))) fun (w_45 : am_S) => am_chk r_41 5 (am_chk r_41 5 (am_b2 (f_X10_readNumber (am_sv 3 r_41.toNatClampNeg) (am_sv 4 r_41.toNatClampNeg) w_45) fun r_50 w_48 => if r_50 = 0 then (am_x (some ((0 : Int32), w_48))) else (am_chk r_41 5 (am_v (am_pi w_48 (o0 + 1) r_41.toNatClampNeg (w_48.1 1 3)) fun (w_53 : am_S) => am_v (x6 ||| ((1 : Int32) <<< (r_41 &&& 31))) fun (x6_54 : Int32) => am_v (x7 + (1 : Int32)) fun (x7_55 : Int32) => some (.inr (x6_54, x7_55, w_53))))))) else (am_x (f_X1_readItems_t1_x3_x4_x5_82 o0 w_39))))))
def f_X1_readItems_t1_x3_x4_x5_30 (o0 : Nat) (x6 : Int32) (x7 : Int32) (w : am_S) : Option (Int32 × am_S) :=
  am_loop (fun (st : (Int32 × Int32 × am_S)) => f_X1_readItems_t1_x3_x4_x5_30b o0 st.1 st.2.1 st.2.2) am_fuel (x6, x7, w)
def f_X1_readItems_t1_x3_x4_x5 (o0 : Nat) (w : am_S) : Option (Int32 × am_S) :=
  am_v (am_cx w (am_sv 5) 0 (o0 + 1) 0 5) fun (w_59 : am_S) => am_v (am_pi w_59 1 2 ((w_59.1 1 2) + (1 : Int32))) fun (w_60 : am_S) => f_X1_readItems_t1_x3_x4_x5_30 o0 (0 : Int32) (0 : Int32) w_60
set_option maxRecDepth 100000 in
set_option maxHeartbeats 4000000 in
theorem k_X1_readItems_t1_x3_x4_x5 {G : am_G} {l : Launch} {o0 : Nat} (ho0 : am_f1 o0) {w : am_S} {rr : Int32} {ww : am_S} (hf : f_X1_readItems_t1_x3_x4_x5 o0 w = some (rr, ww)) : am_Mi G l yX1_readItems (Cond.code yX1_readItems cX1_readItems 10 (some .boolean) :: am_T) { frames := 4, cells := 0, slots := 0, locals := 256 } [.ref (G.1 + o0), .ref (G.1 + 1), .ref (G.2.2.2.2.1 1), .ref (G.2.2.2.1 3), .ref (G.2.2.2.1 4), .ref (G.2.2.2.1 5)] w rr ww := by
  refine Met.ofW (cc := cX1_readItems) (maxL := 10) (ret := (some .boolean)) (by decide) rfl ?_
  intro p e s m args below meth c s₁ B hml hv
  obtain ⟨rfl, hx, hb, hr, hts, hown, hlocks, hK, hE, hH⟩ := am_begin B hv
  have hown : s.vm.findClass RX1 = some m.cls := hown
  show W p l e { frames := 4, cells := 0, slots := 0, locals := 256 } s m _ below meth c s.heap [] 0 0 _ _
  have P57 : ∀ (w : am_S) (H : Heap) (locs : List Loc) (ls : Array Slot), f_X1_readItems_t1_x3_x4_x5_57 o0 w = some (rr, ww) → am_H G w s H locs → lv_has ls 10 [] → W p l e { frames := 4, cells := 0, slots := 0, locals := 256 } s m [.ref (G.1 + o0), .ref (G.1 + 1), .ref (G.2.2.2.2.1 1), .ref (G.2.2.2.1 3), .ref (G.2.2.2.1 4), .ref (G.2.2.2.1 5)].toArray below meth c H locs 0 0 (MQ below (va_Qi (fun (x : Int32) (u : am_S) => x = rr ∧ u = ww) (am_U G) (am_A G)) [.ref (G.1 + o0), .ref (G.1 + 1), .ref (G.2.2.2.2.1 1), .ref (G.2.2.2.1 3), .ref (G.2.2.2.1 4), .ref (G.2.2.2.1 5)].toArray s 0 0 (am_A G)) (F0 m 57 ls []) := by
    intro w H locs ls hf hH hl
    unfold f_X1_readItems_t1_x3_x4_x5_57 at hf
    refine lv_iconst (v := 1) hx hb dX1_readItems_57 (by decide) ?_
    exact am_retz hx hb hr rfl hlocks hH hf dX1_readItems_58
  have P82 : ∀ (w : am_S) (H : Heap) (locs : List Loc) (ls : Array Slot), f_X1_readItems_t1_x3_x4_x5_82 o0 w = some (rr, ww) → am_H G w s H locs → lv_has ls 10 [] → W p l e { frames := 4, cells := 0, slots := 0, locals := 256 } s m [.ref (G.1 + o0), .ref (G.1 + 1), .ref (G.2.2.2.2.1 1), .ref (G.2.2.2.1 3), .ref (G.2.2.2.1 4), .ref (G.2.2.2.1 5)].toArray below meth c H locs 0 0 (MQ below (va_Qi (fun (x : Int32) (u : am_S) => x = rr ∧ u = ww) (am_U G) (am_A G)) [.ref (G.1 + o0), .ref (G.1 + 1), .ref (G.2.2.2.2.1 1), .ref (G.2.2.2.1 3), .ref (G.2.2.2.1 4), .ref (G.2.2.2.1 5)].toArray s 0 0 (am_A G)) (F0 m 82 ls []) := by
    intro w H locs ls hf hH hl
    unfold f_X1_readItems_t1_x3_x4_x5_82 at hf
    refine lv_iconst (v := 0) hx hb dX1_readItems_82 (by decide) ?_
    exact am_retz hx hb hr rfl hlocks hH hf dX1_readItems_83
  have P30 : ∀ (n1 : Nat) (x6 : Int32) (x7 : Int32) (w : am_S) (H : Heap) (locs : List Loc) (ls : Array Slot), am_loop (fun (st : (Int32 × Int32 × am_S)) => f_X1_readItems_t1_x3_x4_x5_30b o0 st.1 st.2.1 st.2.2) n1 (x6, x7, w) = some (rr, ww) → am_H G w s H locs → lv_has ls 10 [(0, .ref (G.1 + o0)), (1, .ref (G.1 + 1)), (2, .ref (G.2.2.2.2.1 1)), (3, .ref (G.2.2.2.1 3)), (4, .ref (G.2.2.2.1 4)), (6, .int x6), (7, .int x7)] → W p l e { frames := 4, cells := 0, slots := 0, locals := 256 } s m [.ref (G.1 + o0), .ref (G.1 + 1), .ref (G.2.2.2.2.1 1), .ref (G.2.2.2.1 3), .ref (G.2.2.2.1 4), .ref (G.2.2.2.1 5)].toArray below meth c H locs 0 0 (MQ below (va_Qi (fun (x : Int32) (u : am_S) => x = rr ∧ u = ww) (am_U G) (am_A G)) [.ref (G.1 + o0), .ref (G.1 + 1), .ref (G.2.2.2.2.1 1), .ref (G.2.2.2.1 3), .ref (G.2.2.2.1 4), .ref (G.2.2.2.1 5)].toArray s 0 0 (am_A G)) (F0 m 30 ls []) := by
    intro n1
    induction n1 with
    | zero =>
      intro x6 x7 w H locs ls hf hH hl
      exact (am_loop_zero hf).elim
    | succ n1 ih1 =>
      intro x6 x7 w H locs ls hf hH hl
      obtain ⟨z1, hf, hk1⟩ := am_loop_succ hf
      have hf : f_X1_readItems_t1_x3_x4_x5_30b o0 x6 x7 w = some z1 := hf
      unfold f_X1_readItems_t1_x3_x4_x5_30b at hf
      refine lv_iload hx hb dX1_readItems_30 (lv_at hl 6 rfl) ?_
      refine lv_aload_n hx hb dX1_readItems_32 rfl (lv_at hl 2 rfl) ?_
      obtain ⟨r_30, w_28, hq_29, hf⟩ := am_b2_some hf
      refine am_calli (r := r_30) (w' := w_28) (am_runVT (n := 0) (As := []) (rest := [.int x7]) 1 (by decide) ⟨hx, hb, hml, hown, hts⟩ hK hE hH (k_J0_length_8abf5_t1 hq_29) (am_gV am_q445 am_q446 am_q447 am_q16 am_q448) ⟨rfl, rfl⟩ (by decide +kernel) ⟨Nat.le_of_ble_eq_true rfl, Nat.le_of_ble_eq_true rfl⟩ rfl hl.1 rfl (Nat.le_of_ble_eq_true rfl) ⟨Nat.zero_le _, Nat.zero_le _⟩ dX1_readItems_33) hH (fun H locs hH => ?_)
      refine lv_icmp_gt (tgt := 138) hx hb dX1_readItems_36 (by decide) (fun hc_31 => ?_) (fun hc_31 => ?_)
      · have hf := (if_pos hc_31).symm.trans hf
        obtain ⟨y_32, hf, hzy_32⟩ := am_x_some hf
        rw [hzy_32] at hk1
        have hf := hf.trans (congrArg some (show y_32 = (rr, ww) from hk1))
        refine lv_iconst (v := 0) hx hb dX1_readItems_138 (by decide) ?_
        exact am_retz hx hb hr rfl hlocks hH hf dX1_readItems_139
      · have hf := (if_neg hc_31).symm.trans hf
        refine lv_aload_n hx hb dX1_readItems_39 rfl (lv_at hl 1 rfl) ?_
        obtain ⟨r_35, w_33, hq_34, hf⟩ := am_b2_some hf
        refine am_calli (r := r_35) (w' := w_33) (am_runV (n := 0) (As := []) (rest := []) ⟨hx, hb, hml, hown, hts⟩ hK hE hH (k_X10_nextSign hq_34) (am_gV am_q429 am_q430 am_q431 am_q2 am_q432) (am_o10 (p := 1) (by decide +kernel)) rfl ⟨rfl, rfl⟩ (by decide +kernel) ⟨Nat.le_of_ble_eq_true rfl, Nat.le_of_ble_eq_true rfl⟩ rfl hl.1 rfl (Nat.le_of_ble_eq_true rfl) ⟨Nat.zero_le _, Nat.zero_le _⟩ dX1_readItems_40) hH (fun H locs hH => ?_)
        refine lv_istore (lv' := [(8, .int r_35), (0, .ref (G.1 + o0)), (1, .ref (G.1 + 1)), (2, .ref (G.2.2.2.2.1 1)), (3, .ref (G.2.2.2.1 3)), (4, .ref (G.2.2.2.1 4)), (6, .int x6), (7, .int x7)]) hx hb dX1_readItems_43 hl (by decide) rfl (fun ls hl => ?_)
        refine lv_iload hx hb dX1_readItems_45 (lv_at hl 0 rfl) ?_
        refine lv_if_eq (tgt := 57) hx hb dX1_readItems_47 (by decide) (fun hc_36 => ?_) (fun hc_36 => ?_)
        · have hf := (if_pos hc_36).symm.trans hf
          obtain ⟨y_37, hf, hzy_37⟩ := am_x_some hf
          rw [hzy_37] at hk1
          have hf := hf.trans (congrArg some (show y_37 = (rr, ww) from hk1))
          exact P57 w_33 H locs ls hf hH (lv_sub hl [] rfl)
        · have hf := (if_neg hc_36).symm.trans hf
          refine lv_iload hx hb dX1_readItems_50 (lv_at hl 0 rfl) ?_
          refine lv_bipush (v := 59) hx hb dX1_readItems_52 (by decide) ?_
          refine lv_icmp_ne (tgt := 59) hx hb dX1_readItems_54 (by decide) (fun hc_38 => ?_) (fun hc_38 => ?_)
          · have hf := (if_neg hc_38).symm.trans hf
            refine lv_aload_n hx hb dX1_readItems_59 rfl (lv_at hl 3 rfl) ?_
            refine lv_iload hx hb dX1_readItems_60 (lv_at hl 0 rfl) ?_
            obtain ⟨r_41, w_39, hq_40, hf⟩ := am_b2_some hf
            refine am_calli (r := r_41) (w' := w_39) (am_runVT (n := 1) (As := [.int r_35]) (rest := []) 1 (by decide) ⟨hx, hb, hml, hown, hts⟩ hK hE hH (k_J0_indexOf_0f7a4_t1 hq_40) (am_gV am_q455 am_q456 am_q457 am_q16 am_q458) ⟨rfl, rfl⟩ (by decide +kernel) ⟨Nat.le_of_ble_eq_true rfl, Nat.le_of_ble_eq_true rfl⟩ rfl hl.1 rfl (Nat.le_of_ble_eq_true rfl) ⟨Nat.zero_le _, Nat.zero_le _⟩ dX1_readItems_62) hH (fun H locs hH => ?_)
            refine lv_istore (lv' := [(9, .int r_41), (8, .int r_35), (0, .ref (G.1 + o0)), (1, .ref (G.1 + 1)), (2, .ref (G.2.2.2.2.1 1)), (3, .ref (G.2.2.2.1 3)), (4, .ref (G.2.2.2.1 4)), (6, .int x6), (7, .int x7)]) hx hb dX1_readItems_65 hl (by decide) rfl (fun ls hl => ?_)
            refine lv_iload hx hb dX1_readItems_67 (lv_at hl 0 rfl) ?_
            refine lv_if_lt (tgt := 82) hx hb dX1_readItems_69 (by decide) (fun hc_42 => ?_) (fun hc_42 => ?_)
            · have hf := (if_pos hc_42).symm.trans hf
              obtain ⟨y_43, hf, hzy_43⟩ := am_x_some hf
              rw [hzy_43] at hk1
              have hf := hf.trans (congrArg some (show y_43 = (rr, ww) from hk1))
              exact P82 w_39 H locs ls hf hH (lv_sub hl [] rfl)
            · have hf := (if_neg hc_42).symm.trans hf
              refine lv_iload hx hb dX1_readItems_72 (lv_at hl 7 rfl) ?_
              refine lv_iload hx hb dX1_readItems_74 (lv_at hl 0 rfl) ?_
              refine lv_ishr hx hb dX1_readItems_76 ?_
              refine lv_iconst (v := 1) hx hb dX1_readItems_77 (by decide) ?_
              refine lv_iand hx hb dX1_readItems_78 ?_
              refine lv_if_eq (tgt := 84) hx hb dX1_readItems_79 (by decide) (fun hc_44 => ?_) (fun hc_44 => ?_)
              · have hf := (if_pos hc_44).symm.trans hf
                refine lv_aload_n hx hb dX1_readItems_84 rfl (lv_at hl 3 rfl) ?_
                refine lv_dup hx hb dX1_readItems_85 rfl ?_
                refine am_get hx hb hts hK hown hH (am_o10 (p := 1) (by decide +kernel)) rfl am_inX10 2 (by decide) am_q51 (v := .int (w_39.1 1 2)) rfl dX1_readItems_86 ?_
                refine lv_iconst (v := 1) hx hb dX1_readItems_89 (by decide) ?_
                refine lv_iadd hx hb dX1_readItems_90 ?_
                obtain ⟨w_45, hw_45, hf⟩ := am_v_some hf
                refine am_puti hx hb hts hK hown hH (am_o10 (p := 1) (by decide +kernel)) rfl am_inX10 tyX10 tyX10_ok nmX10 2 (by decide) am_q51 rfl rfl rfl (fun _ _ => Nat.le_of_ble_eq_true rfl) (fun _ _ _ => rfl) dX1_readItems_91 (fun H locs hH => ?_)
                rw [← hw_45] at hH
                refine lv_aload_n hx hb dX1_readItems_94 rfl (lv_at hl 3 rfl) ?_
                refine lv_aload_n hx hb dX1_readItems_95 rfl (lv_at hl 5 rfl) ?_
                refine lv_iload hx hb dX1_readItems_96 (lv_at hl 0 rfl) ?_
                obtain ⟨hi_46, hf⟩ := am_chk_some hf
                refine va_ti hx hb (hE.1 3 _ rfl).2 hH.2 hi_46 rfl dX1_readItems_98 ?_
                refine lv_aload hx hb dX1_readItems_99 (lv_at hl 6 rfl) ?_
                refine lv_iload hx hb dX1_readItems_101 (lv_at hl 0 rfl) ?_
                obtain ⟨hi_47, hf⟩ := am_chk_some hf
                refine va_ti hx hb (hE.1 4 _ rfl).2 hH.2 hi_47 rfl dX1_readItems_103 ?_
                obtain ⟨r_50, w_48, hq_49, hf⟩ := am_b2_some hf
                refine am_calli (r := r_50) (w' := w_48) (am_runV (n := 2) (As := [.int (am_sv 3 r_41.toNatClampNeg), .int (am_sv 4 r_41.toNatClampNeg)]) (rest := []) ⟨hx, hb, hml, hown, hts⟩ hK hE hH (k_X10_readNumber hq_49) (am_gV am_q532 am_q533 am_q534 am_q2 am_q535) (am_o10 (p := 1) (by decide +kernel)) rfl ⟨rfl, rfl⟩ (by decide +kernel) ⟨Nat.le_of_ble_eq_true rfl, Nat.le_of_ble_eq_true rfl⟩ rfl hl.1 rfl (Nat.le_of_ble_eq_true rfl) ⟨Nat.zero_le _, Nat.zero_le _⟩ dX1_readItems_104) hH (fun H locs hH => ?_)
                refine lv_if_ne (tgt := 112) hx hb dX1_readItems_107 (by decide) (fun hc_51 => ?_) (fun hc_51 => ?_)
                · have hf := (if_neg hc_51).symm.trans hf
                  refine lv_aload_n hx hb dX1_readItems_112 rfl (lv_at hl 2 rfl) ?_
                  refine am_get hx hb hts hK hown hH (am_o1 ho0.1) rfl am_inX1 0 (by decide) am_q71 (v := .ref (G.1 + (o0 + 1))) rfl dX1_readItems_113 ?_
                  refine lv_iload hx hb dX1_readItems_116 (lv_at hl 0 rfl) ?_
                  refine lv_aload_n hx hb dX1_readItems_118 rfl (lv_at hl 3 rfl) ?_
                  refine am_get hx hb hts hK hown hH (am_o10 (p := 1) (by decide +kernel)) rfl am_inX10 3 (by decide) am_q54 (v := .int (w_48.1 1 3)) rfl dX1_readItems_119 ?_
                  obtain ⟨hi_52, hf⟩ := am_chk_some hf
                  obtain ⟨w_53, hw_53, hf⟩ := am_v_some hf
                  refine am_iast hx hb hK hH (am_ai_of (N := 5) ho0.2.1) hi_52 dX1_readItems_122 (fun H locs hH => ?_)
                  rw [← hw_53] at hH
                  refine lv_iload hx hb dX1_readItems_123 (lv_at hl 7 rfl) ?_
                  refine lv_iconst (v := 1) hx hb dX1_readItems_125 (by decide) ?_
                  refine lv_iload hx hb dX1_readItems_126 (lv_at hl 0 rfl) ?_
                  refine lv_ishl hx hb dX1_readItems_128 ?_
                  refine lv_ior hx hb dX1_readItems_129 ?_
                  obtain ⟨x6_54, hx6_54, hf⟩ := am_v_some hf
                  refine am_topi hx6_54 ?_
                  refine lv_istore (lv' := [(6, .int x6_54), (9, .int r_41), (8, .int r_35), (0, .ref (G.1 + o0)), (1, .ref (G.1 + 1)), (2, .ref (G.2.2.2.2.1 1)), (3, .ref (G.2.2.2.1 3)), (4, .ref (G.2.2.2.1 4)), (7, .int x7)]) hx hb dX1_readItems_130 hl (by decide) rfl (fun ls hl => ?_)
                  obtain ⟨x7_55, hx7_55, hf⟩ := am_v_some hf
                  refine lv_iinc (v := x7_55) (lv' := [(7, .int x7_55), (6, .int x6_54), (9, .int r_41), (8, .int r_35), (0, .ref (G.1 + o0)), (1, .ref (G.1 + 1)), (2, .ref (G.2.2.2.2.1 1)), (3, .ref (G.2.2.2.1 3)), (4, .ref (G.2.2.2.1 4))]) hx hb dX1_readItems_132 hl (k := 8) rfl (by rw [hx7_55]; rfl) (by decide) rfl (fun ls hl => ?_)
                  refine lv_goto (tgt := 30) hx hb dX1_readItems_135 (by decide) ?_
                  obtain rfl := Option.some.inj hf
                  exact ih1 x6_54 x7_55 w_53 H locs ls hk1 hH (lv_sub hl [4, 5, 6, 7, 8, 1, 0] rfl)
                · have hf := (if_pos hc_51).symm.trans hf
                  obtain ⟨y_56, hf, hzy_56⟩ := am_x_some hf
                  rw [hzy_56] at hk1
                  have hf := hf.trans (congrArg some (show y_56 = (rr, ww) from hk1))
                  refine lv_iconst (v := 0) hx hb dX1_readItems_110 (by decide) ?_
                  exact am_retz hx hb hr rfl hlocks hH hf dX1_readItems_111
              · have hf := (if_neg hc_44).symm.trans hf
                obtain ⟨y_57, hf, hzy_57⟩ := am_x_some hf
                rw [hzy_57] at hk1
                have hf := hf.trans (congrArg some (show y_57 = (rr, ww) from hk1))
                exact P82 w_39 H locs ls hf hH (lv_sub hl [] rfl)
          · have hf := (if_pos hc_38).symm.trans hf
            obtain ⟨y_58, hf, hzy_58⟩ := am_x_some hf
            rw [hzy_58] at hk1
            have hf := hf.trans (congrArg some (show y_58 = (rr, ww) from hk1))
            exact P57 w_33 H locs ls hf hH (lv_sub hl [] rfl)
  refine am_enter (lv := [(0, .ref (G.1 + o0)), (1, .ref (G.1 + 1)), (2, .ref (G.2.2.2.2.1 1)), (3, .ref (G.2.2.2.1 3)), (4, .ref (G.2.2.2.1 4)), (5, .ref (G.2.2.2.1 5))]) (Nat.le_of_ble_eq_true rfl) rfl (fun ls hl => ?_)
  unfold f_X1_readItems_t1_x3_x4_x5 at hf
  refine am_start hH (fun H locs hH => ?_)
  refine lv_aload hx hb dX1_readItems_0 (lv_at hl 5 rfl) ?_
  refine lv_iconst (v := 0) hx hb dX1_readItems_2 (by decide) ?_
  refine lv_aload_n hx hb dX1_readItems_3 rfl (lv_at hl 0 rfl) ?_
  refine am_get hx hb hts hK hown hH (am_o1 ho0.1) rfl am_inX1 0 (by decide) am_q71 (v := .ref (G.1 + (o0 + 1))) rfl dX1_readItems_4 ?_
  refine lv_iconst (v := 0) hx hb dX1_readItems_7 (by decide) ?_
  refine lv_aload hx hb dX1_readItems_8 (lv_at hl 5 rfl) ?_
  refine va_tlen (v := 5) hx hb (hE.1 5 _ rfl).2 hH.2 rfl dX1_readItems_10 ?_
  obtain ⟨w_59, hw_59, hf⟩ := am_v_some hf
  refine am_copyx (n := 5) hx hb (hml.trans hl.1.symm) hown (hts _ am_q442) (hts _ am_q444) (hts _ am_q443) (hts _ am_q15) hK hH (hE.1 5 _ rfl).2 (am_ai_of (N := 5) ho0.2.1) (by decide) (by decide) (by decide) (by decide) (by decide) (Nat.le_of_ble_eq_true rfl) (by decide +kernel) dX1_readItems_11 (fun H locs hH => ?_)
  rw [← hw_59] at hH
  refine lv_aload_n hx hb dX1_readItems_14 rfl (lv_at hl 1 rfl) ?_
  refine lv_dup hx hb dX1_readItems_15 rfl ?_
  refine am_get hx hb hts hK hown hH (am_o10 (p := 1) (by decide +kernel)) rfl am_inX10 2 (by decide) am_q51 (v := .int (w_59.1 1 2)) rfl dX1_readItems_16 ?_
  refine lv_iconst (v := 1) hx hb dX1_readItems_19 (by decide) ?_
  refine lv_iadd hx hb dX1_readItems_20 ?_
  obtain ⟨w_60, hw_60, hf⟩ := am_v_some hf
  refine am_puti hx hb hts hK hown hH (am_o10 (p := 1) (by decide +kernel)) rfl am_inX10 tyX10 tyX10_ok nmX10 2 (by decide) am_q51 rfl rfl rfl (fun _ _ => Nat.le_of_ble_eq_true rfl) (fun _ _ _ => rfl) dX1_readItems_21 (fun H locs hH => ?_)
  rw [← hw_60] at hH
  refine lv_iconst (v := 0) hx hb dX1_readItems_24 (by decide) ?_
  refine lv_istore (lv' := [(6, .int (0 : Int32)), (0, .ref (G.1 + o0)), (1, .ref (G.1 + 1)), (2, .ref (G.2.2.2.2.1 1)), (3, .ref (G.2.2.2.1 3)), (4, .ref (G.2.2.2.1 4)), (5, .ref (G.2.2.2.1 5))]) hx hb dX1_readItems_25 hl (by decide) rfl (fun ls hl => ?_)
  refine lv_iconst (v := 0) hx hb dX1_readItems_27 (by decide) ?_
  refine lv_istore (lv' := [(7, .int (0 : Int32)), (6, .int (0 : Int32)), (0, .ref (G.1 + o0)), (1, .ref (G.1 + 1)), (2, .ref (G.2.2.2.2.1 1)), (3, .ref (G.2.2.2.1 3)), (4, .ref (G.2.2.2.1 4)), (5, .ref (G.2.2.2.1 5))]) hx hb dX1_readItems_28 hl (by decide) rfl (fun ls hl => ?_)
  exact P30 am_fuel (0 : Int32) (0 : Int32) w_60 H locs ls hf hH (lv_sub hl [2, 3, 4, 5, 6, 1, 0] rfl)

def f_X1_keepRules (o0 : Nat) (p1 : Nat) (m1 : Nat) (w : am_S) : Option am_S :=
  am_chk (0 : Int32) m1 (am_v (am_pi w o0 7 (w.1 p1 (0 : Int32).toNatClampNeg)) fun (w_10 : am_S) => am_chk (1 : Int32) m1 (am_v (am_pi w_10 o0 8 (w_10.1 p1 (1 : Int32).toNatClampNeg)) fun (w_12 : am_S) => am_chk (2 : Int32) m1 (am_v (am_pi w_12 o0 9 (w_12.1 p1 (2 : Int32).toNatClampNeg)) fun (w_14 : am_S) => am_chk (3 : Int32) m1 (am_v (am_pi w_14 o0 10 (w_14.1 p1 (3 : Int32).toNatClampNeg)) fun (w_16 : am_S) => some w_16))))
set_option maxRecDepth 100000 in
set_option maxHeartbeats 4000000 in
theorem k_X1_keepRules {G : am_G} {l : Launch} {o0 : Nat} {p1 : Nat} {m1 : Nat} (ho0 : am_f1 o0) (ha1 : am_ai G p1 m1) {w : am_S} {ww : am_S} (hf : f_X1_keepRules o0 p1 m1 w = some ww) : am_Mv G l yX1_keepRules (Cond.code yX1_keepRules cX1_keepRules 2 none :: am_T) { frames := 0, cells := 0, slots := 0, locals := 0 } [.ref (G.1 + o0), .ref (G.1 + p1)] w ww := by
  refine Met.ofW (cc := cX1_keepRules) (maxL := 2) (ret := none) (by decide) rfl ?_
  intro p e s m args below meth c s₁ B hml hv
  obtain ⟨rfl, hx, hb, hr, hts, hown, hlocks, hK, hE, hH⟩ := am_begin B hv
  have hown : s.vm.findClass RX1 = some m.cls := hown
  show W p l e { frames := 0, cells := 0, slots := 0, locals := 0 } s m _ below meth c s.heap [] 0 0 _ _
  refine am_enter (lv := [(0, .ref (G.1 + o0)), (1, .ref (G.1 + p1))]) (Nat.le_of_ble_eq_true rfl) rfl (fun ls hl => ?_)
  unfold f_X1_keepRules at hf
  refine am_start hH (fun H locs hH => ?_)
  refine lv_aload_n hx hb dX1_keepRules_0 rfl (lv_at hl 0 rfl) ?_
  refine lv_aload_n hx hb dX1_keepRules_1 rfl (lv_at hl 1 rfl) ?_
  refine lv_iconst (v := 0) hx hb dX1_keepRules_2 (by decide) ?_
  obtain ⟨hi_9, hf⟩ := am_chk_some hf
  refine am_iald hx hb hK hH ha1 hi_9 dX1_keepRules_3 ?_
  obtain ⟨w_10, hw_10, hf⟩ := am_v_some hf
  refine am_puti hx hb hts hK hown hH (am_o1 ho0.1) rfl am_inX1 tyX1 tyX1_ok nmX1 7 (by decide) am_q89 rfl rfl rfl (fun _ _ => Nat.le_of_ble_eq_true rfl) (fun _ _ _ => rfl) dX1_keepRules_4 (fun H locs hH => ?_)
  rw [← hw_10] at hH
  refine lv_aload_n hx hb dX1_keepRules_7 rfl (lv_at hl 0 rfl) ?_
  refine lv_aload_n hx hb dX1_keepRules_8 rfl (lv_at hl 1 rfl) ?_
  refine lv_iconst (v := 1) hx hb dX1_keepRules_9 (by decide) ?_
  obtain ⟨hi_11, hf⟩ := am_chk_some hf
  refine am_iald hx hb hK hH ha1 hi_11 dX1_keepRules_10 ?_
  obtain ⟨w_12, hw_12, hf⟩ := am_v_some hf
  refine am_puti hx hb hts hK hown hH (am_o1 ho0.1) rfl am_inX1 tyX1 tyX1_ok nmX1 8 (by decide) am_q94 rfl rfl rfl (fun _ _ => Nat.le_of_ble_eq_true rfl) (fun _ _ _ => rfl) dX1_keepRules_11 (fun H locs hH => ?_)
  rw [← hw_12] at hH
  refine lv_aload_n hx hb dX1_keepRules_14 rfl (lv_at hl 0 rfl) ?_
  refine lv_aload_n hx hb dX1_keepRules_15 rfl (lv_at hl 1 rfl) ?_
  refine lv_iconst (v := 2) hx hb dX1_keepRules_16 (by decide) ?_
  obtain ⟨hi_13, hf⟩ := am_chk_some hf
  refine am_iald hx hb hK hH ha1 hi_13 dX1_keepRules_17 ?_
  obtain ⟨w_14, hw_14, hf⟩ := am_v_some hf
  refine am_puti hx hb hts hK hown hH (am_o1 ho0.1) rfl am_inX1 tyX1 tyX1_ok nmX1 9 (by decide) am_q98 rfl rfl rfl (fun _ _ => Nat.le_of_ble_eq_true rfl) (fun _ _ _ => rfl) dX1_keepRules_18 (fun H locs hH => ?_)
  rw [← hw_14] at hH
  refine lv_aload_n hx hb dX1_keepRules_21 rfl (lv_at hl 0 rfl) ?_
  refine lv_aload_n hx hb dX1_keepRules_22 rfl (lv_at hl 1 rfl) ?_
  refine lv_iconst (v := 3) hx hb dX1_keepRules_23 (by decide) ?_
  obtain ⟨hi_15, hf⟩ := am_chk_some hf
  refine am_iald hx hb hK hH ha1 hi_15 dX1_keepRules_24 ?_
  obtain ⟨w_16, hw_16, hf⟩ := am_v_some hf
  refine am_puti hx hb hts hK hown hH (am_o1 ho0.1) rfl am_inX1 tyX1 tyX1_ok nmX1 10 (by decide) am_q100 rfl rfl rfl (fun _ _ => Nat.le_of_ble_eq_true rfl) (fun _ _ _ => rfl) dX1_keepRules_25 (fun H locs hH => ?_)
  rw [← hw_16] at hH
  exact am_retv hx hb hr hlocks hH hf dX1_keepRules_28

def f_J0_coder_7d493_t2_14  (s0 : Int32) (w : am_S) : Option (Int32 × am_S) :=
  am_nar .byte s0 (some (s0, w))
def f_J0_coder_7d493_t2  (w : am_S) : Option (Int32 × am_S) :=
  if (1 : Int32) = 0 then (f_J0_coder_7d493_t2_14 (1 : Int32) w) else (f_J0_coder_7d493_t2_14 (0 : Int32) w)
set_option maxRecDepth 100000 in
set_option maxHeartbeats 4000000 in
theorem k_J0_coder_7d493_t2 {G : am_G} {l : Launch}   {w : am_S} {rr : Int32} {ww : am_S} (hf : f_J0_coder_7d493_t2  w = some (rr, ww)) : am_Mi G l yJ0_coder_7d493 (Cond.code yJ0_coder_7d493 cJ0_coder_7d493 1 (some .byte) :: am_T) { frames := 0, cells := 0, slots := 0, locals := 0 } [.ref (G.2.2.2.2.1 2)] w rr ww := by
  refine Met.ofW (cc := cJ0_coder_7d493) (maxL := 1) (ret := (some .byte)) (by decide) rfl ?_
  intro p e s m args below meth c s₁ B hml hv
  obtain ⟨rfl, hx, hb, hr, hts, hown, hlocks, hK, hE, hH⟩ := am_begin B hv
  have hown : s.vm.findClass RJ0 = some m.cls := hown
  show W p l e { frames := 0, cells := 0, slots := 0, locals := 0 } s m _ below meth c s.heap [] 0 0 _ _
  have P14 : ∀ (s0 : Int32) (w : am_S) (H : Heap) (locs : List Loc) (ls : Array Slot), f_J0_coder_7d493_t2_14 s0 w = some (rr, ww) → am_H G w s H locs → lv_has ls 1 [] → W p l e { frames := 0, cells := 0, slots := 0, locals := 0 } s m [.ref (G.2.2.2.2.1 2)].toArray below meth c H locs 0 0 (MQ below (va_Qi (fun (x : Int32) (u : am_S) => x = rr ∧ u = ww) (am_U G) (am_A G)) [.ref (G.2.2.2.2.1 2)].toArray s 0 0 (am_A G)) (F0 m 14 ls [.int s0]) := by
    intro s0 w H locs ls hf hH hl
    unfold f_J0_coder_7d493_t2_14 at hf
    obtain ⟨hr_2, hf⟩ := am_nar_some hf
    exact am_retz hx hb hr hr_2.1 hlocks hH hf dJ0_coder_7d493_14
  refine am_enter (lv := [(0, .ref (G.2.2.2.2.1 2))]) (Nat.le_of_ble_eq_true rfl) rfl (fun ls hl => ?_)
  unfold f_J0_coder_7d493_t2 at hf
  refine am_start hH (fun H locs hH => ?_)
  refine va_gets hx hb hE.2.2.2.1 hH.2 hown (hts _ am_q453) (fun _ h => h) dJ0_coder_7d493_0 ?_
  refine lv_if_eq (tgt := 13) hx hb dJ0_coder_7d493_3 (by decide) (fun hc_3 => ?_) (fun hc_3 => ?_)
  · have hf := (if_pos hc_3).symm.trans hf
    refine lv_iconst (v := 1) hx hb dJ0_coder_7d493_13 (by decide) ?_
    exact P14 (1 : Int32) w H locs ls hf hH (lv_sub hl [] rfl)
  · have hf := (if_neg hc_3).symm.trans hf
    refine lv_aload_n hx hb dJ0_coder_7d493_6 rfl (lv_at hl 0 rfl) ?_
    refine vk_getf hx hb (hE.2.1.1 2 (by decide)).2.1 hH.2 hown (hts _ am_q2024) (fun _ h => h) dJ0_coder_7d493_7 ?_
    refine lv_goto (tgt := 14) hx hb dJ0_coder_7d493_10 (by decide) ?_
    exact P14 (0 : Int32) w H locs ls hf hH (lv_sub hl [] rfl)

def f_J0_length_8abf5_t2  (w : am_S) : Option (Int32 × am_S) :=
  am_b2 (f_J0_coder_7d493_t2 w) fun r_6 w_4 => some ((2 : Int32) >>> (r_6 &&& 31), w_4)
set_option maxRecDepth 100000 in
set_option maxHeartbeats 4000000 in
theorem k_J0_length_8abf5_t2 {G : am_G} {l : Launch}   {w : am_S} {rr : Int32} {ww : am_S} (hf : f_J0_length_8abf5_t2  w = some (rr, ww)) : am_Mi G l yJ0_length_8abf5 (Cond.code yJ0_length_8abf5 cJ0_length_8abf5 1 (some .int) :: am_T) { frames := 1, cells := 0, slots := 0, locals := 64 } [.ref (G.2.2.2.2.1 2)] w rr ww := by
  refine Met.ofW (cc := cJ0_length_8abf5) (maxL := 1) (ret := (some .int)) (by decide) rfl ?_
  intro p e s m args below meth c s₁ B hml hv
  obtain ⟨rfl, hx, hb, hr, hts, hown, hlocks, hK, hE, hH⟩ := am_begin B hv
  have hown : s.vm.findClass RJ0 = some m.cls := hown
  show W p l e { frames := 1, cells := 0, slots := 0, locals := 64 } s m _ below meth c s.heap [] 0 0 _ _
  refine am_enter (lv := [(0, .ref (G.2.2.2.2.1 2))]) (Nat.le_of_ble_eq_true rfl) rfl (fun ls hl => ?_)
  unfold f_J0_length_8abf5_t2 at hf
  refine am_start hH (fun H locs hH => ?_)
  refine lv_aload_n hx hb dJ0_length_8abf5_0 rfl (lv_at hl 0 rfl) ?_
  refine vk_getf hx hb (hE.2.1.1 2 (by decide)).2.2.1 hH.2 hown (hts _ am_q2023) (fun _ h => h) dJ0_length_8abf5_1 ?_
  refine va_tlen (v := 2) hx hb (hE.2.1.1 2 (by decide)).2.2.2 hH.2 rfl dJ0_length_8abf5_4 ?_
  refine lv_aload_n hx hb dJ0_length_8abf5_5 rfl (lv_at hl 0 rfl) ?_
  obtain ⟨r_6, w_4, hq_5, hf⟩ := am_b2_some hf
  refine am_calli (r := r_6) (w' := w_4) (am_runVT (n := 0) (As := []) (rest := [.int (2 : Int32)]) 2 (by decide) ⟨hx, hb, hml, hown, hts⟩ hK hE hH (k_J0_coder_7d493_t2 hq_5) (am_gV am_q449 am_q450 am_q451 am_q16 am_q452) ⟨rfl, rfl⟩ (by decide +kernel) ⟨Nat.le_of_ble_eq_true rfl, Nat.le_of_ble_eq_true rfl⟩ rfl hl.1 rfl (Nat.le_of_ble_eq_true rfl) ⟨Nat.zero_le _, Nat.zero_le _⟩ dJ0_length_8abf5_6) hH (fun H locs hH => ?_)
  refine lv_ishr hx hb dJ0_length_8abf5_9 ?_
  exact am_reti hx hb hr hlocks hH hf dJ0_length_8abf5_10

def f_J0_isLatin1_aae02_t2_18  (s0 : Int32) (w : am_S) : Option (Int32 × am_S) :=
  am_nar .boolean s0 (some (s0, w))
def f_J0_isLatin1_aae02_t2_17  (w : am_S) : Option (Int32 × am_S) :=
  f_J0_isLatin1_aae02_t2_18 (0 : Int32) w
def f_J0_isLatin1_aae02_t2  (w : am_S) : Option (Int32 × am_S) :=
  if (1 : Int32) = 0 then (f_J0_isLatin1_aae02_t2_17 w) else (if (0 : Int32) = 0 then (f_J0_isLatin1_aae02_t2_18 (1 : Int32) w) else (f_J0_isLatin1_aae02_t2_17 w))
set_option maxRecDepth 100000 in
set_option maxHeartbeats 4000000 in
theorem k_J0_isLatin1_aae02_t2 {G : am_G} {l : Launch}   {w : am_S} {rr : Int32} {ww : am_S} (hf : f_J0_isLatin1_aae02_t2  w = some (rr, ww)) : am_Mi G l yJ0_isLatin1_aae02 (Cond.code yJ0_isLatin1_aae02 cJ0_isLatin1_aae02 1 (some .boolean) :: am_T) { frames := 0, cells := 0, slots := 0, locals := 0 } [.ref (G.2.2.2.2.1 2)] w rr ww := by
  refine Met.ofW (cc := cJ0_isLatin1_aae02) (maxL := 1) (ret := (some .boolean)) (by decide) rfl ?_
  intro p e s m args below meth c s₁ B hml hv
  obtain ⟨rfl, hx, hb, hr, hts, hown, hlocks, hK, hE, hH⟩ := am_begin B hv
  have hown : s.vm.findClass RJ0 = some m.cls := hown
  show W p l e { frames := 0, cells := 0, slots := 0, locals := 0 } s m _ below meth c s.heap [] 0 0 _ _
  have P18 : ∀ (s0 : Int32) (w : am_S) (H : Heap) (locs : List Loc) (ls : Array Slot), f_J0_isLatin1_aae02_t2_18 s0 w = some (rr, ww) → am_H G w s H locs → lv_has ls 1 [] → W p l e { frames := 0, cells := 0, slots := 0, locals := 0 } s m [.ref (G.2.2.2.2.1 2)].toArray below meth c H locs 0 0 (MQ below (va_Qi (fun (x : Int32) (u : am_S) => x = rr ∧ u = ww) (am_U G) (am_A G)) [.ref (G.2.2.2.2.1 2)].toArray s 0 0 (am_A G)) (F0 m 18 ls [.int s0]) := by
    intro s0 w H locs ls hf hH hl
    unfold f_J0_isLatin1_aae02_t2_18 at hf
    obtain ⟨hr_3, hf⟩ := am_nar_some hf
    exact am_retz hx hb hr hr_3.1 hlocks hH hf dJ0_isLatin1_aae02_18
  have P17 : ∀ (w : am_S) (H : Heap) (locs : List Loc) (ls : Array Slot), f_J0_isLatin1_aae02_t2_17 w = some (rr, ww) → am_H G w s H locs → lv_has ls 1 [] → W p l e { frames := 0, cells := 0, slots := 0, locals := 0 } s m [.ref (G.2.2.2.2.1 2)].toArray below meth c H locs 0 0 (MQ below (va_Qi (fun (x : Int32) (u : am_S) => x = rr ∧ u = ww) (am_U G) (am_A G)) [.ref (G.2.2.2.2.1 2)].toArray s 0 0 (am_A G)) (F0 m 17 ls []) := by
    intro w H locs ls hf hH hl
    unfold f_J0_isLatin1_aae02_t2_17 at hf
    refine lv_iconst (v := 0) hx hb dJ0_isLatin1_aae02_17 (by decide) ?_
    exact P18 (0 : Int32) w H locs ls hf hH (lv_sub hl [] rfl)
  refine am_enter (lv := [(0, .ref (G.2.2.2.2.1 2))]) (Nat.le_of_ble_eq_true rfl) rfl (fun ls hl => ?_)
  unfold f_J0_isLatin1_aae02_t2 at hf
  refine am_start hH (fun H locs hH => ?_)
  refine va_gets hx hb hE.2.2.2.1 hH.2 hown (hts _ am_q453) (fun _ h => h) dJ0_isLatin1_aae02_0 ?_
  refine lv_if_eq (tgt := 17) hx hb dJ0_isLatin1_aae02_3 (by decide) (fun hc_4 => ?_) (fun hc_4 => ?_)
  · have hf := (if_pos hc_4).symm.trans hf
    exact P17 w H locs ls hf hH (lv_sub hl [] rfl)
  · have hf := (if_neg hc_4).symm.trans hf
    refine lv_aload_n hx hb dJ0_isLatin1_aae02_6 rfl (lv_at hl 0 rfl) ?_
    refine vk_getf hx hb (hE.2.1.1 2 (by decide)).2.1 hH.2 hown (hts _ am_q2024) (fun _ h => h) dJ0_isLatin1_aae02_7 ?_
    refine lv_if_ne (tgt := 17) hx hb dJ0_isLatin1_aae02_10 (by decide) (fun hc_5 => ?_) (fun hc_5 => ?_)
    · have hf := (if_neg hc_5).symm.trans hf
      exact P17 w H locs ls hf hH (lv_sub hl [] rfl)
    · have hf := (if_pos hc_5).symm.trans hf
      refine lv_iconst (v := 1) hx hb dJ0_isLatin1_aae02_13 (by decide) ?_
      refine lv_goto (tgt := 18) hx hb dJ0_isLatin1_aae02_14 (by decide) ?_
      exact P18 (1 : Int32) w H locs ls hf hH (lv_sub hl [] rfl)

def f_J1_indexOfChar_4cfef_b2_7b (a1 : Int32) (a2 : Int32) (a3 : Int32) (x4 : Int32) (x5 : Int32) (w : am_S) : Option ((Int32 × am_S) ⊕ (Int32 × am_S)) :=
  if a3 ≤ x5 then (am_x (some ((-1 : Int32), w))) else (am_chk x5 2 (if (am_bv 2 x5.toNatClampNeg) = x4 then (am_x (some (x5, w))) else (am_v (x5 + (1 : Int32)) fun (x5_10 : Int32) => some (.inr (x5_10, w)))))
def f_J1_indexOfChar_4cfef_b2_7 (a1 : Int32) (a2 : Int32) (a3 : Int32) (x4 : Int32) (x5 : Int32) (w : am_S) : Option (Int32 × am_S) :=
  am_loop (fun (st : (Int32 × am_S)) => f_J1_indexOfChar_4cfef_b2_7b a1 a2 a3 x4 st.1 st.2) am_fuel (x5, w)
def f_J1_indexOfChar_4cfef_b2 (a1 : Int32) (a2 : Int32) (a3 : Int32) (w : am_S) : Option (Int32 × am_S) :=
  am_v (a1.toInt8.toInt32) fun (x4_12 : Int32) => f_J1_indexOfChar_4cfef_b2_7 a1 a2 a3 x4_12 a2 w
set_option maxRecDepth 100000 in
set_option maxHeartbeats 4000000 in
theorem k_J1_indexOfChar_4cfef_b2 {G : am_G} {l : Launch} {a1 : Int32} {a2 : Int32} {a3 : Int32}  {w : am_S} {rr : Int32} {ww : am_S} (hf : f_J1_indexOfChar_4cfef_b2 a1 a2 a3 w = some (rr, ww)) : am_Mi G l yJ1_indexOfChar_4cfef (Cond.code yJ1_indexOfChar_4cfef cJ1_indexOfChar_4cfef 6 (some .int) :: am_T) { frames := 0, cells := 0, slots := 0, locals := 0 } [.ref (G.2.2.2.2.2 2), .int a1, .int a2, .int a3] w rr ww := by
  refine Met.ofW (cc := cJ1_indexOfChar_4cfef) (maxL := 6) (ret := (some .int)) (by decide) rfl ?_
  intro p e s m args below meth c s₁ B hml hv
  obtain ⟨rfl, hx, hb, hr, hts, hown, hlocks, hK, hE, hH⟩ := am_begin B hv
  have hown : s.vm.findClass RJ1 = some m.cls := hown
  show W p l e { frames := 0, cells := 0, slots := 0, locals := 0 } s m _ below meth c s.heap [] 0 0 _ _
  have P7 : ∀ (x4 : Int32) (n1 : Nat) (x5 : Int32) (w : am_S) (H : Heap) (locs : List Loc) (ls : Array Slot), am_loop (fun (st : (Int32 × am_S)) => f_J1_indexOfChar_4cfef_b2_7b a1 a2 a3 x4 st.1 st.2) n1 (x5, w) = some (rr, ww) → am_H G w s H locs → lv_has ls 6 [(0, .ref (G.2.2.2.2.2 2)), (3, .int a3), (4, .int x4), (5, .int x5)] → W p l e { frames := 0, cells := 0, slots := 0, locals := 0 } s m [.ref (G.2.2.2.2.2 2), .int a1, .int a2, .int a3].toArray below meth c H locs 0 0 (MQ below (va_Qi (fun (x : Int32) (u : am_S) => x = rr ∧ u = ww) (am_U G) (am_A G)) [.ref (G.2.2.2.2.2 2), .int a1, .int a2, .int a3].toArray s 0 0 (am_A G)) (F0 m 7 ls []) := by
    intro x4 n1
    induction n1 with
    | zero =>
      intro x5 w H locs ls hf hH hl
      exact (am_loop_zero hf).elim
    | succ n1 ih1 =>
      intro x5 w H locs ls hf hH hl
      obtain ⟨z1, hf, hk1⟩ := am_loop_succ hf
      have hf : f_J1_indexOfChar_4cfef_b2_7b a1 a2 a3 x4 x5 w = some z1 := hf
      unfold f_J1_indexOfChar_4cfef_b2_7b at hf
      refine lv_iload hx hb dJ1_indexOfChar_4cfef_7 (lv_at hl 3 rfl) ?_
      refine lv_iload_n hx hb dJ1_indexOfChar_4cfef_9 rfl (lv_at hl 1 rfl) ?_
      refine lv_icmp_ge (tgt := 31) hx hb dJ1_indexOfChar_4cfef_10 (by decide) (fun hc_6 => ?_) (fun hc_6 => ?_)
      · have hf := (if_pos hc_6).symm.trans hf
        obtain ⟨y_7, hf, hzy_7⟩ := am_x_some hf
        rw [hzy_7] at hk1
        have hf := hf.trans (congrArg some (show y_7 = (rr, ww) from hk1))
        refine lv_iconst (v := -1) hx hb dJ1_indexOfChar_4cfef_31 (by decide) ?_
        exact am_reti hx hb hr hlocks hH hf dJ1_indexOfChar_4cfef_32
      · have hf := (if_neg hc_6).symm.trans hf
        refine lv_aload_n hx hb dJ1_indexOfChar_4cfef_13 rfl (lv_at hl 0 rfl) ?_
        refine lv_iload hx hb dJ1_indexOfChar_4cfef_14 (lv_at hl 3 rfl) ?_
        obtain ⟨hi_8, hf⟩ := am_chk_some hf
        refine va_tb hx hb (hE.2.1.1 2 (by decide)).2.2.2 hH.2 hi_8 rfl dJ1_indexOfChar_4cfef_16 ?_
        refine lv_iload hx hb dJ1_indexOfChar_4cfef_17 (lv_at hl 2 rfl) ?_
        refine lv_icmp_ne (tgt := 25) hx hb dJ1_indexOfChar_4cfef_19 (by decide) (fun hc_9 => ?_) (fun hc_9 => ?_)
        · have hf := (if_neg hc_9).symm.trans hf
          obtain ⟨x5_10, hx5_10, hf⟩ := am_v_some hf
          refine lv_iinc (v := x5_10) (lv' := [(5, .int x5_10), (0, .ref (G.2.2.2.2.2 2)), (3, .int a3), (4, .int x4)]) hx hb dJ1_indexOfChar_4cfef_25 hl (k := 3) rfl (by rw [hx5_10]; rfl) (by decide) rfl (fun ls hl => ?_)
          refine lv_goto (tgt := 7) hx hb dJ1_indexOfChar_4cfef_28 (by decide) ?_
          obtain rfl := Option.some.inj hf
          exact ih1 x5_10 w H locs ls hk1 hH (lv_sub hl [1, 2, 3, 0] rfl)
        · have hf := (if_pos hc_9).symm.trans hf
          obtain ⟨y_11, hf, hzy_11⟩ := am_x_some hf
          rw [hzy_11] at hk1
          have hf := hf.trans (congrArg some (show y_11 = (rr, ww) from hk1))
          refine lv_iload hx hb dJ1_indexOfChar_4cfef_22 (lv_at hl 3 rfl) ?_
          exact am_reti hx hb hr hlocks hH hf dJ1_indexOfChar_4cfef_24
  refine am_enter (lv := [(0, .ref (G.2.2.2.2.2 2)), (1, .int a1), (2, .int a2), (3, .int a3)]) (Nat.le_of_ble_eq_true rfl) rfl (fun ls hl => ?_)
  unfold f_J1_indexOfChar_4cfef_b2 at hf
  refine am_start hH (fun H locs hH => ?_)
  refine lv_iload_n hx hb dJ1_indexOfChar_4cfef_0 rfl (lv_at hl 1 rfl) ?_
  refine lv_i2b hx hb dJ1_indexOfChar_4cfef_1 rfl ?_
  obtain ⟨x4_12, hx4_12, hf⟩ := am_v_some hf
  refine am_topi hx4_12 ?_
  refine lv_istore (lv' := [(4, .int x4_12), (0, .ref (G.2.2.2.2.2 2)), (1, .int a1), (2, .int a2), (3, .int a3)]) hx hb dJ1_indexOfChar_4cfef_2 hl (by decide) rfl (fun ls hl => ?_)
  refine lv_iload_n hx hb dJ1_indexOfChar_4cfef_4 rfl (lv_at hl 3 rfl) ?_
  refine lv_istore (lv' := [(5, .int a2), (4, .int x4_12), (0, .ref (G.2.2.2.2.2 2)), (1, .int a1), (2, .int a2), (3, .int a3)]) hx hb dJ1_indexOfChar_4cfef_5 hl (by decide) rfl (fun ls hl => ?_)
  exact P7 x4_12 am_fuel a2 w H locs ls hf hH (lv_sub hl [2, 5, 1, 0] rfl)

def f_J1_indexOf_4cfef_b2 (a1 : Int32) (a2 : Int32) (a3 : Int32) (w : am_S) : Option (Int32 × am_S) :=
  am_b2 (f_J1_canEncode_9a6ad a1 w) fun r_17 w_15 => if r_17 = 0 then (some ((-1 : Int32), w_15)) else (am_b2 (f_J9_max_7cf53 a2 (0 : Int32) w_15) fun r_21 w_19 => am_b2 (f_J9_min_7cf53 a3 (2 : Int32) w_19) fun r_24 w_22 => if r_21 < r_24 then (am_b2 (f_J1_indexOfChar_4cfef_b2 a1 r_21 r_24 w_22) fun r_28 w_26 => some (r_28, w_26)) else (some ((-1 : Int32), w_22)))
set_option maxRecDepth 100000 in
set_option maxHeartbeats 4000000 in
theorem k_J1_indexOf_4cfef_b2 {G : am_G} {l : Launch} {a1 : Int32} {a2 : Int32} {a3 : Int32}  {w : am_S} {rr : Int32} {ww : am_S} (hf : f_J1_indexOf_4cfef_b2 a1 a2 a3 w = some (rr, ww)) : am_Mi G l yJ1_indexOf_4cfef (Cond.code yJ1_indexOf_4cfef cJ1_indexOf_4cfef 4 (some .int) :: am_T) { frames := 1, cells := 0, slots := 0, locals := 64 } [.ref (G.2.2.2.2.2 2), .int a1, .int a2, .int a3] w rr ww := by
  refine Met.ofW (cc := cJ1_indexOf_4cfef) (maxL := 4) (ret := (some .int)) (by decide) rfl ?_
  intro p e s m args below meth c s₁ B hml hv
  obtain ⟨rfl, hx, hb, hr, hts, hown, hlocks, hK, hE, hH⟩ := am_begin B hv
  have hown : s.vm.findClass RJ1 = some m.cls := hown
  show W p l e { frames := 1, cells := 0, slots := 0, locals := 64 } s m _ below meth c s.heap [] 0 0 _ _
  refine am_enter (lv := [(0, .ref (G.2.2.2.2.2 2)), (1, .int a1), (2, .int a2), (3, .int a3)]) (Nat.le_of_ble_eq_true rfl) rfl (fun ls hl => ?_)
  unfold f_J1_indexOf_4cfef_b2 at hf
  refine am_start hH (fun H locs hH => ?_)
  refine lv_iload_n hx hb dJ1_indexOf_4cfef_0 rfl (lv_at hl 1 rfl) ?_
  obtain ⟨r_17, w_15, hq_16, hf⟩ := am_b2_some hf
  refine am_calli (r := r_17) (w' := w_15) (am_runS (n := 1) (As := [.int a1]) (rest := []) ⟨hx, hb, hml, hown, hts⟩ hK hE hH (k_J1_canEncode_9a6ad hq_16) (am_gS am_q471 am_q472 am_q17 am_q473) ⟨rfl, rfl⟩ (by decide +kernel) ⟨Nat.le_of_ble_eq_true rfl, Nat.le_of_ble_eq_true rfl⟩ rfl hl.1 rfl (Nat.le_of_ble_eq_true rfl) ⟨Nat.zero_le _, Nat.zero_le _⟩ dJ1_indexOf_4cfef_1) hH (fun H locs hH => ?_)
  refine lv_if_ne (tgt := 9) hx hb dJ1_indexOf_4cfef_4 (by decide) (fun hc_18 => ?_) (fun hc_18 => ?_)
  · have hf := (if_neg hc_18).symm.trans hf
    refine lv_iload_n hx hb dJ1_indexOf_4cfef_9 rfl (lv_at hl 2 rfl) ?_
    refine lv_iconst (v := 0) hx hb dJ1_indexOf_4cfef_10 (by decide) ?_
    obtain ⟨r_21, w_19, hq_20, hf⟩ := am_b2_some hf
    refine am_calli (r := r_21) (w' := w_19) (am_runS (n := 2) (As := [.int a2, .int (0 : Int32)]) (rest := []) ⟨hx, hb, hml, hown, hts⟩ hK hE hH (k_J9_max_7cf53 hq_20) (am_gS am_q474 am_q475 am_q18 am_q476) ⟨rfl, rfl⟩ (by decide +kernel) ⟨Nat.le_of_ble_eq_true rfl, Nat.le_of_ble_eq_true rfl⟩ rfl hl.1 rfl (Nat.le_of_ble_eq_true rfl) ⟨Nat.zero_le _, Nat.zero_le _⟩ dJ1_indexOf_4cfef_11) hH (fun H locs hH => ?_)
    refine lv_istore_n (lv' := [(2, .int r_21), (0, .ref (G.2.2.2.2.2 2)), (1, .int a1), (3, .int a3)]) hx hb dJ1_indexOf_4cfef_14 rfl hl (by decide) rfl (fun ls hl => ?_)
    refine lv_iload_n hx hb dJ1_indexOf_4cfef_15 rfl (lv_at hl 3 rfl) ?_
    refine lv_aload_n hx hb dJ1_indexOf_4cfef_16 rfl (lv_at hl 1 rfl) ?_
    refine va_tlen (v := 2) hx hb (hE.2.1.1 2 (by decide)).2.2.2 hH.2 rfl dJ1_indexOf_4cfef_17 ?_
    obtain ⟨r_24, w_22, hq_23, hf⟩ := am_b2_some hf
    refine am_calli (r := r_24) (w' := w_22) (am_runS (n := 2) (As := [.int a3, .int (2 : Int32)]) (rest := []) ⟨hx, hb, hml, hown, hts⟩ hK hE hH (k_J9_min_7cf53 hq_23) (am_gS am_q477 am_q478 am_q18 am_q479) ⟨rfl, rfl⟩ (by decide +kernel) ⟨Nat.le_of_ble_eq_true rfl, Nat.le_of_ble_eq_true rfl⟩ rfl hl.1 rfl (Nat.le_of_ble_eq_true rfl) ⟨Nat.zero_le _, Nat.zero_le _⟩ dJ1_indexOf_4cfef_18) hH (fun H locs hH => ?_)
    refine lv_istore_n (lv' := [(3, .int r_24), (2, .int r_21), (0, .ref (G.2.2.2.2.2 2)), (1, .int a1)]) hx hb dJ1_indexOf_4cfef_21 rfl hl (by decide) rfl (fun ls hl => ?_)
    refine lv_iload_n hx hb dJ1_indexOf_4cfef_22 rfl (lv_at hl 1 rfl) ?_
    refine lv_iload_n hx hb dJ1_indexOf_4cfef_23 rfl (lv_at hl 0 rfl) ?_
    refine lv_icmp_lt (tgt := 29) hx hb dJ1_indexOf_4cfef_24 (by decide) (fun hc_25 => ?_) (fun hc_25 => ?_)
    · have hf := (if_pos hc_25).symm.trans hf
      refine lv_aload_n hx hb dJ1_indexOf_4cfef_29 rfl (lv_at hl 2 rfl) ?_
      refine lv_iload_n hx hb dJ1_indexOf_4cfef_30 rfl (lv_at hl 3 rfl) ?_
      refine lv_iload_n hx hb dJ1_indexOf_4cfef_31 rfl (lv_at hl 1 rfl) ?_
      refine lv_iload_n hx hb dJ1_indexOf_4cfef_32 rfl (lv_at hl 0 rfl) ?_
      obtain ⟨r_28, w_26, hq_27, hf⟩ := am_b2_some hf
      refine am_calli (r := r_28) (w' := w_26) (am_runS (n := 4) (As := [.ref (G.2.2.2.2.2 2), .int a1, .int r_21, .int r_24]) (rest := []) ⟨hx, hb, hml, hown, hts⟩ hK hE hH (k_J1_indexOfChar_4cfef_b2 hq_27) (am_gS am_q480 am_q481 am_q17 am_q482) ⟨rfl, rfl⟩ (by decide +kernel) ⟨Nat.le_of_ble_eq_true rfl, Nat.le_of_ble_eq_true rfl⟩ rfl hl.1 rfl (Nat.le_of_ble_eq_true rfl) ⟨Nat.zero_le _, Nat.zero_le _⟩ dJ1_indexOf_4cfef_33) hH (fun H locs hH => ?_)
      exact am_reti hx hb hr hlocks hH hf dJ1_indexOf_4cfef_36
    · have hf := (if_neg hc_25).symm.trans hf
      refine lv_iconst (v := -1) hx hb dJ1_indexOf_4cfef_27 (by decide) ?_
      exact am_reti hx hb hr hlocks hH hf dJ1_indexOf_4cfef_28
  · have hf := (if_pos hc_18).symm.trans hf
    refine lv_iconst (v := -1) hx hb dJ1_indexOf_4cfef_7 (by decide) ?_
    exact am_reti hx hb hr hlocks hH hf dJ1_indexOf_4cfef_8

def f_J0_indexOf_7cf53_t2_36 (a1 : Int32) (a2 : Int32) (s0 : Int32) (w : am_S) : Option (Int32 × am_S) :=
  some (s0, w)
def f_J0_indexOf_7cf53_t2 (a1 : Int32) (a2 : Int32) (w : am_S) : Option (Int32 × am_S) :=
  am_b2 (f_J0_isLatin1_aae02_t2 w) fun r_16 w_14 => if r_16 = 0 then (am_b2 (f_J0_length_8abf5_t2 w_14) fun r_20 w_18 => none) else (am_b2 (f_J0_length_8abf5_t2 w_14) fun r_23 w_21 => am_b2 (f_J1_indexOf_4cfef_b2 a1 a2 r_23 w_21) fun r_26 w_24 => f_J0_indexOf_7cf53_t2_36 a1 a2 r_26 w_24)
set_option maxRecDepth 100000 in
set_option maxHeartbeats 4000000 in
theorem k_J0_indexOf_7cf53_t2 {G : am_G} {l : Launch} {a1 : Int32} {a2 : Int32}  {w : am_S} {rr : Int32} {ww : am_S} (hf : f_J0_indexOf_7cf53_t2 a1 a2 w = some (rr, ww)) : am_Mi G l yJ0_indexOf_7cf53 (Cond.code yJ0_indexOf_7cf53 cJ0_indexOf_7cf53 3 (some .int) :: am_T) { frames := 2, cells := 0, slots := 0, locals := 128 } [.ref (G.2.2.2.2.1 2), .int a1, .int a2] w rr ww := by
  refine Met.ofW (cc := cJ0_indexOf_7cf53) (maxL := 3) (ret := (some .int)) (by decide) rfl ?_
  intro p e s m args below meth c s₁ B hml hv
  obtain ⟨rfl, hx, hb, hr, hts, hown, hlocks, hK, hE, hH⟩ := am_begin B hv
  have hown : s.vm.findClass RJ0 = some m.cls := hown
  show W p l e { frames := 2, cells := 0, slots := 0, locals := 128 } s m _ below meth c s.heap [] 0 0 _ _
  have P36 : ∀ (s0 : Int32) (w : am_S) (H : Heap) (locs : List Loc) (ls : Array Slot), f_J0_indexOf_7cf53_t2_36 a1 a2 s0 w = some (rr, ww) → am_H G w s H locs → lv_has ls 3 [] → W p l e { frames := 2, cells := 0, slots := 0, locals := 128 } s m [.ref (G.2.2.2.2.1 2), .int a1, .int a2].toArray below meth c H locs 0 0 (MQ below (va_Qi (fun (x : Int32) (u : am_S) => x = rr ∧ u = ww) (am_U G) (am_A G)) [.ref (G.2.2.2.2.1 2), .int a1, .int a2].toArray s 0 0 (am_A G)) (F0 m 36 ls [.int s0]) := by
    intro s0 w H locs ls hf hH hl
    unfold f_J0_indexOf_7cf53_t2_36 at hf
    exact am_reti hx hb hr hlocks hH hf dJ0_indexOf_7cf53_36
  refine am_enter (lv := [(0, .ref (G.2.2.2.2.1 2)), (1, .int a1), (2, .int a2)]) (Nat.le_of_ble_eq_true rfl) rfl (fun ls hl => ?_)
  unfold f_J0_indexOf_7cf53_t2 at hf
  refine am_start hH (fun H locs hH => ?_)
  refine lv_aload_n hx hb dJ0_indexOf_7cf53_0 rfl (lv_at hl 0 rfl) ?_
  obtain ⟨r_16, w_14, hq_15, hf⟩ := am_b2_some hf
  refine am_calli (r := r_16) (w' := w_14) (am_runVT (n := 0) (As := []) (rest := []) 2 (by decide) ⟨hx, hb, hml, hown, hts⟩ hK hE hH (k_J0_isLatin1_aae02_t2 hq_15) (am_gV am_q463 am_q464 am_q465 am_q16 am_q466) ⟨rfl, rfl⟩ (by decide +kernel) ⟨Nat.le_of_ble_eq_true rfl, Nat.le_of_ble_eq_true rfl⟩ rfl hl.1 rfl (Nat.le_of_ble_eq_true rfl) ⟨Nat.zero_le _, Nat.zero_le _⟩ dJ0_indexOf_7cf53_1) hH (fun H locs hH => ?_)
  refine lv_if_eq (tgt := 23) hx hb dJ0_indexOf_7cf53_4 (by decide) (fun hc_17 => ?_) (fun hc_17 => ?_)
  · have hf := (if_pos hc_17).symm.trans hf
    refine lv_aload_n hx hb dJ0_indexOf_7cf53_23 rfl (lv_at hl 0 rfl) ?_
    refine vk_getf hx hb (hE.2.1.1 2 (by decide)).2.2.1 hH.2 hown (hts _ am_q2023) (fun _ h => h) dJ0_indexOf_7cf53_24 ?_
    refine lv_iload_n hx hb dJ0_indexOf_7cf53_27 rfl (lv_at hl 1 rfl) ?_
    refine lv_iload_n hx hb dJ0_indexOf_7cf53_28 rfl (lv_at hl 2 rfl) ?_
    refine lv_aload_n hx hb dJ0_indexOf_7cf53_29 rfl (lv_at hl 0 rfl) ?_
    obtain ⟨r_20, w_18, hq_19, hf⟩ := am_b2_some hf
    refine am_calli (r := r_20) (w' := w_18) (am_runVT (n := 0) (As := []) (rest := [.int a2, .int a1, .ref (G.2.2.2.2.2 2)]) 2 (by decide) ⟨hx, hb, hml, hown, hts⟩ hK hE hH (k_J0_length_8abf5_t2 hq_19) (am_gV am_q467 am_q446 am_q447 am_q16 am_q448) ⟨rfl, rfl⟩ (by decide +kernel) ⟨Nat.le_of_ble_eq_true rfl, Nat.le_of_ble_eq_true rfl⟩ rfl hl.1 rfl (Nat.le_of_ble_eq_true rfl) ⟨Nat.zero_le _, Nat.zero_le _⟩ dJ0_indexOf_7cf53_30) hH (fun H locs hH => ?_)
    cases hf
  · have hf := (if_neg hc_17).symm.trans hf
    refine lv_aload_n hx hb dJ0_indexOf_7cf53_7 rfl (lv_at hl 0 rfl) ?_
    refine vk_getf hx hb (hE.2.1.1 2 (by decide)).2.2.1 hH.2 hown (hts _ am_q2023) (fun _ h => h) dJ0_indexOf_7cf53_8 ?_
    refine lv_iload_n hx hb dJ0_indexOf_7cf53_11 rfl (lv_at hl 1 rfl) ?_
    refine lv_iload_n hx hb dJ0_indexOf_7cf53_12 rfl (lv_at hl 2 rfl) ?_
    refine lv_aload_n hx hb dJ0_indexOf_7cf53_13 rfl (lv_at hl 0 rfl) ?_
    obtain ⟨r_23, w_21, hq_22, hf⟩ := am_b2_some hf
    refine am_calli (r := r_23) (w' := w_21) (am_runVT (n := 0) (As := []) (rest := [.int a2, .int a1, .ref (G.2.2.2.2.2 2)]) 2 (by decide) ⟨hx, hb, hml, hown, hts⟩ hK hE hH (k_J0_length_8abf5_t2 hq_22) (am_gV am_q467 am_q446 am_q447 am_q16 am_q448) ⟨rfl, rfl⟩ (by decide +kernel) ⟨Nat.le_of_ble_eq_true rfl, Nat.le_of_ble_eq_true rfl⟩ rfl hl.1 rfl (Nat.le_of_ble_eq_true rfl) ⟨Nat.zero_le _, Nat.zero_le _⟩ dJ0_indexOf_7cf53_14) hH (fun H locs hH => ?_)
    obtain ⟨r_26, w_24, hq_25, hf⟩ := am_b2_some hf
    refine am_calli (r := r_26) (w' := w_24) (am_runS (n := 4) (As := [.ref (G.2.2.2.2.2 2), .int a1, .int a2, .int r_23]) (rest := []) ⟨hx, hb, hml, hown, hts⟩ hK hE hH (k_J1_indexOf_4cfef_b2 hq_25) (am_gS am_q468 am_q469 am_q17 am_q470) ⟨rfl, rfl⟩ (by decide +kernel) ⟨Nat.le_of_ble_eq_true rfl, Nat.le_of_ble_eq_true rfl⟩ rfl hl.1 rfl (Nat.le_of_ble_eq_true rfl) ⟨Nat.zero_le _, Nat.zero_le _⟩ dJ0_indexOf_7cf53_17) hH (fun H locs hH => ?_)
    refine lv_goto (tgt := 36) hx hb dJ0_indexOf_7cf53_20 (by decide) ?_
    exact P36 r_26 w_24 H locs ls hf hH (lv_sub hl [] rfl)

def f_J0_indexOf_0f7a4_t2 (a1 : Int32) (w : am_S) : Option (Int32 × am_S) :=
  am_b2 (f_J0_indexOf_7cf53_t2 a1 (0 : Int32) w) fun r_6 w_4 => some (r_6, w_4)
set_option maxRecDepth 100000 in
set_option maxHeartbeats 4000000 in
theorem k_J0_indexOf_0f7a4_t2 {G : am_G} {l : Launch} {a1 : Int32}  {w : am_S} {rr : Int32} {ww : am_S} (hf : f_J0_indexOf_0f7a4_t2 a1 w = some (rr, ww)) : am_Mi G l yJ0_indexOf_0f7a4 (Cond.code yJ0_indexOf_0f7a4 cJ0_indexOf_0f7a4 2 (some .int) :: am_T) { frames := 3, cells := 0, slots := 0, locals := 192 } [.ref (G.2.2.2.2.1 2), .int a1] w rr ww := by
  refine Met.ofW (cc := cJ0_indexOf_0f7a4) (maxL := 2) (ret := (some .int)) (by decide) rfl ?_
  intro p e s m args below meth c s₁ B hml hv
  obtain ⟨rfl, hx, hb, hr, hts, hown, hlocks, hK, hE, hH⟩ := am_begin B hv
  have hown : s.vm.findClass RJ0 = some m.cls := hown
  show W p l e { frames := 3, cells := 0, slots := 0, locals := 192 } s m _ below meth c s.heap [] 0 0 _ _
  refine am_enter (lv := [(0, .ref (G.2.2.2.2.1 2)), (1, .int a1)]) (Nat.le_of_ble_eq_true rfl) rfl (fun ls hl => ?_)
  unfold f_J0_indexOf_0f7a4_t2 at hf
  refine am_start hH (fun H locs hH => ?_)
  refine lv_aload_n hx hb dJ0_indexOf_0f7a4_0 rfl (lv_at hl 0 rfl) ?_
  refine lv_iload_n hx hb dJ0_indexOf_0f7a4_1 rfl (lv_at hl 1 rfl) ?_
  refine lv_iconst (v := 0) hx hb dJ0_indexOf_0f7a4_2 (by decide) ?_
  obtain ⟨r_6, w_4, hq_5, hf⟩ := am_b2_some hf
  refine am_calli (r := r_6) (w' := w_4) (am_runVT (n := 2) (As := [.int a1, .int (0 : Int32)]) (rest := []) 2 (by decide) ⟨hx, hb, hml, hown, hts⟩ hK hE hH (k_J0_indexOf_7cf53_t2 hq_5) (am_gV am_q459 am_q460 am_q461 am_q16 am_q462) ⟨rfl, rfl⟩ (by decide +kernel) ⟨Nat.le_of_ble_eq_true rfl, Nat.le_of_ble_eq_true rfl⟩ rfl hl.1 rfl (Nat.le_of_ble_eq_true rfl) ⟨Nat.zero_le _, Nat.zero_le _⟩ dJ0_indexOf_0f7a4_3) hH (fun H locs hH => ?_)
  exact am_reti hx hb hr hlocks hH hf dJ0_indexOf_0f7a4_6

def f_X1_readItems_t2_x6_x7_x8_57 (o0 : Nat) (w : am_S) : Option (Int32 × am_S) :=
  some ((1 : Int32), w)
def f_X1_readItems_t2_x6_x7_x8_82 (o0 : Nat) (w : am_S) : Option (Int32 × am_S) :=
  some ((0 : Int32), w)
def f_X1_readItems_t2_x6_x7_x8_30b (o0 : Nat) (x6 : Int32) (x7 : Int32) (w : am_S) : Option ((Int32 × am_S) ⊕ (Int32 × Int32 × am_S)) :=
  am_b2 (f_J0_length_8abf5_t2 w) fun r_30 w_28 => if r_30 < x7 then (am_x (some ((0 : Int32), w_28))) else (am_b2 (f_X10_nextSign w_28) fun r_35 w_33 => if r_35 = 0 then (am_x (f_X1_readItems_t2_x6_x7_x8_57 o0 w_33)) else (if r_35 = (59 : Int32) then (am_x (f_X1_readItems_t2_x6_x7_x8_57 o0 w_33)) else (am_b2 (f_J0_indexOf_0f7a4_t2 r_35 w_33) fun r_41 w_39 => if r_41 < 0 then (am_x (f_X1_readItems_t2_x6_x7_x8_82 o0 w_39)) else (if ((x6 >>> (r_41 &&& 31)) &&& (1 : Int32)) = 0 then (am_v (am_pi w_39 1 2 ((w_39.1 1 2) + (1 : Int32))) fun (w_45 : am_S) => am_chk r_41 2 (am_chk r_41 2 (am_b2 (f_X10_readNumber (am_sv 6 r_41.toNatClampNeg) (am_sv 7 r_41.toNatClampNeg) w_45) fun r_50 w_48 => if r_50 = 0 then (am_x (some ((0 : Int32), w_48))) else (am_chk r_41 5 (am_v (am_pi w_48 (o0 + 1) r_41.toNatClampNeg (w_48.1 1 3)) fun (w_53 : am_S) => am_v (x6 ||| ((1 : Int32) <<< (r_41 &&& 31))) fun (x6_54 : Int32) => am_v (x7 + (1 : Int32)) fun (x7_55 : Int32) => some (.inr (x6_54, x7_55, w_53))))))) else (am_x (f_X1_readItems_t2_x6_x7_x8_82 o0 w_39))))))
def f_X1_readItems_t2_x6_x7_x8_30 (o0 : Nat) (x6 : Int32) (x7 : Int32) (w : am_S) : Option (Int32 × am_S) :=
  am_loop (fun (st : (Int32 × Int32 × am_S)) => f_X1_readItems_t2_x6_x7_x8_30b o0 st.1 st.2.1 st.2.2) am_fuel (x6, x7, w)
def f_X1_readItems_t2_x6_x7_x8 (o0 : Nat) (w : am_S) : Option (Int32 × am_S) :=
  am_v (am_cx w (am_sv 8) 0 (o0 + 1) 0 2) fun (w_59 : am_S) => am_v (am_pi w_59 1 2 ((w_59.1 1 2) + (1 : Int32))) fun (w_60 : am_S) => f_X1_readItems_t2_x6_x7_x8_30 o0 (0 : Int32) (0 : Int32) w_60
set_option maxRecDepth 100000 in
set_option maxHeartbeats 4000000 in
theorem k_X1_readItems_t2_x6_x7_x8 {G : am_G} {l : Launch} {o0 : Nat} (ho0 : am_f1 o0) {w : am_S} {rr : Int32} {ww : am_S} (hf : f_X1_readItems_t2_x6_x7_x8 o0 w = some (rr, ww)) : am_Mi G l yX1_readItems (Cond.code yX1_readItems cX1_readItems 10 (some .boolean) :: am_T) { frames := 4, cells := 0, slots := 0, locals := 256 } [.ref (G.1 + o0), .ref (G.1 + 1), .ref (G.2.2.2.2.1 2), .ref (G.2.2.2.1 6), .ref (G.2.2.2.1 7), .ref (G.2.2.2.1 8)] w rr ww := by
  refine Met.ofW (cc := cX1_readItems) (maxL := 10) (ret := (some .boolean)) (by decide) rfl ?_
  intro p e s m args below meth c s₁ B hml hv
  obtain ⟨rfl, hx, hb, hr, hts, hown, hlocks, hK, hE, hH⟩ := am_begin B hv
  have hown : s.vm.findClass RX1 = some m.cls := hown
  show W p l e { frames := 4, cells := 0, slots := 0, locals := 256 } s m _ below meth c s.heap [] 0 0 _ _
  have P57 : ∀ (w : am_S) (H : Heap) (locs : List Loc) (ls : Array Slot), f_X1_readItems_t2_x6_x7_x8_57 o0 w = some (rr, ww) → am_H G w s H locs → lv_has ls 10 [] → W p l e { frames := 4, cells := 0, slots := 0, locals := 256 } s m [.ref (G.1 + o0), .ref (G.1 + 1), .ref (G.2.2.2.2.1 2), .ref (G.2.2.2.1 6), .ref (G.2.2.2.1 7), .ref (G.2.2.2.1 8)].toArray below meth c H locs 0 0 (MQ below (va_Qi (fun (x : Int32) (u : am_S) => x = rr ∧ u = ww) (am_U G) (am_A G)) [.ref (G.1 + o0), .ref (G.1 + 1), .ref (G.2.2.2.2.1 2), .ref (G.2.2.2.1 6), .ref (G.2.2.2.1 7), .ref (G.2.2.2.1 8)].toArray s 0 0 (am_A G)) (F0 m 57 ls []) := by
    intro w H locs ls hf hH hl
    unfold f_X1_readItems_t2_x6_x7_x8_57 at hf
    refine lv_iconst (v := 1) hx hb dX1_readItems_57 (by decide) ?_
    exact am_retz hx hb hr rfl hlocks hH hf dX1_readItems_58
  have P82 : ∀ (w : am_S) (H : Heap) (locs : List Loc) (ls : Array Slot), f_X1_readItems_t2_x6_x7_x8_82 o0 w = some (rr, ww) → am_H G w s H locs → lv_has ls 10 [] → W p l e { frames := 4, cells := 0, slots := 0, locals := 256 } s m [.ref (G.1 + o0), .ref (G.1 + 1), .ref (G.2.2.2.2.1 2), .ref (G.2.2.2.1 6), .ref (G.2.2.2.1 7), .ref (G.2.2.2.1 8)].toArray below meth c H locs 0 0 (MQ below (va_Qi (fun (x : Int32) (u : am_S) => x = rr ∧ u = ww) (am_U G) (am_A G)) [.ref (G.1 + o0), .ref (G.1 + 1), .ref (G.2.2.2.2.1 2), .ref (G.2.2.2.1 6), .ref (G.2.2.2.1 7), .ref (G.2.2.2.1 8)].toArray s 0 0 (am_A G)) (F0 m 82 ls []) := by
    intro w H locs ls hf hH hl
    unfold f_X1_readItems_t2_x6_x7_x8_82 at hf
    refine lv_iconst (v := 0) hx hb dX1_readItems_82 (by decide) ?_
    exact am_retz hx hb hr rfl hlocks hH hf dX1_readItems_83
  have P30 : ∀ (n1 : Nat) (x6 : Int32) (x7 : Int32) (w : am_S) (H : Heap) (locs : List Loc) (ls : Array Slot), am_loop (fun (st : (Int32 × Int32 × am_S)) => f_X1_readItems_t2_x6_x7_x8_30b o0 st.1 st.2.1 st.2.2) n1 (x6, x7, w) = some (rr, ww) → am_H G w s H locs → lv_has ls 10 [(0, .ref (G.1 + o0)), (1, .ref (G.1 + 1)), (2, .ref (G.2.2.2.2.1 2)), (3, .ref (G.2.2.2.1 6)), (4, .ref (G.2.2.2.1 7)), (6, .int x6), (7, .int x7)] → W p l e { frames := 4, cells := 0, slots := 0, locals := 256 } s m [.ref (G.1 + o0), .ref (G.1 + 1), .ref (G.2.2.2.2.1 2), .ref (G.2.2.2.1 6), .ref (G.2.2.2.1 7), .ref (G.2.2.2.1 8)].toArray below meth c H locs 0 0 (MQ below (va_Qi (fun (x : Int32) (u : am_S) => x = rr ∧ u = ww) (am_U G) (am_A G)) [.ref (G.1 + o0), .ref (G.1 + 1), .ref (G.2.2.2.2.1 2), .ref (G.2.2.2.1 6), .ref (G.2.2.2.1 7), .ref (G.2.2.2.1 8)].toArray s 0 0 (am_A G)) (F0 m 30 ls []) := by
    intro n1
    induction n1 with
    | zero =>
      intro x6 x7 w H locs ls hf hH hl
      exact (am_loop_zero hf).elim
    | succ n1 ih1 =>
      intro x6 x7 w H locs ls hf hH hl
      obtain ⟨z1, hf, hk1⟩ := am_loop_succ hf
      have hf : f_X1_readItems_t2_x6_x7_x8_30b o0 x6 x7 w = some z1 := hf
      unfold f_X1_readItems_t2_x6_x7_x8_30b at hf
      refine lv_iload hx hb dX1_readItems_30 (lv_at hl 6 rfl) ?_
      refine lv_aload_n hx hb dX1_readItems_32 rfl (lv_at hl 2 rfl) ?_
      obtain ⟨r_30, w_28, hq_29, hf⟩ := am_b2_some hf
      refine am_calli (r := r_30) (w' := w_28) (am_runVT (n := 0) (As := []) (rest := [.int x7]) 2 (by decide) ⟨hx, hb, hml, hown, hts⟩ hK hE hH (k_J0_length_8abf5_t2 hq_29) (am_gV am_q445 am_q446 am_q447 am_q16 am_q448) ⟨rfl, rfl⟩ (by decide +kernel) ⟨Nat.le_of_ble_eq_true rfl, Nat.le_of_ble_eq_true rfl⟩ rfl hl.1 rfl (Nat.le_of_ble_eq_true rfl) ⟨Nat.zero_le _, Nat.zero_le _⟩ dX1_readItems_33) hH (fun H locs hH => ?_)
      refine lv_icmp_gt (tgt := 138) hx hb dX1_readItems_36 (by decide) (fun hc_31 => ?_) (fun hc_31 => ?_)
      · have hf := (if_pos hc_31).symm.trans hf
        obtain ⟨y_32, hf, hzy_32⟩ := am_x_some hf
        rw [hzy_32] at hk1
        have hf := hf.trans (congrArg some (show y_32 = (rr, ww) from hk1))
        refine lv_iconst (v := 0) hx hb dX1_readItems_138 (by decide) ?_
        exact am_retz hx hb hr rfl hlocks hH hf dX1_readItems_139
      · have hf := (if_neg hc_31).symm.trans hf
        refine lv_aload_n hx hb dX1_readItems_39 rfl (lv_at hl 1 rfl) ?_
        obtain ⟨r_35, w_33, hq_34, hf⟩ := am_b2_some hf
        refine am_calli (r := r_35) (w' := w_33) (am_runV (n := 0) (As := []) (rest := []) ⟨hx, hb, hml, hown, hts⟩ hK hE hH (k_X10_nextSign hq_34) (am_gV am_q429 am_q430 am_q431 am_q2 am_q432) (am_o10 (p := 1) (by decide +kernel)) rfl ⟨rfl, rfl⟩ (by decide +kernel) ⟨Nat.le_of_ble_eq_true rfl, Nat.le_of_ble_eq_true rfl⟩ rfl hl.1 rfl (Nat.le_of_ble_eq_true rfl) ⟨Nat.zero_le _, Nat.zero_le _⟩ dX1_readItems_40) hH (fun H locs hH => ?_)
        refine lv_istore (lv' := [(8, .int r_35), (0, .ref (G.1 + o0)), (1, .ref (G.1 + 1)), (2, .ref (G.2.2.2.2.1 2)), (3, .ref (G.2.2.2.1 6)), (4, .ref (G.2.2.2.1 7)), (6, .int x6), (7, .int x7)]) hx hb dX1_readItems_43 hl (by decide) rfl (fun ls hl => ?_)
        refine lv_iload hx hb dX1_readItems_45 (lv_at hl 0 rfl) ?_
        refine lv_if_eq (tgt := 57) hx hb dX1_readItems_47 (by decide) (fun hc_36 => ?_) (fun hc_36 => ?_)
        · have hf := (if_pos hc_36).symm.trans hf
          obtain ⟨y_37, hf, hzy_37⟩ := am_x_some hf
          rw [hzy_37] at hk1
          have hf := hf.trans (congrArg some (show y_37 = (rr, ww) from hk1))
          exact P57 w_33 H locs ls hf hH (lv_sub hl [] rfl)
        · have hf := (if_neg hc_36).symm.trans hf
          refine lv_iload hx hb dX1_readItems_50 (lv_at hl 0 rfl) ?_
          refine lv_bipush (v := 59) hx hb dX1_readItems_52 (by decide) ?_
          refine lv_icmp_ne (tgt := 59) hx hb dX1_readItems_54 (by decide) (fun hc_38 => ?_) (fun hc_38 => ?_)
          · have hf := (if_neg hc_38).symm.trans hf
            refine lv_aload_n hx hb dX1_readItems_59 rfl (lv_at hl 3 rfl) ?_
            refine lv_iload hx hb dX1_readItems_60 (lv_at hl 0 rfl) ?_
            obtain ⟨r_41, w_39, hq_40, hf⟩ := am_b2_some hf
            refine am_calli (r := r_41) (w' := w_39) (am_runVT (n := 1) (As := [.int r_35]) (rest := []) 2 (by decide) ⟨hx, hb, hml, hown, hts⟩ hK hE hH (k_J0_indexOf_0f7a4_t2 hq_40) (am_gV am_q455 am_q456 am_q457 am_q16 am_q458) ⟨rfl, rfl⟩ (by decide +kernel) ⟨Nat.le_of_ble_eq_true rfl, Nat.le_of_ble_eq_true rfl⟩ rfl hl.1 rfl (Nat.le_of_ble_eq_true rfl) ⟨Nat.zero_le _, Nat.zero_le _⟩ dX1_readItems_62) hH (fun H locs hH => ?_)
            refine lv_istore (lv' := [(9, .int r_41), (8, .int r_35), (0, .ref (G.1 + o0)), (1, .ref (G.1 + 1)), (2, .ref (G.2.2.2.2.1 2)), (3, .ref (G.2.2.2.1 6)), (4, .ref (G.2.2.2.1 7)), (6, .int x6), (7, .int x7)]) hx hb dX1_readItems_65 hl (by decide) rfl (fun ls hl => ?_)
            refine lv_iload hx hb dX1_readItems_67 (lv_at hl 0 rfl) ?_
            refine lv_if_lt (tgt := 82) hx hb dX1_readItems_69 (by decide) (fun hc_42 => ?_) (fun hc_42 => ?_)
            · have hf := (if_pos hc_42).symm.trans hf
              obtain ⟨y_43, hf, hzy_43⟩ := am_x_some hf
              rw [hzy_43] at hk1
              have hf := hf.trans (congrArg some (show y_43 = (rr, ww) from hk1))
              exact P82 w_39 H locs ls hf hH (lv_sub hl [] rfl)
            · have hf := (if_neg hc_42).symm.trans hf
              refine lv_iload hx hb dX1_readItems_72 (lv_at hl 7 rfl) ?_
              refine lv_iload hx hb dX1_readItems_74 (lv_at hl 0 rfl) ?_
              refine lv_ishr hx hb dX1_readItems_76 ?_
              refine lv_iconst (v := 1) hx hb dX1_readItems_77 (by decide) ?_
              refine lv_iand hx hb dX1_readItems_78 ?_
              refine lv_if_eq (tgt := 84) hx hb dX1_readItems_79 (by decide) (fun hc_44 => ?_) (fun hc_44 => ?_)
              · have hf := (if_pos hc_44).symm.trans hf
                refine lv_aload_n hx hb dX1_readItems_84 rfl (lv_at hl 3 rfl) ?_
                refine lv_dup hx hb dX1_readItems_85 rfl ?_
                refine am_get hx hb hts hK hown hH (am_o10 (p := 1) (by decide +kernel)) rfl am_inX10 2 (by decide) am_q51 (v := .int (w_39.1 1 2)) rfl dX1_readItems_86 ?_
                refine lv_iconst (v := 1) hx hb dX1_readItems_89 (by decide) ?_
                refine lv_iadd hx hb dX1_readItems_90 ?_
                obtain ⟨w_45, hw_45, hf⟩ := am_v_some hf
                refine am_puti hx hb hts hK hown hH (am_o10 (p := 1) (by decide +kernel)) rfl am_inX10 tyX10 tyX10_ok nmX10 2 (by decide) am_q51 rfl rfl rfl (fun _ _ => Nat.le_of_ble_eq_true rfl) (fun _ _ _ => rfl) dX1_readItems_91 (fun H locs hH => ?_)
                rw [← hw_45] at hH
                refine lv_aload_n hx hb dX1_readItems_94 rfl (lv_at hl 3 rfl) ?_
                refine lv_aload_n hx hb dX1_readItems_95 rfl (lv_at hl 5 rfl) ?_
                refine lv_iload hx hb dX1_readItems_96 (lv_at hl 0 rfl) ?_
                obtain ⟨hi_46, hf⟩ := am_chk_some hf
                refine va_ti hx hb (hE.1 6 _ rfl).2 hH.2 hi_46 rfl dX1_readItems_98 ?_
                refine lv_aload hx hb dX1_readItems_99 (lv_at hl 6 rfl) ?_
                refine lv_iload hx hb dX1_readItems_101 (lv_at hl 0 rfl) ?_
                obtain ⟨hi_47, hf⟩ := am_chk_some hf
                refine va_ti hx hb (hE.1 7 _ rfl).2 hH.2 hi_47 rfl dX1_readItems_103 ?_
                obtain ⟨r_50, w_48, hq_49, hf⟩ := am_b2_some hf
                refine am_calli (r := r_50) (w' := w_48) (am_runV (n := 2) (As := [.int (am_sv 6 r_41.toNatClampNeg), .int (am_sv 7 r_41.toNatClampNeg)]) (rest := []) ⟨hx, hb, hml, hown, hts⟩ hK hE hH (k_X10_readNumber hq_49) (am_gV am_q532 am_q533 am_q534 am_q2 am_q535) (am_o10 (p := 1) (by decide +kernel)) rfl ⟨rfl, rfl⟩ (by decide +kernel) ⟨Nat.le_of_ble_eq_true rfl, Nat.le_of_ble_eq_true rfl⟩ rfl hl.1 rfl (Nat.le_of_ble_eq_true rfl) ⟨Nat.zero_le _, Nat.zero_le _⟩ dX1_readItems_104) hH (fun H locs hH => ?_)
                refine lv_if_ne (tgt := 112) hx hb dX1_readItems_107 (by decide) (fun hc_51 => ?_) (fun hc_51 => ?_)
                · have hf := (if_neg hc_51).symm.trans hf
                  refine lv_aload_n hx hb dX1_readItems_112 rfl (lv_at hl 2 rfl) ?_
                  refine am_get hx hb hts hK hown hH (am_o1 ho0.1) rfl am_inX1 0 (by decide) am_q71 (v := .ref (G.1 + (o0 + 1))) rfl dX1_readItems_113 ?_
                  refine lv_iload hx hb dX1_readItems_116 (lv_at hl 0 rfl) ?_
                  refine lv_aload_n hx hb dX1_readItems_118 rfl (lv_at hl 3 rfl) ?_
                  refine am_get hx hb hts hK hown hH (am_o10 (p := 1) (by decide +kernel)) rfl am_inX10 3 (by decide) am_q54 (v := .int (w_48.1 1 3)) rfl dX1_readItems_119 ?_
                  obtain ⟨hi_52, hf⟩ := am_chk_some hf
                  obtain ⟨w_53, hw_53, hf⟩ := am_v_some hf
                  refine am_iast hx hb hK hH (am_ai_of (N := 5) ho0.2.1) hi_52 dX1_readItems_122 (fun H locs hH => ?_)
                  rw [← hw_53] at hH
                  refine lv_iload hx hb dX1_readItems_123 (lv_at hl 7 rfl) ?_
                  refine lv_iconst (v := 1) hx hb dX1_readItems_125 (by decide) ?_
                  refine lv_iload hx hb dX1_readItems_126 (lv_at hl 0 rfl) ?_
                  refine lv_ishl hx hb dX1_readItems_128 ?_
                  refine lv_ior hx hb dX1_readItems_129 ?_
                  obtain ⟨x6_54, hx6_54, hf⟩ := am_v_some hf
                  refine am_topi hx6_54 ?_
                  refine lv_istore (lv' := [(6, .int x6_54), (9, .int r_41), (8, .int r_35), (0, .ref (G.1 + o0)), (1, .ref (G.1 + 1)), (2, .ref (G.2.2.2.2.1 2)), (3, .ref (G.2.2.2.1 6)), (4, .ref (G.2.2.2.1 7)), (7, .int x7)]) hx hb dX1_readItems_130 hl (by decide) rfl (fun ls hl => ?_)
                  obtain ⟨x7_55, hx7_55, hf⟩ := am_v_some hf
                  refine lv_iinc (v := x7_55) (lv' := [(7, .int x7_55), (6, .int x6_54), (9, .int r_41), (8, .int r_35), (0, .ref (G.1 + o0)), (1, .ref (G.1 + 1)), (2, .ref (G.2.2.2.2.1 2)), (3, .ref (G.2.2.2.1 6)), (4, .ref (G.2.2.2.1 7))]) hx hb dX1_readItems_132 hl (k := 8) rfl (by rw [hx7_55]; rfl) (by decide) rfl (fun ls hl => ?_)
                  refine lv_goto (tgt := 30) hx hb dX1_readItems_135 (by decide) ?_
                  obtain rfl := Option.some.inj hf
                  exact ih1 x6_54 x7_55 w_53 H locs ls hk1 hH (lv_sub hl [4, 5, 6, 7, 8, 1, 0] rfl)
                · have hf := (if_pos hc_51).symm.trans hf
                  obtain ⟨y_56, hf, hzy_56⟩ := am_x_some hf
                  rw [hzy_56] at hk1
                  have hf := hf.trans (congrArg some (show y_56 = (rr, ww) from hk1))
                  refine lv_iconst (v := 0) hx hb dX1_readItems_110 (by decide) ?_
                  exact am_retz hx hb hr rfl hlocks hH hf dX1_readItems_111
              · have hf := (if_neg hc_44).symm.trans hf
                obtain ⟨y_57, hf, hzy_57⟩ := am_x_some hf
                rw [hzy_57] at hk1
                have hf := hf.trans (congrArg some (show y_57 = (rr, ww) from hk1))
                exact P82 w_39 H locs ls hf hH (lv_sub hl [] rfl)
          · have hf := (if_pos hc_38).symm.trans hf
            obtain ⟨y_58, hf, hzy_58⟩ := am_x_some hf
            rw [hzy_58] at hk1
            have hf := hf.trans (congrArg some (show y_58 = (rr, ww) from hk1))
            exact P57 w_33 H locs ls hf hH (lv_sub hl [] rfl)
  refine am_enter (lv := [(0, .ref (G.1 + o0)), (1, .ref (G.1 + 1)), (2, .ref (G.2.2.2.2.1 2)), (3, .ref (G.2.2.2.1 6)), (4, .ref (G.2.2.2.1 7)), (5, .ref (G.2.2.2.1 8))]) (Nat.le_of_ble_eq_true rfl) rfl (fun ls hl => ?_)
  unfold f_X1_readItems_t2_x6_x7_x8 at hf
  refine am_start hH (fun H locs hH => ?_)
  refine lv_aload hx hb dX1_readItems_0 (lv_at hl 5 rfl) ?_
  refine lv_iconst (v := 0) hx hb dX1_readItems_2 (by decide) ?_
  refine lv_aload_n hx hb dX1_readItems_3 rfl (lv_at hl 0 rfl) ?_
  refine am_get hx hb hts hK hown hH (am_o1 ho0.1) rfl am_inX1 0 (by decide) am_q71 (v := .ref (G.1 + (o0 + 1))) rfl dX1_readItems_4 ?_
  refine lv_iconst (v := 0) hx hb dX1_readItems_7 (by decide) ?_
  refine lv_aload hx hb dX1_readItems_8 (lv_at hl 5 rfl) ?_
  refine va_tlen (v := 2) hx hb (hE.1 8 _ rfl).2 hH.2 rfl dX1_readItems_10 ?_
  obtain ⟨w_59, hw_59, hf⟩ := am_v_some hf
  refine am_copyx (n := 2) hx hb (hml.trans hl.1.symm) hown (hts _ am_q442) (hts _ am_q444) (hts _ am_q443) (hts _ am_q15) hK hH (hE.1 8 _ rfl).2 (am_ai_of (N := 5) ho0.2.1) (by decide) (by decide) (by decide) (by decide) (by decide) (Nat.le_of_ble_eq_true rfl) (by decide +kernel) dX1_readItems_11 (fun H locs hH => ?_)
  rw [← hw_59] at hH
  refine lv_aload_n hx hb dX1_readItems_14 rfl (lv_at hl 1 rfl) ?_
  refine lv_dup hx hb dX1_readItems_15 rfl ?_
  refine am_get hx hb hts hK hown hH (am_o10 (p := 1) (by decide +kernel)) rfl am_inX10 2 (by decide) am_q51 (v := .int (w_59.1 1 2)) rfl dX1_readItems_16 ?_
  refine lv_iconst (v := 1) hx hb dX1_readItems_19 (by decide) ?_
  refine lv_iadd hx hb dX1_readItems_20 ?_
  obtain ⟨w_60, hw_60, hf⟩ := am_v_some hf
  refine am_puti hx hb hts hK hown hH (am_o10 (p := 1) (by decide +kernel)) rfl am_inX10 tyX10 tyX10_ok nmX10 2 (by decide) am_q51 rfl rfl rfl (fun _ _ => Nat.le_of_ble_eq_true rfl) (fun _ _ _ => rfl) dX1_readItems_21 (fun H locs hH => ?_)
  rw [← hw_60] at hH
  refine lv_iconst (v := 0) hx hb dX1_readItems_24 (by decide) ?_
  refine lv_istore (lv' := [(6, .int (0 : Int32)), (0, .ref (G.1 + o0)), (1, .ref (G.1 + 1)), (2, .ref (G.2.2.2.2.1 2)), (3, .ref (G.2.2.2.1 6)), (4, .ref (G.2.2.2.1 7)), (5, .ref (G.2.2.2.1 8))]) hx hb dX1_readItems_25 hl (by decide) rfl (fun ls hl => ?_)
  refine lv_iconst (v := 0) hx hb dX1_readItems_27 (by decide) ?_
  refine lv_istore (lv' := [(7, .int (0 : Int32)), (6, .int (0 : Int32)), (0, .ref (G.1 + o0)), (1, .ref (G.1 + 1)), (2, .ref (G.2.2.2.2.1 2)), (3, .ref (G.2.2.2.1 6)), (4, .ref (G.2.2.2.1 7)), (5, .ref (G.2.2.2.1 8))]) hx hb dX1_readItems_28 hl (by decide) rfl (fun ls hl => ?_)
  exact P30 am_fuel (0 : Int32) (0 : Int32) w_60 H locs ls hf hH (lv_sub hl [2, 3, 4, 5, 6, 1, 0] rfl)

def f_X1_keepUser (o0 : Nat) (w : am_S) : Option am_S :=
  am_chk (0 : Int32) 5 (am_chk (w.1 o0 11) 10 (am_v (am_pi w (o0 + 2) (w.1 o0 11).toNatClampNeg (w.1 (o0 + 1) (0 : Int32).toNatClampNeg)) fun (w_19 : am_S) => am_chk (1 : Int32) 5 (am_chk (w_19.1 o0 11) 10 (am_v (am_pi w_19 (o0 + 3) (w_19.1 o0 11).toNatClampNeg (w_19.1 (o0 + 1) (1 : Int32).toNatClampNeg)) fun (w_22 : am_S) => am_chk (2 : Int32) 5 (am_chk (w_22.1 o0 11) 10 (am_v (am_pi w_22 (o0 + 4) (w_22.1 o0 11).toNatClampNeg (w_22.1 (o0 + 1) (2 : Int32).toNatClampNeg)) fun (w_25 : am_S) => am_chk (3 : Int32) 5 (am_chk (w_25.1 o0 11) 10 (am_v (am_pi w_25 (o0 + 5) (w_25.1 o0 11).toNatClampNeg (w_25.1 (o0 + 1) (3 : Int32).toNatClampNeg)) fun (w_28 : am_S) => am_chk (4 : Int32) 5 (am_chk (w_28.1 o0 11) 10 (am_v (am_pi w_28 (o0 + 6) (w_28.1 o0 11).toNatClampNeg (w_28.1 (o0 + 1) (4 : Int32).toNatClampNeg)) fun (w_31 : am_S) => am_v (am_pi w_31 o0 11 ((w_31.1 o0 11) + (1 : Int32))) fun (w_32 : am_S) => some w_32))))))))))
set_option maxRecDepth 100000 in
set_option maxHeartbeats 4000000 in
theorem k_X1_keepUser {G : am_G} {l : Launch} {o0 : Nat} (ho0 : am_f1 o0) {w : am_S} {ww : am_S} (hf : f_X1_keepUser o0 w = some ww) : am_Mv G l yX1_keepUser (Cond.code yX1_keepUser cX1_keepUser 1 none :: am_T) { frames := 0, cells := 0, slots := 0, locals := 0 } [.ref (G.1 + o0)] w ww := by
  refine Met.ofW (cc := cX1_keepUser) (maxL := 1) (ret := none) (by decide) rfl ?_
  intro p e s m args below meth c s₁ B hml hv
  obtain ⟨rfl, hx, hb, hr, hts, hown, hlocks, hK, hE, hH⟩ := am_begin B hv
  have hown : s.vm.findClass RX1 = some m.cls := hown
  show W p l e { frames := 0, cells := 0, slots := 0, locals := 0 } s m _ below meth c s.heap [] 0 0 _ _
  refine am_enter (lv := [(0, .ref (G.1 + o0))]) (Nat.le_of_ble_eq_true rfl) rfl (fun ls hl => ?_)
  unfold f_X1_keepUser at hf
  refine am_start hH (fun H locs hH => ?_)
  refine lv_aload_n hx hb dX1_keepUser_0 rfl (lv_at hl 0 rfl) ?_
  refine am_get hx hb hts hK hown hH (am_o1 ho0.1) rfl am_inX1 1 (by decide) am_q72 (v := .ref (G.1 + (o0 + 2))) rfl dX1_keepUser_1 ?_
  refine lv_aload_n hx hb dX1_keepUser_4 rfl (lv_at hl 0 rfl) ?_
  refine am_get hx hb hts hK hown hH (am_o1 ho0.1) rfl am_inX1 11 (by decide) am_q104 (v := .int (w.1 o0 11)) rfl dX1_keepUser_5 ?_
  refine lv_aload_n hx hb dX1_keepUser_8 rfl (lv_at hl 0 rfl) ?_
  refine am_get hx hb hts hK hown hH (am_o1 ho0.1) rfl am_inX1 0 (by decide) am_q71 (v := .ref (G.1 + (o0 + 1))) rfl dX1_keepUser_9 ?_
  refine lv_iconst (v := 0) hx hb dX1_keepUser_12 (by decide) ?_
  obtain ⟨hi_17, hf⟩ := am_chk_some hf
  refine am_iald hx hb hK hH (am_ai_of (N := 5) ho0.2.1) hi_17 dX1_keepUser_13 ?_
  obtain ⟨hi_18, hf⟩ := am_chk_some hf
  obtain ⟨w_19, hw_19, hf⟩ := am_v_some hf
  refine am_iast hx hb hK hH (am_ai_of (N := 10) ho0.2.2.1) hi_18 dX1_keepUser_14 (fun H locs hH => ?_)
  rw [← hw_19] at hH
  refine lv_aload_n hx hb dX1_keepUser_15 rfl (lv_at hl 0 rfl) ?_
  refine am_get hx hb hts hK hown hH (am_o1 ho0.1) rfl am_inX1 2 (by decide) am_q75 (v := .ref (G.1 + (o0 + 3))) rfl dX1_keepUser_16 ?_
  refine lv_aload_n hx hb dX1_keepUser_19 rfl (lv_at hl 0 rfl) ?_
  refine am_get hx hb hts hK hown hH (am_o1 ho0.1) rfl am_inX1 11 (by decide) am_q104 (v := .int (w_19.1 o0 11)) rfl dX1_keepUser_20 ?_
  refine lv_aload_n hx hb dX1_keepUser_23 rfl (lv_at hl 0 rfl) ?_
  refine am_get hx hb hts hK hown hH (am_o1 ho0.1) rfl am_inX1 0 (by decide) am_q71 (v := .ref (G.1 + (o0 + 1))) rfl dX1_keepUser_24 ?_
  refine lv_iconst (v := 1) hx hb dX1_keepUser_27 (by decide) ?_
  obtain ⟨hi_20, hf⟩ := am_chk_some hf
  refine am_iald hx hb hK hH (am_ai_of (N := 5) ho0.2.1) hi_20 dX1_keepUser_28 ?_
  obtain ⟨hi_21, hf⟩ := am_chk_some hf
  obtain ⟨w_22, hw_22, hf⟩ := am_v_some hf
  refine am_iast hx hb hK hH (am_ai_of (N := 10) ho0.2.2.2.1) hi_21 dX1_keepUser_29 (fun H locs hH => ?_)
  rw [← hw_22] at hH
  refine lv_aload_n hx hb dX1_keepUser_30 rfl (lv_at hl 0 rfl) ?_
  refine am_get hx hb hts hK hown hH (am_o1 ho0.1) rfl am_inX1 3 (by decide) am_q78 (v := .ref (G.1 + (o0 + 4))) rfl dX1_keepUser_31 ?_
  refine lv_aload_n hx hb dX1_keepUser_34 rfl (lv_at hl 0 rfl) ?_
  refine am_get hx hb hts hK hown hH (am_o1 ho0.1) rfl am_inX1 11 (by decide) am_q104 (v := .int (w_22.1 o0 11)) rfl dX1_keepUser_35 ?_
  refine lv_aload_n hx hb dX1_keepUser_38 rfl (lv_at hl 0 rfl) ?_
  refine am_get hx hb hts hK hown hH (am_o1 ho0.1) rfl am_inX1 0 (by decide) am_q71 (v := .ref (G.1 + (o0 + 1))) rfl dX1_keepUser_39 ?_
  refine lv_iconst (v := 2) hx hb dX1_keepUser_42 (by decide) ?_
  obtain ⟨hi_23, hf⟩ := am_chk_some hf
  refine am_iald hx hb hK hH (am_ai_of (N := 5) ho0.2.1) hi_23 dX1_keepUser_43 ?_
  obtain ⟨hi_24, hf⟩ := am_chk_some hf
  obtain ⟨w_25, hw_25, hf⟩ := am_v_some hf
  refine am_iast hx hb hK hH (am_ai_of (N := 10) ho0.2.2.2.2.1) hi_24 dX1_keepUser_44 (fun H locs hH => ?_)
  rw [← hw_25] at hH
  refine lv_aload_n hx hb dX1_keepUser_45 rfl (lv_at hl 0 rfl) ?_
  refine am_get hx hb hts hK hown hH (am_o1 ho0.1) rfl am_inX1 4 (by decide) am_q81 (v := .ref (G.1 + (o0 + 5))) rfl dX1_keepUser_46 ?_
  refine lv_aload_n hx hb dX1_keepUser_49 rfl (lv_at hl 0 rfl) ?_
  refine am_get hx hb hts hK hown hH (am_o1 ho0.1) rfl am_inX1 11 (by decide) am_q104 (v := .int (w_25.1 o0 11)) rfl dX1_keepUser_50 ?_
  refine lv_aload_n hx hb dX1_keepUser_53 rfl (lv_at hl 0 rfl) ?_
  refine am_get hx hb hts hK hown hH (am_o1 ho0.1) rfl am_inX1 0 (by decide) am_q71 (v := .ref (G.1 + (o0 + 1))) rfl dX1_keepUser_54 ?_
  refine lv_iconst (v := 3) hx hb dX1_keepUser_57 (by decide) ?_
  obtain ⟨hi_26, hf⟩ := am_chk_some hf
  refine am_iald hx hb hK hH (am_ai_of (N := 5) ho0.2.1) hi_26 dX1_keepUser_58 ?_
  obtain ⟨hi_27, hf⟩ := am_chk_some hf
  obtain ⟨w_28, hw_28, hf⟩ := am_v_some hf
  refine am_iast hx hb hK hH (am_ai_of (N := 10) ho0.2.2.2.2.2.1) hi_27 dX1_keepUser_59 (fun H locs hH => ?_)
  rw [← hw_28] at hH
  refine lv_aload_n hx hb dX1_keepUser_60 rfl (lv_at hl 0 rfl) ?_
  refine am_get hx hb hts hK hown hH (am_o1 ho0.1) rfl am_inX1 5 (by decide) am_q83 (v := .ref (G.1 + (o0 + 6))) rfl dX1_keepUser_61 ?_
  refine lv_aload_n hx hb dX1_keepUser_64 rfl (lv_at hl 0 rfl) ?_
  refine am_get hx hb hts hK hown hH (am_o1 ho0.1) rfl am_inX1 11 (by decide) am_q104 (v := .int (w_28.1 o0 11)) rfl dX1_keepUser_65 ?_
  refine lv_aload_n hx hb dX1_keepUser_68 rfl (lv_at hl 0 rfl) ?_
  refine am_get hx hb hts hK hown hH (am_o1 ho0.1) rfl am_inX1 0 (by decide) am_q71 (v := .ref (G.1 + (o0 + 1))) rfl dX1_keepUser_69 ?_
  refine lv_iconst (v := 4) hx hb dX1_keepUser_72 (by decide) ?_
  obtain ⟨hi_29, hf⟩ := am_chk_some hf
  refine am_iald hx hb hK hH (am_ai_of (N := 5) ho0.2.1) hi_29 dX1_keepUser_73 ?_
  obtain ⟨hi_30, hf⟩ := am_chk_some hf
  obtain ⟨w_31, hw_31, hf⟩ := am_v_some hf
  refine am_iast hx hb hK hH (am_ai_of (N := 10) ho0.2.2.2.2.2.2.1) hi_30 dX1_keepUser_74 (fun H locs hH => ?_)
  rw [← hw_31] at hH
  refine lv_aload_n hx hb dX1_keepUser_75 rfl (lv_at hl 0 rfl) ?_
  refine lv_dup hx hb dX1_keepUser_76 rfl ?_
  refine am_get hx hb hts hK hown hH (am_o1 ho0.1) rfl am_inX1 11 (by decide) am_q104 (v := .int (w_31.1 o0 11)) rfl dX1_keepUser_77 ?_
  refine lv_iconst (v := 1) hx hb dX1_keepUser_80 (by decide) ?_
  refine lv_iadd hx hb dX1_keepUser_81 ?_
  obtain ⟨w_32, hw_32, hf⟩ := am_v_some hf
  refine am_puti hx hb hts hK hown hH (am_o1 ho0.1) rfl am_inX1 tyX1 tyX1_ok nmX1 11 (by decide) am_q104 rfl rfl rfl (fun _ _ => Nat.le_of_ble_eq_true rfl) (fun _ _ _ => rfl) dX1_keepUser_82 (fun H locs hH => ?_)
  rw [← hw_32] at hH
  exact am_retv hx hb hr hlocks hH hf dX1_keepUser_85

def f_X1_keepDegree (o0 : Nat) (w : am_S) : Option am_S :=
  am_chk (0 : Int32) 5 (am_chk (w.1 (o0 + 1) (0 : Int32).toNatClampNeg) 7 (am_chk (1 : Int32) 5 (am_chk (w.1 (o0 + 1) (0 : Int32).toNatClampNeg) 7 (am_v (am_pi w (o0 + 7) (w.1 (o0 + 1) (0 : Int32).toNatClampNeg).toNatClampNeg ((w.1 (o0 + 7) (w.1 (o0 + 1) (0 : Int32).toNatClampNeg).toNatClampNeg) + (w.1 (o0 + 1) (1 : Int32).toNatClampNeg))) fun (w_13 : am_S) => am_chk (1 : Int32) 5 (am_v (am_pi w_13 o0 13 ((w_13.1 o0 13) + (w_13.1 (o0 + 1) (1 : Int32).toNatClampNeg))) fun (w_15 : am_S) => am_v (am_pi w_15 o0 12 ((w_15.1 o0 12) + (1 : Int32))) fun (w_16 : am_S) => some w_16)))))
set_option maxRecDepth 100000 in
set_option maxHeartbeats 4000000 in
theorem k_X1_keepDegree {G : am_G} {l : Launch} {o0 : Nat} (ho0 : am_f1 o0) {w : am_S} {ww : am_S} (hf : f_X1_keepDegree o0 w = some ww) : am_Mv G l yX1_keepDegree (Cond.code yX1_keepDegree cX1_keepDegree 1 none :: am_T) { frames := 0, cells := 0, slots := 0, locals := 0 } [.ref (G.1 + o0)] w ww := by
  refine Met.ofW (cc := cX1_keepDegree) (maxL := 1) (ret := none) (by decide) rfl ?_
  intro p e s m args below meth c s₁ B hml hv
  obtain ⟨rfl, hx, hb, hr, hts, hown, hlocks, hK, hE, hH⟩ := am_begin B hv
  have hown : s.vm.findClass RX1 = some m.cls := hown
  show W p l e { frames := 0, cells := 0, slots := 0, locals := 0 } s m _ below meth c s.heap [] 0 0 _ _
  refine am_enter (lv := [(0, .ref (G.1 + o0))]) (Nat.le_of_ble_eq_true rfl) rfl (fun ls hl => ?_)
  unfold f_X1_keepDegree at hf
  refine am_start hH (fun H locs hH => ?_)
  refine lv_aload_n hx hb dX1_keepDegree_0 rfl (lv_at hl 0 rfl) ?_
  refine am_get hx hb hts hK hown hH (am_o1 ho0.1) rfl am_inX1 6 (by decide) am_q85 (v := .ref (G.1 + (o0 + 7))) rfl dX1_keepDegree_1 ?_
  refine lv_aload_n hx hb dX1_keepDegree_4 rfl (lv_at hl 0 rfl) ?_
  refine am_get hx hb hts hK hown hH (am_o1 ho0.1) rfl am_inX1 0 (by decide) am_q71 (v := .ref (G.1 + (o0 + 1))) rfl dX1_keepDegree_5 ?_
  refine lv_iconst (v := 0) hx hb dX1_keepDegree_8 (by decide) ?_
  obtain ⟨hi_9, hf⟩ := am_chk_some hf
  refine am_iald hx hb hK hH (am_ai_of (N := 5) ho0.2.1) hi_9 dX1_keepDegree_9 ?_
  refine lv_dup2_11 hx hb dX1_keepDegree_10 rfl rfl ?_
  obtain ⟨hi_10, hf⟩ := am_chk_some hf
  refine am_iald hx hb hK hH (am_ai_of (N := 7) ho0.2.2.2.2.2.2.2) hi_10 dX1_keepDegree_11 ?_
  refine lv_aload_n hx hb dX1_keepDegree_12 rfl (lv_at hl 0 rfl) ?_
  refine am_get hx hb hts hK hown hH (am_o1 ho0.1) rfl am_inX1 0 (by decide) am_q71 (v := .ref (G.1 + (o0 + 1))) rfl dX1_keepDegree_13 ?_
  refine lv_iconst (v := 1) hx hb dX1_keepDegree_16 (by decide) ?_
  obtain ⟨hi_11, hf⟩ := am_chk_some hf
  refine am_iald hx hb hK hH (am_ai_of (N := 5) ho0.2.1) hi_11 dX1_keepDegree_17 ?_
  refine lv_iadd hx hb dX1_keepDegree_18 ?_
  obtain ⟨hi_12, hf⟩ := am_chk_some hf
  obtain ⟨w_13, hw_13, hf⟩ := am_v_some hf
  refine am_iast hx hb hK hH (am_ai_of (N := 7) ho0.2.2.2.2.2.2.2) hi_12 dX1_keepDegree_19 (fun H locs hH => ?_)
  rw [← hw_13] at hH
  refine lv_aload_n hx hb dX1_keepDegree_20 rfl (lv_at hl 0 rfl) ?_
  refine lv_dup hx hb dX1_keepDegree_21 rfl ?_
  refine am_get hx hb hts hK hown hH (am_o1 ho0.1) rfl am_inX1 13 (by decide) am_q112 (v := .int (w_13.1 o0 13)) rfl dX1_keepDegree_22 ?_
  refine lv_aload_n hx hb dX1_keepDegree_25 rfl (lv_at hl 0 rfl) ?_
  refine am_get hx hb hts hK hown hH (am_o1 ho0.1) rfl am_inX1 0 (by decide) am_q71 (v := .ref (G.1 + (o0 + 1))) rfl dX1_keepDegree_26 ?_
  refine lv_iconst (v := 1) hx hb dX1_keepDegree_29 (by decide) ?_
  obtain ⟨hi_14, hf⟩ := am_chk_some hf
  refine am_iald hx hb hK hH (am_ai_of (N := 5) ho0.2.1) hi_14 dX1_keepDegree_30 ?_
  refine lv_iadd hx hb dX1_keepDegree_31 ?_
  obtain ⟨w_15, hw_15, hf⟩ := am_v_some hf
  refine am_puti hx hb hts hK hown hH (am_o1 ho0.1) rfl am_inX1 tyX1 tyX1_ok nmX1 13 (by decide) am_q112 rfl rfl rfl (fun _ _ => Nat.le_of_ble_eq_true rfl) (fun _ _ _ => rfl) dX1_keepDegree_32 (fun H locs hH => ?_)
  rw [← hw_15] at hH
  refine lv_aload_n hx hb dX1_keepDegree_35 rfl (lv_at hl 0 rfl) ?_
  refine lv_dup hx hb dX1_keepDegree_36 rfl ?_
  refine am_get hx hb hts hK hown hH (am_o1 ho0.1) rfl am_inX1 12 (by decide) am_q108 (v := .int (w_15.1 o0 12)) rfl dX1_keepDegree_37 ?_
  refine lv_iconst (v := 1) hx hb dX1_keepDegree_40 (by decide) ?_
  refine lv_iadd hx hb dX1_keepDegree_41 ?_
  obtain ⟨w_16, hw_16, hf⟩ := am_v_some hf
  refine am_puti hx hb hts hK hown hH (am_o1 ho0.1) rfl am_inX1 tyX1 tyX1_ok nmX1 12 (by decide) am_q108 rfl rfl rfl (fun _ _ => Nat.le_of_ble_eq_true rfl) (fun _ _ _ => rfl) dX1_keepDegree_42 (fun H locs hH => ?_)
  rw [← hw_16] at hH
  exact am_retv hx hb hr hlocks hH hf dX1_keepDegree_45

def f_X1_readClause_141 (o0 : Nat) (w : am_S) : Option (Int32 × am_S) :=
  some ((0 : Int32), w)
def f_X1_readClause_143 (o0 : Nat) (w : am_S) : Option (Int32 × am_S) :=
  some ((1 : Int32), w)
def f_X1_readClause_98 (o0 : Nat) (x2 : Int32) (w : am_S) : Option (Int32 × am_S) :=
  if x2 = (100 : Int32) then (if (6 : Int32) ≤ (w.1 o0 12) then (f_X1_readClause_141 o0 w) else (am_b2 (f_X1_readItems_t2_x6_x7_x8 o0 w) fun r_33 w_31 => if r_33 = 0 then (some ((0 : Int32), w_31)) else (am_b1 (f_X1_keepDegree o0 w_31) fun w_35 => f_X1_readClause_143 o0 w_35))) else (f_X1_readClause_141 o0 w)
def f_X1_readClause_55 (o0 : Nat) (x2 : Int32) (w : am_S) : Option (Int32 × am_S) :=
  if x2 = (117 : Int32) then (if (10 : Int32) ≤ (w.1 o0 11) then (f_X1_readClause_98 o0 x2 w) else (am_b2 (f_X1_readItems_t1_x3_x4_x5 o0 w) fun r_41 w_39 => if r_41 = 0 then (some ((0 : Int32), w_39)) else (am_b1 (f_X1_keepUser o0 w_39) fun w_43 => f_X1_readClause_143 o0 w_43))) else (f_X1_readClause_98 o0 x2 w)
def f_X1_readClause (o0 : Nat) (w : am_S) : Option (Int32 × am_S) :=
  am_b2 (f_X10_nextSign w) fun r_47 w_45 => if r_47 = (115 : Int32) then (if (w_45.1 o0 14) = 0 then (am_b2 (f_X1_readItems_t0_x1_x2_x0 o0 w_45) fun r_52 w_50 => if r_52 = 0 then (some ((0 : Int32), w_50)) else (am_b1 (f_X1_keepRules o0 (o0 + 1) 5 w_50) fun w_54 => am_v (am_pi w_54 o0 14 (1 : Int32)) fun (w_56 : am_S) => f_X1_readClause_143 o0 w_56)) else (f_X1_readClause_55 o0 r_47 w_45)) else (f_X1_readClause_55 o0 r_47 w_45)
set_option maxRecDepth 100000 in
set_option maxHeartbeats 4000000 in
theorem k_X1_readClause {G : am_G} {l : Launch} {o0 : Nat} (ho0 : am_f1 o0) {w : am_S} {rr : Int32} {ww : am_S} (hf : f_X1_readClause o0 w = some (rr, ww)) : am_Mi G l yX1_readClause (Cond.code yX1_readClause cX1_readClause 3 (some .boolean) :: am_T) { frames := 5, cells := 0, slots := 0, locals := 320 } [.ref (G.1 + o0), .ref (G.1 + 1)] w rr ww := by
  refine Met.ofW (cc := cX1_readClause) (maxL := 3) (ret := (some .boolean)) (by decide) rfl ?_
  intro p e s m args below meth c s₁ B hml hv
  obtain ⟨rfl, hx, hb, hr, hts, hown, hlocks, hK, hE, hH⟩ := am_begin B hv
  have hown : s.vm.findClass RX1 = some m.cls := hown
  show W p l e { frames := 5, cells := 0, slots := 0, locals := 320 } s m _ below meth c s.heap [] 0 0 _ _
  have P141 : ∀ (w : am_S) (H : Heap) (locs : List Loc) (ls : Array Slot), f_X1_readClause_141 o0 w = some (rr, ww) → am_H G w s H locs → lv_has ls 3 [] → W p l e { frames := 5, cells := 0, slots := 0, locals := 320 } s m [.ref (G.1 + o0), .ref (G.1 + 1)].toArray below meth c H locs 0 0 (MQ below (va_Qi (fun (x : Int32) (u : am_S) => x = rr ∧ u = ww) (am_U G) (am_A G)) [.ref (G.1 + o0), .ref (G.1 + 1)].toArray s 0 0 (am_A G)) (F0 m 141 ls []) := by
    intro w H locs ls hf hH hl
    unfold f_X1_readClause_141 at hf
    refine lv_iconst (v := 0) hx hb dX1_readClause_141 (by decide) ?_
    exact am_retz hx hb hr rfl hlocks hH hf dX1_readClause_142
  have P143 : ∀ (w : am_S) (H : Heap) (locs : List Loc) (ls : Array Slot), f_X1_readClause_143 o0 w = some (rr, ww) → am_H G w s H locs → lv_has ls 3 [] → W p l e { frames := 5, cells := 0, slots := 0, locals := 320 } s m [.ref (G.1 + o0), .ref (G.1 + 1)].toArray below meth c H locs 0 0 (MQ below (va_Qi (fun (x : Int32) (u : am_S) => x = rr ∧ u = ww) (am_U G) (am_A G)) [.ref (G.1 + o0), .ref (G.1 + 1)].toArray s 0 0 (am_A G)) (F0 m 143 ls []) := by
    intro w H locs ls hf hH hl
    unfold f_X1_readClause_143 at hf
    refine lv_iconst (v := 1) hx hb dX1_readClause_143 (by decide) ?_
    exact am_retz hx hb hr rfl hlocks hH hf dX1_readClause_144
  have P98 : ∀ (x2 : Int32) (w : am_S) (H : Heap) (locs : List Loc) (ls : Array Slot), f_X1_readClause_98 o0 x2 w = some (rr, ww) → am_H G w s H locs → lv_has ls 3 [(0, .ref (G.1 + o0)), (1, .ref (G.1 + 1)), (2, .int x2)] → W p l e { frames := 5, cells := 0, slots := 0, locals := 320 } s m [.ref (G.1 + o0), .ref (G.1 + 1)].toArray below meth c H locs 0 0 (MQ below (va_Qi (fun (x : Int32) (u : am_S) => x = rr ∧ u = ww) (am_U G) (am_A G)) [.ref (G.1 + o0), .ref (G.1 + 1)].toArray s 0 0 (am_A G)) (F0 m 98 ls []) := by
    intro x2 w H locs ls hf hH hl
    unfold f_X1_readClause_98 at hf
    refine lv_iload_n hx hb dX1_readClause_98 rfl (lv_at hl 2 rfl) ?_
    refine lv_bipush (v := 100) hx hb dX1_readClause_99 (by decide) ?_
    refine lv_icmp_ne (tgt := 141) hx hb dX1_readClause_101 (by decide) (fun hc_29 => ?_) (fun hc_29 => ?_)
    · have hf := (if_neg hc_29).symm.trans hf
      exact P141 w H locs ls hf hH (lv_sub hl [] rfl)
    · have hf := (if_pos hc_29).symm.trans hf
      refine lv_aload_n hx hb dX1_readClause_104 rfl (lv_at hl 0 rfl) ?_
      refine am_get hx hb hts hK hown hH (am_o1 ho0.1) rfl am_inX1 12 (by decide) am_q108 (v := .int (w.1 o0 12)) rfl dX1_readClause_105 ?_
      refine lv_bipush (v := 6) hx hb dX1_readClause_108 (by decide) ?_
      refine lv_icmp_ge (tgt := 141) hx hb dX1_readClause_110 (by decide) (fun hc_30 => ?_) (fun hc_30 => ?_)
      · have hf := (if_pos hc_30).symm.trans hf
        exact P141 w H locs ls hf hH (lv_sub hl [] rfl)
      · have hf := (if_neg hc_30).symm.trans hf
        refine lv_aload_n hx hb dX1_readClause_113 rfl (lv_at hl 0 rfl) ?_
        refine lv_aload_n hx hb dX1_readClause_114 rfl (lv_at hl 1 rfl) ?_
        refine va_ldcS hx hb hown (hE.2.2.1 2 _ rfl) dX1_readClause_115 ?_
        refine va_gets hx hb (hE.1 6 _ rfl).1 hH.2 hown (hts _ am_q553) (fun _ h => h) dX1_readClause_117 ?_
        refine va_gets hx hb (hE.1 7 _ rfl).1 hH.2 hown (hts _ am_q555) (fun _ h => h) dX1_readClause_120 ?_
        refine va_gets hx hb (hE.1 8 _ rfl).1 hH.2 hown (hts _ am_q557) (fun _ h => h) dX1_readClause_123 ?_
        obtain ⟨r_33, w_31, hq_32, hf⟩ := am_b2_some hf
        refine am_calli (r := r_33) (w' := w_31) (am_runV (n := 5) (As := [.ref (G.1 + 1), .ref (G.2.2.2.2.1 2), .ref (G.2.2.2.1 6), .ref (G.2.2.2.1 7), .ref (G.2.2.2.1 8)]) (rest := []) ⟨hx, hb, hml, hown, hts⟩ hK hE hH (k_X1_readItems_t2_x6_x7_x8 ho0 hq_32) (am_gV am_q438 am_q440 am_qs3 am_q3 am_q441) (am_o1 ho0.1) rfl ⟨rfl, rfl⟩ (by decide +kernel) ⟨Nat.le_of_ble_eq_true rfl, Nat.le_of_ble_eq_true rfl⟩ rfl hl.1 rfl (Nat.le_of_ble_eq_true rfl) ⟨Nat.zero_le _, Nat.zero_le _⟩ dX1_readClause_126) hH (fun H locs hH => ?_)
        refine lv_if_ne (tgt := 134) hx hb dX1_readClause_129 (by decide) (fun hc_34 => ?_) (fun hc_34 => ?_)
        · have hf := (if_neg hc_34).symm.trans hf
          refine lv_aload_n hx hb dX1_readClause_134 rfl (lv_at hl 0 rfl) ?_
          obtain ⟨w_35, hq_36, hf⟩ := am_b1_some hf
          refine am_callv (w' := w_35) (am_runV (n := 0) (As := []) (rest := []) ⟨hx, hb, hml, hown, hts⟩ hK hE hH (k_X1_keepDegree ho0 hq_36) (am_gV am_q559 am_q561 am_qs6 am_q3 am_q562) (am_o1 ho0.1) rfl ⟨rfl, rfl⟩ (by decide +kernel) ⟨Nat.le_of_ble_eq_true rfl, Nat.le_of_ble_eq_true rfl⟩ rfl hl.1 rfl (Nat.le_of_ble_eq_true rfl) ⟨Nat.zero_le _, Nat.zero_le _⟩ dX1_readClause_135) hH (fun H locs hH => ?_)
          refine lv_goto (tgt := 143) hx hb dX1_readClause_138 (by decide) ?_
          exact P143 w_35 H locs ls hf hH (lv_sub hl [] rfl)
        · have hf := (if_pos hc_34).symm.trans hf
          refine lv_iconst (v := 0) hx hb dX1_readClause_132 (by decide) ?_
          exact am_retz hx hb hr rfl hlocks hH hf dX1_readClause_133
  have P55 : ∀ (x2 : Int32) (w : am_S) (H : Heap) (locs : List Loc) (ls : Array Slot), f_X1_readClause_55 o0 x2 w = some (rr, ww) → am_H G w s H locs → lv_has ls 3 [(0, .ref (G.1 + o0)), (1, .ref (G.1 + 1)), (2, .int x2)] → W p l e { frames := 5, cells := 0, slots := 0, locals := 320 } s m [.ref (G.1 + o0), .ref (G.1 + 1)].toArray below meth c H locs 0 0 (MQ below (va_Qi (fun (x : Int32) (u : am_S) => x = rr ∧ u = ww) (am_U G) (am_A G)) [.ref (G.1 + o0), .ref (G.1 + 1)].toArray s 0 0 (am_A G)) (F0 m 55 ls []) := by
    intro x2 w H locs ls hf hH hl
    unfold f_X1_readClause_55 at hf
    refine lv_iload_n hx hb dX1_readClause_55 rfl (lv_at hl 2 rfl) ?_
    refine lv_bipush (v := 117) hx hb dX1_readClause_56 (by decide) ?_
    refine lv_icmp_ne (tgt := 98) hx hb dX1_readClause_58 (by decide) (fun hc_37 => ?_) (fun hc_37 => ?_)
    · have hf := (if_neg hc_37).symm.trans hf
      exact P98 x2 w H locs ls hf hH (lv_sub hl [0, 1, 2] rfl)
    · have hf := (if_pos hc_37).symm.trans hf
      refine lv_aload_n hx hb dX1_readClause_61 rfl (lv_at hl 0 rfl) ?_
      refine am_get hx hb hts hK hown hH (am_o1 ho0.1) rfl am_inX1 11 (by decide) am_q104 (v := .int (w.1 o0 11)) rfl dX1_readClause_62 ?_
      refine lv_bipush (v := 10) hx hb dX1_readClause_65 (by decide) ?_
      refine lv_icmp_ge (tgt := 98) hx hb dX1_readClause_67 (by decide) (fun hc_38 => ?_) (fun hc_38 => ?_)
      · have hf := (if_pos hc_38).symm.trans hf
        exact P98 x2 w H locs ls hf hH (lv_sub hl [0, 1, 2] rfl)
      · have hf := (if_neg hc_38).symm.trans hf
        refine lv_aload_n hx hb dX1_readClause_70 rfl (lv_at hl 0 rfl) ?_
        refine lv_aload_n hx hb dX1_readClause_71 rfl (lv_at hl 1 rfl) ?_
        refine va_ldcS hx hb hown (hE.2.2.1 1 _ rfl) dX1_readClause_72 ?_
        refine va_gets hx hb (hE.1 3 _ rfl).1 hH.2 hown (hts _ am_q542) (fun _ h => h) dX1_readClause_74 ?_
        refine va_gets hx hb (hE.1 4 _ rfl).1 hH.2 hown (hts _ am_q544) (fun _ h => h) dX1_readClause_77 ?_
        refine va_gets hx hb (hE.1 5 _ rfl).1 hH.2 hown (hts _ am_q546) (fun _ h => h) dX1_readClause_80 ?_
        obtain ⟨r_41, w_39, hq_40, hf⟩ := am_b2_some hf
        refine am_calli (r := r_41) (w' := w_39) (am_runV (n := 5) (As := [.ref (G.1 + 1), .ref (G.2.2.2.2.1 1), .ref (G.2.2.2.1 3), .ref (G.2.2.2.1 4), .ref (G.2.2.2.1 5)]) (rest := []) ⟨hx, hb, hml, hown, hts⟩ hK hE hH (k_X1_readItems_t1_x3_x4_x5 ho0 hq_40) (am_gV am_q438 am_q440 am_qs3 am_q3 am_q441) (am_o1 ho0.1) rfl ⟨rfl, rfl⟩ (by decide +kernel) ⟨Nat.le_of_ble_eq_true rfl, Nat.le_of_ble_eq_true rfl⟩ rfl hl.1 rfl (Nat.le_of_ble_eq_true rfl) ⟨Nat.zero_le _, Nat.zero_le _⟩ dX1_readClause_83) hH (fun H locs hH => ?_)
        refine lv_if_ne (tgt := 91) hx hb dX1_readClause_86 (by decide) (fun hc_42 => ?_) (fun hc_42 => ?_)
        · have hf := (if_neg hc_42).symm.trans hf
          refine lv_aload_n hx hb dX1_readClause_91 rfl (lv_at hl 0 rfl) ?_
          obtain ⟨w_43, hq_44, hf⟩ := am_b1_some hf
          refine am_callv (w' := w_43) (am_runV (n := 0) (As := []) (rest := []) ⟨hx, hb, hml, hown, hts⟩ hK hE hH (k_X1_keepUser ho0 hq_44) (am_gV am_q548 am_q550 am_qs5 am_q3 am_q551) (am_o1 ho0.1) rfl ⟨rfl, rfl⟩ (by decide +kernel) ⟨Nat.le_of_ble_eq_true rfl, Nat.le_of_ble_eq_true rfl⟩ rfl hl.1 rfl (Nat.le_of_ble_eq_true rfl) ⟨Nat.zero_le _, Nat.zero_le _⟩ dX1_readClause_92) hH (fun H locs hH => ?_)
          refine lv_goto (tgt := 143) hx hb dX1_readClause_95 (by decide) ?_
          exact P143 w_43 H locs ls hf hH (lv_sub hl [] rfl)
        · have hf := (if_pos hc_42).symm.trans hf
          refine lv_iconst (v := 0) hx hb dX1_readClause_89 (by decide) ?_
          exact am_retz hx hb hr rfl hlocks hH hf dX1_readClause_90
  refine am_enter (lv := [(0, .ref (G.1 + o0)), (1, .ref (G.1 + 1))]) (Nat.le_of_ble_eq_true rfl) rfl (fun ls hl => ?_)
  unfold f_X1_readClause at hf
  refine am_start hH (fun H locs hH => ?_)
  refine lv_aload_n hx hb dX1_readClause_0 rfl (lv_at hl 1 rfl) ?_
  obtain ⟨r_47, w_45, hq_46, hf⟩ := am_b2_some hf
  refine am_calli (r := r_47) (w' := w_45) (am_runV (n := 0) (As := []) (rest := []) ⟨hx, hb, hml, hown, hts⟩ hK hE hH (k_X10_nextSign hq_46) (am_gV am_q429 am_q430 am_q431 am_q2 am_q432) (am_o10 (p := 1) (by decide +kernel)) rfl ⟨rfl, rfl⟩ (by decide +kernel) ⟨Nat.le_of_ble_eq_true rfl, Nat.le_of_ble_eq_true rfl⟩ rfl hl.1 rfl (Nat.le_of_ble_eq_true rfl) ⟨Nat.zero_le _, Nat.zero_le _⟩ dX1_readClause_1) hH (fun H locs hH => ?_)
  refine lv_istore_n (lv' := [(2, .int r_47), (0, .ref (G.1 + o0)), (1, .ref (G.1 + 1))]) hx hb dX1_readClause_4 rfl hl (by decide) rfl (fun ls hl => ?_)
  refine lv_iload_n hx hb dX1_readClause_5 rfl (lv_at hl 0 rfl) ?_
  refine lv_bipush (v := 115) hx hb dX1_readClause_6 (by decide) ?_
  refine lv_icmp_ne (tgt := 55) hx hb dX1_readClause_8 (by decide) (fun hc_48 => ?_) (fun hc_48 => ?_)
  · have hf := (if_neg hc_48).symm.trans hf
    exact P55 r_47 w_45 H locs ls hf hH (lv_sub hl [1, 2, 0] rfl)
  · have hf := (if_pos hc_48).symm.trans hf
    refine lv_aload_n hx hb dX1_readClause_11 rfl (lv_at hl 1 rfl) ?_
    refine am_get hx hb hts hK hown hH (am_o1 ho0.1) rfl am_inX1 14 (by decide) am_q114 (v := .int (w_45.1 o0 14)) rfl dX1_readClause_12 ?_
    refine lv_if_ne (tgt := 55) hx hb dX1_readClause_15 (by decide) (fun hc_49 => ?_) (fun hc_49 => ?_)
    · have hf := (if_neg hc_49).symm.trans hf
      exact P55 r_47 w_45 H locs ls hf hH (lv_sub hl [1, 2, 0] rfl)
    · have hf := (if_pos hc_49).symm.trans hf
      refine lv_aload_n hx hb dX1_readClause_18 rfl (lv_at hl 1 rfl) ?_
      refine lv_aload_n hx hb dX1_readClause_19 rfl (lv_at hl 2 rfl) ?_
      refine va_ldcS hx hb hown (hE.2.2.1 0 _ rfl) dX1_readClause_20 ?_
      refine va_gets hx hb (hE.1 1 _ rfl).1 hH.2 hown (hts _ am_q434) (fun _ h => h) dX1_readClause_22 ?_
      refine va_gets hx hb (hE.1 2 _ rfl).1 hH.2 hown (hts _ am_q436) (fun _ h => h) dX1_readClause_25 ?_
      refine va_gets hx hb (hE.1 0 _ rfl).1 hH.2 hown (hts _ am_q416) (fun _ h => h) dX1_readClause_28 ?_
      obtain ⟨r_52, w_50, hq_51, hf⟩ := am_b2_some hf
      refine am_calli (r := r_52) (w' := w_50) (am_runV (n := 5) (As := [.ref (G.1 + 1), .ref (G.2.2.2.2.1 0), .ref (G.2.2.2.1 1), .ref (G.2.2.2.1 2), .ref (G.2.2.2.1 0)]) (rest := []) ⟨hx, hb, hml, hown, hts⟩ hK hE hH (k_X1_readItems_t0_x1_x2_x0 ho0 hq_51) (am_gV am_q438 am_q440 am_qs3 am_q3 am_q441) (am_o1 ho0.1) rfl ⟨rfl, rfl⟩ (by decide +kernel) ⟨Nat.le_of_ble_eq_true rfl, Nat.le_of_ble_eq_true rfl⟩ rfl hl.1 rfl (Nat.le_of_ble_eq_true rfl) ⟨Nat.zero_le _, Nat.zero_le _⟩ dX1_readClause_31) hH (fun H locs hH => ?_)
      refine lv_if_ne (tgt := 39) hx hb dX1_readClause_34 (by decide) (fun hc_53 => ?_) (fun hc_53 => ?_)
      · have hf := (if_neg hc_53).symm.trans hf
        refine lv_aload_n hx hb dX1_readClause_39 rfl (lv_at hl 1 rfl) ?_
        refine lv_aload_n hx hb dX1_readClause_40 rfl (lv_at hl 1 rfl) ?_
        refine am_get hx hb hts hK hown hH (am_o1 ho0.1) rfl am_inX1 0 (by decide) am_q71 (v := .ref (G.1 + (o0 + 1))) rfl dX1_readClause_41 ?_
        obtain ⟨w_54, hq_55, hf⟩ := am_b1_some hf
        refine am_callv (w' := w_54) (am_runV (n := 1) (As := [.ref (G.1 + (o0 + 1))]) (rest := []) ⟨hx, hb, hml, hown, hts⟩ hK hE hH (k_X1_keepRules ho0 (am_ai_of (N := 5) ho0.2.1) hq_55) (am_gV am_q418 am_q420 am_qs1 am_q3 am_q421) (am_o1 ho0.1) rfl ⟨rfl, rfl⟩ (by decide +kernel) ⟨Nat.le_of_ble_eq_true rfl, Nat.le_of_ble_eq_true rfl⟩ rfl hl.1 rfl (Nat.le_of_ble_eq_true rfl) ⟨Nat.zero_le _, Nat.zero_le _⟩ dX1_readClause_44) hH (fun H locs hH => ?_)
        refine lv_aload_n hx hb dX1_readClause_47 rfl (lv_at hl 1 rfl) ?_
        refine lv_iconst (v := 1) hx hb dX1_readClause_48 (by decide) ?_
        obtain ⟨w_56, hw_56, hf⟩ := am_v_some hf
        refine am_puti hx hb hts hK hown hH (am_o1 ho0.1) rfl am_inX1 tyX1 tyX1_ok nmX1 14 (by decide) am_q114 rfl rfl rfl (fun _ _ => Nat.le_of_ble_eq_true rfl) (fun _ _ _ => rfl) dX1_readClause_49 (fun H locs hH => ?_)
        rw [← hw_56] at hH
        refine lv_goto (tgt := 143) hx hb dX1_readClause_52 (by decide) ?_
        exact P143 w_56 H locs ls hf hH (lv_sub hl [] rfl)
      · have hf := (if_pos hc_53).symm.trans hf
        refine lv_iconst (v := 0) hx hb dX1_readClause_37 (by decide) ?_
        exact am_retz hx hb hr rfl hlocks hH hf dX1_readClause_38

def f_X1_fitsTogether_110 (o0 : Nat) (s0 : Int32) (w : am_S) : Option (Int32 × am_S) :=
  am_nar .boolean s0 (some (s0, w))
def f_X1_fitsTogether_58 (o0 : Nat) (w : am_S) : Option (Int32 × am_S) :=
  some ((0 : Int32), w)
def f_X1_fitsTogether_92 (o0 : Nat) (x1 : Int32) (w : am_S) : Option ((Int32 × am_S) ⊕ (Int32 × am_S)) :=
  am_v (x1 + (1 : Int32)) fun (x1_16 : Int32) => some (.inr (x1_16, w))
def f_X1_fitsTogether_90 (o0 : Nat) (w : am_S) : Option (Int32 × am_S) :=
  some ((0 : Int32), w)
def f_X1_fitsTogether_30 (o0 : Nat) (x1 : Int32) (s0 : Int32) (w : am_S) : Option ((Int32 × am_S) ⊕ (Int32 × am_S)) :=
  am_chk x1 10 (if (w.1 o0 8) ≤ (w.1 (o0 + 4) x1.toNatClampNeg) then (am_x (f_X1_fitsTogether_58 o0 w)) else (am_chk x1 10 (if ((w.1 (o0 + 5) x1.toNatClampNeg) >>> ((w.1 o0 7) &&& 31)) = 0 then (if s0 = 0 then (am_chk x1 10 (if (w.1 (o0 + 6) x1.toNatClampNeg) = 0 then (f_X1_fitsTogether_92 o0 x1 w) else (am_x (f_X1_fitsTogether_90 o0 w)))) else (am_chk x1 10 (if ((w.1 (o0 + 6) x1.toNatClampNeg) >>> ((w.1 o0 7) &&& 31)) = 0 then (f_X1_fitsTogether_92 o0 x1 w) else (am_x (f_X1_fitsTogether_90 o0 w))))) else (am_x (f_X1_fitsTogether_58 o0 w)))))
def f_X1_fitsTogether_2b (o0 : Nat) (x1 : Int32) (w : am_S) : Option ((Int32 × am_S) ⊕ (Int32 × am_S)) :=
  if (w.1 o0 11) ≤ x1 then (am_x (if (w.1 o0 11) ≤ 0 then (f_X1_fitsTogether_110 o0 (0 : Int32) w) else (f_X1_fitsTogether_110 o0 (1 : Int32) w))) else (am_chk x1 10 (if (w.1 o0 8) ≤ ((w.1 (o0 + 4) x1.toNatClampNeg) + (1 : Int32)) then (f_X1_fitsTogether_30 o0 x1 (0 : Int32) w) else (f_X1_fitsTogether_30 o0 x1 (1 : Int32) w)))
def f_X1_fitsTogether_2 (o0 : Nat) (x1 : Int32) (w : am_S) : Option (Int32 × am_S) :=
  am_loop (fun (st : (Int32 × am_S)) => f_X1_fitsTogether_2b o0 st.1 st.2) am_fuel (x1, w)
def f_X1_fitsTogether (o0 : Nat) (w : am_S) : Option (Int32 × am_S) :=
  f_X1_fitsTogether_2 o0 (0 : Int32) w
set_option maxRecDepth 100000 in
set_option maxHeartbeats 4000000 in
theorem k_X1_fitsTogether {G : am_G} {l : Launch} {o0 : Nat} (ho0 : am_f1 o0) {w : am_S} {rr : Int32} {ww : am_S} (hf : f_X1_fitsTogether o0 w = some (rr, ww)) : am_Mi G l yX1_fitsTogether (Cond.code yX1_fitsTogether cX1_fitsTogether 3 (some .boolean) :: am_T) { frames := 0, cells := 0, slots := 0, locals := 0 } [.ref (G.1 + o0)] w rr ww := by
  refine Met.ofW (cc := cX1_fitsTogether) (maxL := 3) (ret := (some .boolean)) (by decide) rfl ?_
  intro p e s m args below meth c s₁ B hml hv
  obtain ⟨rfl, hx, hb, hr, hts, hown, hlocks, hK, hE, hH⟩ := am_begin B hv
  have hown : s.vm.findClass RX1 = some m.cls := hown
  show W p l e { frames := 0, cells := 0, slots := 0, locals := 0 } s m _ below meth c s.heap [] 0 0 _ _
  have P110 : ∀ (s0 : Int32) (w : am_S) (H : Heap) (locs : List Loc) (ls : Array Slot), f_X1_fitsTogether_110 o0 s0 w = some (rr, ww) → am_H G w s H locs → lv_has ls 3 [] → W p l e { frames := 0, cells := 0, slots := 0, locals := 0 } s m [.ref (G.1 + o0)].toArray below meth c H locs 0 0 (MQ below (va_Qi (fun (x : Int32) (u : am_S) => x = rr ∧ u = ww) (am_U G) (am_A G)) [.ref (G.1 + o0)].toArray s 0 0 (am_A G)) (F0 m 110 ls [.int s0]) := by
    intro s0 w H locs ls hf hH hl
    unfold f_X1_fitsTogether_110 at hf
    obtain ⟨hr_15, hf⟩ := am_nar_some hf
    exact am_retz hx hb hr hr_15.1 hlocks hH hf dX1_fitsTogether_110
  have P58 : ∀ (w : am_S) (H : Heap) (locs : List Loc) (ls : Array Slot), f_X1_fitsTogether_58 o0 w = some (rr, ww) → am_H G w s H locs → lv_has ls 3 [] → W p l e { frames := 0, cells := 0, slots := 0, locals := 0 } s m [.ref (G.1 + o0)].toArray below meth c H locs 0 0 (MQ below (va_Qi (fun (x : Int32) (u : am_S) => x = rr ∧ u = ww) (am_U G) (am_A G)) [.ref (G.1 + o0)].toArray s 0 0 (am_A G)) (F0 m 58 ls []) := by
    intro w H locs ls hf hH hl
    unfold f_X1_fitsTogether_58 at hf
    refine lv_iconst (v := 0) hx hb dX1_fitsTogether_58 (by decide) ?_
    exact am_retz hx hb hr rfl hlocks hH hf dX1_fitsTogether_59
  have P90 : ∀ (w : am_S) (H : Heap) (locs : List Loc) (ls : Array Slot), f_X1_fitsTogether_90 o0 w = some (rr, ww) → am_H G w s H locs → lv_has ls 3 [] → W p l e { frames := 0, cells := 0, slots := 0, locals := 0 } s m [.ref (G.1 + o0)].toArray below meth c H locs 0 0 (MQ below (va_Qi (fun (x : Int32) (u : am_S) => x = rr ∧ u = ww) (am_U G) (am_A G)) [.ref (G.1 + o0)].toArray s 0 0 (am_A G)) (F0 m 90 ls []) := by
    intro w H locs ls hf hH hl
    unfold f_X1_fitsTogether_90 at hf
    refine lv_iconst (v := 0) hx hb dX1_fitsTogether_90 (by decide) ?_
    exact am_retz hx hb hr rfl hlocks hH hf dX1_fitsTogether_91
  have P2 : ∀ (n1 : Nat) (x1 : Int32) (w : am_S) (H : Heap) (locs : List Loc) (ls : Array Slot), am_loop (fun (st : (Int32 × am_S)) => f_X1_fitsTogether_2b o0 st.1 st.2) n1 (x1, w) = some (rr, ww) → am_H G w s H locs → lv_has ls 3 [(0, .ref (G.1 + o0)), (1, .int x1)] → W p l e { frames := 0, cells := 0, slots := 0, locals := 0 } s m [.ref (G.1 + o0)].toArray below meth c H locs 0 0 (MQ below (va_Qi (fun (x : Int32) (u : am_S) => x = rr ∧ u = ww) (am_U G) (am_A G)) [.ref (G.1 + o0)].toArray s 0 0 (am_A G)) (F0 m 2 ls []) := by
    intro n1
    induction n1 with
    | zero =>
      intro x1 w H locs ls hf hH hl
      exact (am_loop_zero hf).elim
    | succ n1 ih1 =>
      intro x1 w H locs ls hf hH hl
      obtain ⟨z1, hf, hk1⟩ := am_loop_succ hf
      have hf : f_X1_fitsTogether_2b o0 x1 w = some z1 := hf
      have P92 : ∀ (x1 : Int32) (w : am_S) (z1 : ((Int32 × am_S) ⊕ (Int32 × am_S))) (H : Heap) (locs : List Loc) (ls : Array Slot), f_X1_fitsTogether_92 o0 x1 w = some z1 → am_lk (fun (st : (Int32 × am_S)) => f_X1_fitsTogether_2b o0 st.1 st.2) n1 (rr, ww) z1 → am_H G w s H locs → lv_has ls 3 [(0, .ref (G.1 + o0)), (1, .int x1)] → W p l e { frames := 0, cells := 0, slots := 0, locals := 0 } s m [.ref (G.1 + o0)].toArray below meth c H locs 0 0 (MQ below (va_Qi (fun (x : Int32) (u : am_S) => x = rr ∧ u = ww) (am_U G) (am_A G)) [.ref (G.1 + o0)].toArray s 0 0 (am_A G)) (F0 m 92 ls []) := by
        intro x1 w z1 H locs ls hf hk1 hH hl
        unfold f_X1_fitsTogether_92 at hf
        obtain ⟨x1_16, hx1_16, hf⟩ := am_v_some hf
        refine lv_iinc (v := x1_16) (lv' := [(1, .int x1_16), (0, .ref (G.1 + o0))]) hx hb dX1_fitsTogether_92 hl (k := 1) rfl (by rw [hx1_16]; rfl) (by decide) rfl (fun ls hl => ?_)
        refine lv_goto (tgt := 2) hx hb dX1_fitsTogether_95 (by decide) ?_
        obtain rfl := Option.some.inj hf
        exact ih1 x1_16 w H locs ls hk1 hH (lv_sub hl [1, 0] rfl)
      have P30 : ∀ (x1 : Int32) (s0 : Int32) (w : am_S) (z1 : ((Int32 × am_S) ⊕ (Int32 × am_S))) (H : Heap) (locs : List Loc) (ls : Array Slot), f_X1_fitsTogether_30 o0 x1 s0 w = some z1 → am_lk (fun (st : (Int32 × am_S)) => f_X1_fitsTogether_2b o0 st.1 st.2) n1 (rr, ww) z1 → am_H G w s H locs → lv_has ls 3 [(0, .ref (G.1 + o0)), (1, .int x1)] → W p l e { frames := 0, cells := 0, slots := 0, locals := 0 } s m [.ref (G.1 + o0)].toArray below meth c H locs 0 0 (MQ below (va_Qi (fun (x : Int32) (u : am_S) => x = rr ∧ u = ww) (am_U G) (am_A G)) [.ref (G.1 + o0)].toArray s 0 0 (am_A G)) (F0 m 30 ls [.int s0]) := by
        intro x1 s0 w z1 H locs ls hf hk1 hH hl
        unfold f_X1_fitsTogether_30 at hf
        refine lv_istore_n (lv' := [(2, .int s0), (0, .ref (G.1 + o0)), (1, .int x1)]) hx hb dX1_fitsTogether_30 rfl hl (by decide) rfl (fun ls hl => ?_)
        refine lv_aload_n hx hb dX1_fitsTogether_31 rfl (lv_at hl 1 rfl) ?_
        refine am_get hx hb hts hK hown hH (am_o1 ho0.1) rfl am_inX1 3 (by decide) am_q78 (v := .ref (G.1 + (o0 + 4))) rfl dX1_fitsTogether_32 ?_
        refine lv_iload_n hx hb dX1_fitsTogether_35 rfl (lv_at hl 2 rfl) ?_
        obtain ⟨hi_17, hf⟩ := am_chk_some hf
        refine am_iald hx hb hK hH (am_ai_of (N := 10) ho0.2.2.2.2.1) hi_17 dX1_fitsTogether_36 ?_
        refine lv_aload_n hx hb dX1_fitsTogether_37 rfl (lv_at hl 1 rfl) ?_
        refine am_get hx hb hts hK hown hH (am_o1 ho0.1) rfl am_inX1 8 (by decide) am_q94 (v := .int (w.1 o0 8)) rfl dX1_fitsTogether_38 ?_
        refine lv_icmp_ge (tgt := 58) hx hb dX1_fitsTogether_41 (by decide) (fun hc_18 => ?_) (fun hc_18 => ?_)
        · have hf := (if_pos hc_18).symm.trans hf
          obtain ⟨y_19, hf, hzy_19⟩ := am_x_some hf
          rw [hzy_19] at hk1
          have hf := hf.trans (congrArg some (show y_19 = (rr, ww) from hk1))
          exact P58 w H locs ls hf hH (lv_sub hl [] rfl)
        · have hf := (if_neg hc_18).symm.trans hf
          refine lv_aload_n hx hb dX1_fitsTogether_44 rfl (lv_at hl 1 rfl) ?_
          refine am_get hx hb hts hK hown hH (am_o1 ho0.1) rfl am_inX1 4 (by decide) am_q81 (v := .ref (G.1 + (o0 + 5))) rfl dX1_fitsTogether_45 ?_
          refine lv_iload_n hx hb dX1_fitsTogether_48 rfl (lv_at hl 2 rfl) ?_
          obtain ⟨hi_20, hf⟩ := am_chk_some hf
          refine am_iald hx hb hK hH (am_ai_of (N := 10) ho0.2.2.2.2.2.1) hi_20 dX1_fitsTogether_49 ?_
          refine lv_aload_n hx hb dX1_fitsTogether_50 rfl (lv_at hl 1 rfl) ?_
          refine am_get hx hb hts hK hown hH (am_o1 ho0.1) rfl am_inX1 7 (by decide) am_q89 (v := .int (w.1 o0 7)) rfl dX1_fitsTogether_51 ?_
          refine lv_ishr hx hb dX1_fitsTogether_54 ?_
          refine lv_if_eq (tgt := 60) hx hb dX1_fitsTogether_55 (by decide) (fun hc_21 => ?_) (fun hc_21 => ?_)
          · have hf := (if_pos hc_21).symm.trans hf
            refine lv_iload_n hx hb dX1_fitsTogether_60 rfl (lv_at hl 0 rfl) ?_
            refine lv_if_eq (tgt := 81) hx hb dX1_fitsTogether_61 (by decide) (fun hc_22 => ?_) (fun hc_22 => ?_)
            · have hf := (if_pos hc_22).symm.trans hf
              refine lv_aload_n hx hb dX1_fitsTogether_81 rfl (lv_at hl 1 rfl) ?_
              refine am_get hx hb hts hK hown hH (am_o1 ho0.1) rfl am_inX1 5 (by decide) am_q83 (v := .ref (G.1 + (o0 + 6))) rfl dX1_fitsTogether_82 ?_
              refine lv_iload_n hx hb dX1_fitsTogether_85 rfl (lv_at hl 2 rfl) ?_
              obtain ⟨hi_23, hf⟩ := am_chk_some hf
              refine am_iald hx hb hK hH (am_ai_of (N := 10) ho0.2.2.2.2.2.2.1) hi_23 dX1_fitsTogether_86 ?_
              refine lv_if_eq (tgt := 92) hx hb dX1_fitsTogether_87 (by decide) (fun hc_24 => ?_) (fun hc_24 => ?_)
              · have hf := (if_pos hc_24).symm.trans hf
                exact P92 x1 w z1 H locs ls hf hk1 hH (lv_sub hl [1, 2] rfl)
              · have hf := (if_neg hc_24).symm.trans hf
                obtain ⟨y_25, hf, hzy_25⟩ := am_x_some hf
                rw [hzy_25] at hk1
                have hf := hf.trans (congrArg some (show y_25 = (rr, ww) from hk1))
                exact P90 w H locs ls hf hH (lv_sub hl [] rfl)
            · have hf := (if_neg hc_22).symm.trans hf
              refine lv_aload_n hx hb dX1_fitsTogether_64 rfl (lv_at hl 1 rfl) ?_
              refine am_get hx hb hts hK hown hH (am_o1 ho0.1) rfl am_inX1 5 (by decide) am_q83 (v := .ref (G.1 + (o0 + 6))) rfl dX1_fitsTogether_65 ?_
              refine lv_iload_n hx hb dX1_fitsTogether_68 rfl (lv_at hl 2 rfl) ?_
              obtain ⟨hi_26, hf⟩ := am_chk_some hf
              refine am_iald hx hb hK hH (am_ai_of (N := 10) ho0.2.2.2.2.2.2.1) hi_26 dX1_fitsTogether_69 ?_
              refine lv_aload_n hx hb dX1_fitsTogether_70 rfl (lv_at hl 1 rfl) ?_
              refine am_get hx hb hts hK hown hH (am_o1 ho0.1) rfl am_inX1 7 (by decide) am_q89 (v := .int (w.1 o0 7)) rfl dX1_fitsTogether_71 ?_
              refine lv_ishr hx hb dX1_fitsTogether_74 ?_
              refine lv_if_eq (tgt := 92) hx hb dX1_fitsTogether_75 (by decide) (fun hc_27 => ?_) (fun hc_27 => ?_)
              · have hf := (if_pos hc_27).symm.trans hf
                exact P92 x1 w z1 H locs ls hf hk1 hH (lv_sub hl [1, 2] rfl)
              · have hf := (if_neg hc_27).symm.trans hf
                obtain ⟨y_28, hf, hzy_28⟩ := am_x_some hf
                rw [hzy_28] at hk1
                have hf := hf.trans (congrArg some (show y_28 = (rr, ww) from hk1))
                refine lv_goto (tgt := 90) hx hb dX1_fitsTogether_78 (by decide) ?_
                exact P90 w H locs ls hf hH (lv_sub hl [] rfl)
          · have hf := (if_neg hc_21).symm.trans hf
            obtain ⟨y_29, hf, hzy_29⟩ := am_x_some hf
            rw [hzy_29] at hk1
            have hf := hf.trans (congrArg some (show y_29 = (rr, ww) from hk1))
            exact P58 w H locs ls hf hH (lv_sub hl [] rfl)
      unfold f_X1_fitsTogether_2b at hf
      refine lv_iload_n hx hb dX1_fitsTogether_2 rfl (lv_at hl 1 rfl) ?_
      refine lv_aload_n hx hb dX1_fitsTogether_3 rfl (lv_at hl 0 rfl) ?_
      refine am_get hx hb hts hK hown hH (am_o1 ho0.1) rfl am_inX1 11 (by decide) am_q104 (v := .int (w.1 o0 11)) rfl dX1_fitsTogether_4 ?_
      refine lv_icmp_ge (tgt := 98) hx hb dX1_fitsTogether_7 (by decide) (fun hc_30 => ?_) (fun hc_30 => ?_)
      · have hf := (if_pos hc_30).symm.trans hf
        obtain ⟨y_31, hf, hzy_31⟩ := am_x_some hf
        rw [hzy_31] at hk1
        have hf := hf.trans (congrArg some (show y_31 = (rr, ww) from hk1))
        refine lv_aload_n hx hb dX1_fitsTogether_98 rfl (lv_at hl 0 rfl) ?_
        refine am_get hx hb hts hK hown hH (am_o1 ho0.1) rfl am_inX1 11 (by decide) am_q104 (v := .int (w.1 o0 11)) rfl dX1_fitsTogether_99 ?_
        refine lv_if_le (tgt := 109) hx hb dX1_fitsTogether_102 (by decide) (fun hc_32 => ?_) (fun hc_32 => ?_)
        · have hf := (if_pos hc_32).symm.trans hf
          refine lv_iconst (v := 0) hx hb dX1_fitsTogether_109 (by decide) ?_
          exact P110 (0 : Int32) w H locs ls hf hH (lv_sub hl [] rfl)
        · have hf := (if_neg hc_32).symm.trans hf
          refine lv_iconst (v := 1) hx hb dX1_fitsTogether_105 (by decide) ?_
          refine lv_goto (tgt := 110) hx hb dX1_fitsTogether_106 (by decide) ?_
          exact P110 (1 : Int32) w H locs ls hf hH (lv_sub hl [] rfl)
      · have hf := (if_neg hc_30).symm.trans hf
        refine lv_aload_n hx hb dX1_fitsTogether_10 rfl (lv_at hl 0 rfl) ?_
        refine am_get hx hb hts hK hown hH (am_o1 ho0.1) rfl am_inX1 3 (by decide) am_q78 (v := .ref (G.1 + (o0 + 4))) rfl dX1_fitsTogether_11 ?_
        refine lv_iload_n hx hb dX1_fitsTogether_14 rfl (lv_at hl 1 rfl) ?_
        obtain ⟨hi_33, hf⟩ := am_chk_some hf
        refine am_iald hx hb hK hH (am_ai_of (N := 10) ho0.2.2.2.2.1) hi_33 dX1_fitsTogether_15 ?_
        refine lv_iconst (v := 1) hx hb dX1_fitsTogether_16 (by decide) ?_
        refine lv_iadd hx hb dX1_fitsTogether_17 ?_
        refine lv_aload_n hx hb dX1_fitsTogether_18 rfl (lv_at hl 0 rfl) ?_
        refine am_get hx hb hts hK hown hH (am_o1 ho0.1) rfl am_inX1 8 (by decide) am_q94 (v := .int (w.1 o0 8)) rfl dX1_fitsTogether_19 ?_
        refine lv_icmp_ge (tgt := 29) hx hb dX1_fitsTogether_22 (by decide) (fun hc_34 => ?_) (fun hc_34 => ?_)
        · have hf := (if_pos hc_34).symm.trans hf
          refine lv_iconst (v := 0) hx hb dX1_fitsTogether_29 (by decide) ?_
          exact P30 x1 (0 : Int32) w z1 H locs ls hf hk1 hH (lv_sub hl [0, 1] rfl)
        · have hf := (if_neg hc_34).symm.trans hf
          refine lv_iconst (v := 1) hx hb dX1_fitsTogether_25 (by decide) ?_
          refine lv_goto (tgt := 30) hx hb dX1_fitsTogether_26 (by decide) ?_
          exact P30 x1 (1 : Int32) w z1 H locs ls hf hk1 hH (lv_sub hl [0, 1] rfl)
  refine am_enter (lv := [(0, .ref (G.1 + o0))]) (Nat.le_of_ble_eq_true rfl) rfl (fun ls hl => ?_)
  unfold f_X1_fitsTogether at hf
  refine am_start hH (fun H locs hH => ?_)
  refine lv_iconst (v := 0) hx hb dX1_fitsTogether_0 (by decide) ?_
  refine lv_istore_n (lv' := [(1, .int (0 : Int32)), (0, .ref (G.1 + o0))]) hx hb dX1_fitsTogether_1 rfl hl (by decide) rfl (fun ls hl => ?_)
  exact P2 am_fuel (0 : Int32) w H locs ls hf hH (lv_sub hl [1, 0] rfl)

def f_X1_readFrom_53 (o0 : Nat) (s0 : Int32) (w : am_S) : Option (Int32 × am_S) :=
  some (s0, w)
def f_X1_readFrom_11b (o0 : Nat) (x2 : Int32) (w : am_S) : Option ((Int32 × am_S) ⊕ (Int32 × am_S)) :=
  if (240 : Int32) < x2 then (am_x (some (w.1 1 2, w))) else (am_b2 (f_X1_readClause o0 w) fun r_23 w_21 => if r_23 = 0 then (am_x (some (w_21.1 1 2, w_21))) else (am_b2 (f_X10_nextSign w_21) fun r_27 w_25 => if r_27 = 0 then (am_x (am_b2 (f_X1_fitsTogether o0 w_25) fun r_34 w_32 => if r_34 = 0 then (f_X1_readFrom_53 o0 (w_32.1 1 1) w_32) else (f_X1_readFrom_53 o0 (-1 : Int32) w_32))) else (am_v (am_pi w_25 1 2 ((w_25.1 1 2) + (1 : Int32))) fun (w_29 : am_S) => am_v (x2 + (1 : Int32)) fun (x2_30 : Int32) => some (.inr (x2_30, w_29)))))
def f_X1_readFrom_11 (o0 : Nat) (x2 : Int32) (w : am_S) : Option (Int32 × am_S) :=
  am_loop (fun (st : (Int32 × am_S)) => f_X1_readFrom_11b o0 st.1 st.2) am_fuel (x2, w)
def f_X1_readFrom (o0 : Nat) (w : am_S) : Option (Int32 × am_S) :=
  am_b1 (f_X1_begin o0 w) fun w_37 => am_v (am_pi w_37 1 2 (0 : Int32)) fun (w_39 : am_S) => f_X1_readFrom_11 o0 (0 : Int32) w_39
set_option maxRecDepth 100000 in
set_option maxHeartbeats 4000000 in
theorem k_X1_readFrom {G : am_G} {l : Launch} {o0 : Nat} (ho0 : am_f1 o0) {w : am_S} {rr : Int32} {ww : am_S} (hf : f_X1_readFrom o0 w = some (rr, ww)) : am_Mi G l yX1_readFrom (Cond.code yX1_readFrom cX1_readFrom 3 (some .int) :: am_T) { frames := 6, cells := 0, slots := 0, locals := 384 } [.ref (G.1 + o0), .ref (G.1 + 1)] w rr ww := by
  refine Met.ofW (cc := cX1_readFrom) (maxL := 3) (ret := (some .int)) (by decide) rfl ?_
  intro p e s m args below meth c s₁ B hml hv
  obtain ⟨rfl, hx, hb, hr, hts, hown, hlocks, hK, hE, hH⟩ := am_begin B hv
  have hown : s.vm.findClass RX1 = some m.cls := hown
  show W p l e { frames := 6, cells := 0, slots := 0, locals := 384 } s m _ below meth c s.heap [] 0 0 _ _
  have P53 : ∀ (s0 : Int32) (w : am_S) (H : Heap) (locs : List Loc) (ls : Array Slot), f_X1_readFrom_53 o0 s0 w = some (rr, ww) → am_H G w s H locs → lv_has ls 3 [] → W p l e { frames := 6, cells := 0, slots := 0, locals := 384 } s m [.ref (G.1 + o0), .ref (G.1 + 1)].toArray below meth c H locs 0 0 (MQ below (va_Qi (fun (x : Int32) (u : am_S) => x = rr ∧ u = ww) (am_U G) (am_A G)) [.ref (G.1 + o0), .ref (G.1 + 1)].toArray s 0 0 (am_A G)) (F0 m 53 ls [.int s0]) := by
    intro s0 w H locs ls hf hH hl
    unfold f_X1_readFrom_53 at hf
    exact am_reti hx hb hr hlocks hH hf dX1_readFrom_53
  have P11 : ∀ (n1 : Nat) (x2 : Int32) (w : am_S) (H : Heap) (locs : List Loc) (ls : Array Slot), am_loop (fun (st : (Int32 × am_S)) => f_X1_readFrom_11b o0 st.1 st.2) n1 (x2, w) = some (rr, ww) → am_H G w s H locs → lv_has ls 3 [(0, .ref (G.1 + o0)), (1, .ref (G.1 + 1)), (2, .int x2)] → W p l e { frames := 6, cells := 0, slots := 0, locals := 384 } s m [.ref (G.1 + o0), .ref (G.1 + 1)].toArray below meth c H locs 0 0 (MQ below (va_Qi (fun (x : Int32) (u : am_S) => x = rr ∧ u = ww) (am_U G) (am_A G)) [.ref (G.1 + o0), .ref (G.1 + 1)].toArray s 0 0 (am_A G)) (F0 m 11 ls []) := by
    intro n1
    induction n1 with
    | zero =>
      intro x2 w H locs ls hf hH hl
      exact (am_loop_zero hf).elim
    | succ n1 ih1 =>
      intro x2 w H locs ls hf hH hl
      obtain ⟨z1, hf, hk1⟩ := am_loop_succ hf
      have hf : f_X1_readFrom_11b o0 x2 w = some z1 := hf
      unfold f_X1_readFrom_11b at hf
      refine lv_iload_n hx hb dX1_readFrom_11 rfl (lv_at hl 2 rfl) ?_
      refine lv_sipush (v := 240) hx hb dX1_readFrom_12 (by decide) ?_
      refine lv_icmp_gt (tgt := 70) hx hb dX1_readFrom_15 (by decide) (fun hc_19 => ?_) (fun hc_19 => ?_)
      · have hf := (if_pos hc_19).symm.trans hf
        obtain ⟨y_20, hf, hzy_20⟩ := am_x_some hf
        rw [hzy_20] at hk1
        have hf := hf.trans (congrArg some (show y_20 = (rr, ww) from hk1))
        refine lv_aload_n hx hb dX1_readFrom_70 rfl (lv_at hl 1 rfl) ?_
        refine am_get hx hb hts hK hown hH (am_o10 (p := 1) (by decide +kernel)) rfl am_inX10 2 (by decide) am_q51 (v := .int (w.1 1 2)) rfl dX1_readFrom_71 ?_
        exact am_reti hx hb hr hlocks hH hf dX1_readFrom_74
      · have hf := (if_neg hc_19).symm.trans hf
        refine lv_aload_n hx hb dX1_readFrom_18 rfl (lv_at hl 0 rfl) ?_
        refine lv_aload_n hx hb dX1_readFrom_19 rfl (lv_at hl 1 rfl) ?_
        obtain ⟨r_23, w_21, hq_22, hf⟩ := am_b2_some hf
        refine am_calli (r := r_23) (w' := w_21) (am_runV (n := 1) (As := [.ref (G.1 + 1)]) (rest := []) ⟨hx, hb, hml, hown, hts⟩ hK hE hH (k_X1_readClause ho0 hq_22) (am_gV am_q425 am_q427 am_qs2 am_q3 am_q428) (am_o1 ho0.1) rfl ⟨rfl, rfl⟩ (by decide +kernel) ⟨Nat.le_of_ble_eq_true rfl, Nat.le_of_ble_eq_true rfl⟩ rfl hl.1 rfl (Nat.le_of_ble_eq_true rfl) ⟨Nat.zero_le _, Nat.zero_le _⟩ dX1_readFrom_20) hH (fun H locs hH => ?_)
        refine lv_if_ne (tgt := 31) hx hb dX1_readFrom_23 (by decide) (fun hc_24 => ?_) (fun hc_24 => ?_)
        · have hf := (if_neg hc_24).symm.trans hf
          refine lv_aload_n hx hb dX1_readFrom_31 rfl (lv_at hl 1 rfl) ?_
          obtain ⟨r_27, w_25, hq_26, hf⟩ := am_b2_some hf
          refine am_calli (r := r_27) (w' := w_25) (am_runV (n := 0) (As := []) (rest := []) ⟨hx, hb, hml, hown, hts⟩ hK hE hH (k_X10_nextSign hq_26) (am_gV am_q429 am_q430 am_q431 am_q2 am_q432) (am_o10 (p := 1) (by decide +kernel)) rfl ⟨rfl, rfl⟩ (by decide +kernel) ⟨Nat.le_of_ble_eq_true rfl, Nat.le_of_ble_eq_true rfl⟩ rfl hl.1 rfl (Nat.le_of_ble_eq_true rfl) ⟨Nat.zero_le _, Nat.zero_le _⟩ dX1_readFrom_32) hH (fun H locs hH => ?_)
          refine lv_if_ne (tgt := 54) hx hb dX1_readFrom_35 (by decide) (fun hc_28 => ?_) (fun hc_28 => ?_)
          · have hf := (if_neg hc_28).symm.trans hf
            refine lv_aload_n hx hb dX1_readFrom_54 rfl (lv_at hl 1 rfl) ?_
            refine lv_dup hx hb dX1_readFrom_55 rfl ?_
            refine am_get hx hb hts hK hown hH (am_o10 (p := 1) (by decide +kernel)) rfl am_inX10 2 (by decide) am_q51 (v := .int (w_25.1 1 2)) rfl dX1_readFrom_56 ?_
            refine lv_iconst (v := 1) hx hb dX1_readFrom_59 (by decide) ?_
            refine lv_iadd hx hb dX1_readFrom_60 ?_
            obtain ⟨w_29, hw_29, hf⟩ := am_v_some hf
            refine am_puti hx hb hts hK hown hH (am_o10 (p := 1) (by decide +kernel)) rfl am_inX10 tyX10 tyX10_ok nmX10 2 (by decide) am_q51 rfl rfl rfl (fun _ _ => Nat.le_of_ble_eq_true rfl) (fun _ _ _ => rfl) dX1_readFrom_61 (fun H locs hH => ?_)
            rw [← hw_29] at hH
            obtain ⟨x2_30, hx2_30, hf⟩ := am_v_some hf
            refine lv_iinc (v := x2_30) (lv' := [(2, .int x2_30), (0, .ref (G.1 + o0)), (1, .ref (G.1 + 1))]) hx hb dX1_readFrom_64 hl (k := 2) rfl (by rw [hx2_30]; rfl) (by decide) rfl (fun ls hl => ?_)
            refine lv_goto (tgt := 11) hx hb dX1_readFrom_67 (by decide) ?_
            obtain rfl := Option.some.inj hf
            exact ih1 x2_30 w_29 H locs ls hk1 hH (lv_sub hl [1, 2, 0] rfl)
          · have hf := (if_pos hc_28).symm.trans hf
            obtain ⟨y_31, hf, hzy_31⟩ := am_x_some hf
            rw [hzy_31] at hk1
            have hf := hf.trans (congrArg some (show y_31 = (rr, ww) from hk1))
            refine lv_aload_n hx hb dX1_readFrom_38 rfl (lv_at hl 0 rfl) ?_
            obtain ⟨r_34, w_32, hq_33, hf⟩ := am_b2_some hf
            refine am_calli (r := r_34) (w' := w_32) (am_runV (n := 0) (As := []) (rest := []) ⟨hx, hb, hml, hown, hts⟩ hK hE hH (k_X1_fitsTogether ho0 hq_33) (am_gV am_q563 am_q565 am_qs7 am_q3 am_q566) (am_o1 ho0.1) rfl ⟨rfl, rfl⟩ (by decide +kernel) ⟨Nat.le_of_ble_eq_true rfl, Nat.le_of_ble_eq_true rfl⟩ rfl hl.1 rfl (Nat.le_of_ble_eq_true rfl) ⟨Nat.zero_le _, Nat.zero_le _⟩ dX1_readFrom_39) hH (fun H locs hH => ?_)
            refine lv_if_eq (tgt := 49) hx hb dX1_readFrom_42 (by decide) (fun hc_35 => ?_) (fun hc_35 => ?_)
            · have hf := (if_pos hc_35).symm.trans hf
              refine lv_aload_n hx hb dX1_readFrom_49 rfl (lv_at hl 1 rfl) ?_
              refine am_get hx hb hts hK hown hH (am_o10 (p := 1) (by decide +kernel)) rfl am_inX10 1 (by decide) am_q48 (v := .int (w_32.1 1 1)) rfl dX1_readFrom_50 ?_
              exact P53 (w_32.1 1 1) w_32 H locs ls hf hH (lv_sub hl [] rfl)
            · have hf := (if_neg hc_35).symm.trans hf
              refine lv_iconst (v := -1) hx hb dX1_readFrom_45 (by decide) ?_
              refine lv_goto (tgt := 53) hx hb dX1_readFrom_46 (by decide) ?_
              exact P53 (-1 : Int32) w_32 H locs ls hf hH (lv_sub hl [] rfl)
        · have hf := (if_pos hc_24).symm.trans hf
          obtain ⟨y_36, hf, hzy_36⟩ := am_x_some hf
          rw [hzy_36] at hk1
          have hf := hf.trans (congrArg some (show y_36 = (rr, ww) from hk1))
          refine lv_aload_n hx hb dX1_readFrom_26 rfl (lv_at hl 1 rfl) ?_
          refine am_get hx hb hts hK hown hH (am_o10 (p := 1) (by decide +kernel)) rfl am_inX10 2 (by decide) am_q51 (v := .int (w_21.1 1 2)) rfl dX1_readFrom_27 ?_
          exact am_reti hx hb hr hlocks hH hf dX1_readFrom_30
  refine am_enter (lv := [(0, .ref (G.1 + o0)), (1, .ref (G.1 + 1))]) (Nat.le_of_ble_eq_true rfl) rfl (fun ls hl => ?_)
  unfold f_X1_readFrom at hf
  refine am_start hH (fun H locs hH => ?_)
  refine lv_aload_n hx hb dX1_readFrom_0 rfl (lv_at hl 0 rfl) ?_
  obtain ⟨w_37, hq_38, hf⟩ := am_b1_some hf
  refine am_callv (w' := w_37) (am_runV (n := 0) (As := []) (rest := []) ⟨hx, hb, hml, hown, hts⟩ hK hE hH (k_X1_begin ho0 hq_38) (am_gV am_q412 am_q414 am_qs0 am_q3 am_q415) (am_o1 ho0.1) rfl ⟨rfl, rfl⟩ (by decide +kernel) ⟨Nat.le_of_ble_eq_true rfl, Nat.le_of_ble_eq_true rfl⟩ rfl hl.1 rfl (Nat.le_of_ble_eq_true rfl) ⟨Nat.zero_le _, Nat.zero_le _⟩ dX1_readFrom_1) hH (fun H locs hH => ?_)
  refine lv_aload_n hx hb dX1_readFrom_4 rfl (lv_at hl 1 rfl) ?_
  refine lv_iconst (v := 0) hx hb dX1_readFrom_5 (by decide) ?_
  obtain ⟨w_39, hw_39, hf⟩ := am_v_some hf
  refine am_puti hx hb hts hK hown hH (am_o10 (p := 1) (by decide +kernel)) rfl am_inX10 tyX10 tyX10_ok nmX10 2 (by decide) am_q51 rfl rfl rfl (fun _ _ => Nat.le_of_ble_eq_true rfl) (fun _ _ _ => rfl) dX1_readFrom_6 (fun H locs hH => ?_)
  rw [← hw_39] at hH
  refine lv_iconst (v := 0) hx hb dX1_readFrom_9 (by decide) ?_
  refine lv_istore_n (lv' := [(2, .int (0 : Int32)), (0, .ref (G.1 + o0)), (1, .ref (G.1 + 1))]) hx hb dX1_readFrom_10 rfl hl (by decide) rfl (fun ls hl => ?_)
  exact P11 am_fuel (0 : Int32) w_39 H locs ls hf hH (lv_sub hl [1, 2, 0] rfl)

def f_J0_isLatin1_aae02_t3_18  (s0 : Int32) (w : am_S) : Option (Int32 × am_S) :=
  am_nar .boolean s0 (some (s0, w))
def f_J0_isLatin1_aae02_t3_17  (w : am_S) : Option (Int32 × am_S) :=
  f_J0_isLatin1_aae02_t3_18 (0 : Int32) w
def f_J0_isLatin1_aae02_t3  (w : am_S) : Option (Int32 × am_S) :=
  if (1 : Int32) = 0 then (f_J0_isLatin1_aae02_t3_17 w) else (if (0 : Int32) = 0 then (f_J0_isLatin1_aae02_t3_18 (1 : Int32) w) else (f_J0_isLatin1_aae02_t3_17 w))
set_option maxRecDepth 100000 in
set_option maxHeartbeats 4000000 in
theorem k_J0_isLatin1_aae02_t3 {G : am_G} {l : Launch}   {w : am_S} {rr : Int32} {ww : am_S} (hf : f_J0_isLatin1_aae02_t3  w = some (rr, ww)) : am_Mi G l yJ0_isLatin1_aae02 (Cond.code yJ0_isLatin1_aae02 cJ0_isLatin1_aae02 1 (some .boolean) :: am_T) { frames := 0, cells := 0, slots := 0, locals := 0 } [.ref (G.2.2.2.2.1 3)] w rr ww := by
  refine Met.ofW (cc := cJ0_isLatin1_aae02) (maxL := 1) (ret := (some .boolean)) (by decide) rfl ?_
  intro p e s m args below meth c s₁ B hml hv
  obtain ⟨rfl, hx, hb, hr, hts, hown, hlocks, hK, hE, hH⟩ := am_begin B hv
  have hown : s.vm.findClass RJ0 = some m.cls := hown
  show W p l e { frames := 0, cells := 0, slots := 0, locals := 0 } s m _ below meth c s.heap [] 0 0 _ _
  have P18 : ∀ (s0 : Int32) (w : am_S) (H : Heap) (locs : List Loc) (ls : Array Slot), f_J0_isLatin1_aae02_t3_18 s0 w = some (rr, ww) → am_H G w s H locs → lv_has ls 1 [] → W p l e { frames := 0, cells := 0, slots := 0, locals := 0 } s m [.ref (G.2.2.2.2.1 3)].toArray below meth c H locs 0 0 (MQ below (va_Qi (fun (x : Int32) (u : am_S) => x = rr ∧ u = ww) (am_U G) (am_A G)) [.ref (G.2.2.2.2.1 3)].toArray s 0 0 (am_A G)) (F0 m 18 ls [.int s0]) := by
    intro s0 w H locs ls hf hH hl
    unfold f_J0_isLatin1_aae02_t3_18 at hf
    obtain ⟨hr_3, hf⟩ := am_nar_some hf
    exact am_retz hx hb hr hr_3.1 hlocks hH hf dJ0_isLatin1_aae02_18
  have P17 : ∀ (w : am_S) (H : Heap) (locs : List Loc) (ls : Array Slot), f_J0_isLatin1_aae02_t3_17 w = some (rr, ww) → am_H G w s H locs → lv_has ls 1 [] → W p l e { frames := 0, cells := 0, slots := 0, locals := 0 } s m [.ref (G.2.2.2.2.1 3)].toArray below meth c H locs 0 0 (MQ below (va_Qi (fun (x : Int32) (u : am_S) => x = rr ∧ u = ww) (am_U G) (am_A G)) [.ref (G.2.2.2.2.1 3)].toArray s 0 0 (am_A G)) (F0 m 17 ls []) := by
    intro w H locs ls hf hH hl
    unfold f_J0_isLatin1_aae02_t3_17 at hf
    refine lv_iconst (v := 0) hx hb dJ0_isLatin1_aae02_17 (by decide) ?_
    exact P18 (0 : Int32) w H locs ls hf hH (lv_sub hl [] rfl)
  refine am_enter (lv := [(0, .ref (G.2.2.2.2.1 3))]) (Nat.le_of_ble_eq_true rfl) rfl (fun ls hl => ?_)
  unfold f_J0_isLatin1_aae02_t3 at hf
  refine am_start hH (fun H locs hH => ?_)
  refine va_gets hx hb hE.2.2.2.1 hH.2 hown (hts _ am_q453) (fun _ h => h) dJ0_isLatin1_aae02_0 ?_
  refine lv_if_eq (tgt := 17) hx hb dJ0_isLatin1_aae02_3 (by decide) (fun hc_4 => ?_) (fun hc_4 => ?_)
  · have hf := (if_pos hc_4).symm.trans hf
    exact P17 w H locs ls hf hH (lv_sub hl [] rfl)
  · have hf := (if_neg hc_4).symm.trans hf
    refine lv_aload_n hx hb dJ0_isLatin1_aae02_6 rfl (lv_at hl 0 rfl) ?_
    refine vk_getf hx hb (hE.2.1.1 3 (by decide)).2.1 hH.2 hown (hts _ am_q2024) (fun _ h => h) dJ0_isLatin1_aae02_7 ?_
    refine lv_if_ne (tgt := 17) hx hb dJ0_isLatin1_aae02_10 (by decide) (fun hc_5 => ?_) (fun hc_5 => ?_)
    · have hf := (if_neg hc_5).symm.trans hf
      exact P17 w H locs ls hf hH (lv_sub hl [] rfl)
    · have hf := (if_pos hc_5).symm.trans hf
      refine lv_iconst (v := 1) hx hb dJ0_isLatin1_aae02_13 (by decide) ?_
      refine lv_goto (tgt := 18) hx hb dJ0_isLatin1_aae02_14 (by decide) ?_
      exact P18 (1 : Int32) w H locs ls hf hH (lv_sub hl [] rfl)

def f_J0_coder_7d493_t3_14  (s0 : Int32) (w : am_S) : Option (Int32 × am_S) :=
  am_nar .byte s0 (some (s0, w))
def f_J0_coder_7d493_t3  (w : am_S) : Option (Int32 × am_S) :=
  if (1 : Int32) = 0 then (f_J0_coder_7d493_t3_14 (1 : Int32) w) else (f_J0_coder_7d493_t3_14 (0 : Int32) w)
set_option maxRecDepth 100000 in
set_option maxHeartbeats 4000000 in
theorem k_J0_coder_7d493_t3 {G : am_G} {l : Launch}   {w : am_S} {rr : Int32} {ww : am_S} (hf : f_J0_coder_7d493_t3  w = some (rr, ww)) : am_Mi G l yJ0_coder_7d493 (Cond.code yJ0_coder_7d493 cJ0_coder_7d493 1 (some .byte) :: am_T) { frames := 0, cells := 0, slots := 0, locals := 0 } [.ref (G.2.2.2.2.1 3)] w rr ww := by
  refine Met.ofW (cc := cJ0_coder_7d493) (maxL := 1) (ret := (some .byte)) (by decide) rfl ?_
  intro p e s m args below meth c s₁ B hml hv
  obtain ⟨rfl, hx, hb, hr, hts, hown, hlocks, hK, hE, hH⟩ := am_begin B hv
  have hown : s.vm.findClass RJ0 = some m.cls := hown
  show W p l e { frames := 0, cells := 0, slots := 0, locals := 0 } s m _ below meth c s.heap [] 0 0 _ _
  have P14 : ∀ (s0 : Int32) (w : am_S) (H : Heap) (locs : List Loc) (ls : Array Slot), f_J0_coder_7d493_t3_14 s0 w = some (rr, ww) → am_H G w s H locs → lv_has ls 1 [] → W p l e { frames := 0, cells := 0, slots := 0, locals := 0 } s m [.ref (G.2.2.2.2.1 3)].toArray below meth c H locs 0 0 (MQ below (va_Qi (fun (x : Int32) (u : am_S) => x = rr ∧ u = ww) (am_U G) (am_A G)) [.ref (G.2.2.2.2.1 3)].toArray s 0 0 (am_A G)) (F0 m 14 ls [.int s0]) := by
    intro s0 w H locs ls hf hH hl
    unfold f_J0_coder_7d493_t3_14 at hf
    obtain ⟨hr_2, hf⟩ := am_nar_some hf
    exact am_retz hx hb hr hr_2.1 hlocks hH hf dJ0_coder_7d493_14
  refine am_enter (lv := [(0, .ref (G.2.2.2.2.1 3))]) (Nat.le_of_ble_eq_true rfl) rfl (fun ls hl => ?_)
  unfold f_J0_coder_7d493_t3 at hf
  refine am_start hH (fun H locs hH => ?_)
  refine va_gets hx hb hE.2.2.2.1 hH.2 hown (hts _ am_q453) (fun _ h => h) dJ0_coder_7d493_0 ?_
  refine lv_if_eq (tgt := 13) hx hb dJ0_coder_7d493_3 (by decide) (fun hc_3 => ?_) (fun hc_3 => ?_)
  · have hf := (if_pos hc_3).symm.trans hf
    refine lv_iconst (v := 1) hx hb dJ0_coder_7d493_13 (by decide) ?_
    exact P14 (1 : Int32) w H locs ls hf hH (lv_sub hl [] rfl)
  · have hf := (if_neg hc_3).symm.trans hf
    refine lv_aload_n hx hb dJ0_coder_7d493_6 rfl (lv_at hl 0 rfl) ?_
    refine vk_getf hx hb (hE.2.1.1 3 (by decide)).2.1 hH.2 hown (hts _ am_q2024) (fun _ h => h) dJ0_coder_7d493_7 ?_
    refine lv_goto (tgt := 14) hx hb dJ0_coder_7d493_10 (by decide) ?_
    exact P14 (0 : Int32) w H locs ls hf hH (lv_sub hl [] rfl)

def f_J0_length_8abf5_t3  (w : am_S) : Option (Int32 × am_S) :=
  am_b2 (f_J0_coder_7d493_t3 w) fun r_6 w_4 => some ((6 : Int32) >>> (r_6 &&& 31), w_4)
set_option maxRecDepth 100000 in
set_option maxHeartbeats 4000000 in
theorem k_J0_length_8abf5_t3 {G : am_G} {l : Launch}   {w : am_S} {rr : Int32} {ww : am_S} (hf : f_J0_length_8abf5_t3  w = some (rr, ww)) : am_Mi G l yJ0_length_8abf5 (Cond.code yJ0_length_8abf5 cJ0_length_8abf5 1 (some .int) :: am_T) { frames := 1, cells := 0, slots := 0, locals := 64 } [.ref (G.2.2.2.2.1 3)] w rr ww := by
  refine Met.ofW (cc := cJ0_length_8abf5) (maxL := 1) (ret := (some .int)) (by decide) rfl ?_
  intro p e s m args below meth c s₁ B hml hv
  obtain ⟨rfl, hx, hb, hr, hts, hown, hlocks, hK, hE, hH⟩ := am_begin B hv
  have hown : s.vm.findClass RJ0 = some m.cls := hown
  show W p l e { frames := 1, cells := 0, slots := 0, locals := 64 } s m _ below meth c s.heap [] 0 0 _ _
  refine am_enter (lv := [(0, .ref (G.2.2.2.2.1 3))]) (Nat.le_of_ble_eq_true rfl) rfl (fun ls hl => ?_)
  unfold f_J0_length_8abf5_t3 at hf
  refine am_start hH (fun H locs hH => ?_)
  refine lv_aload_n hx hb dJ0_length_8abf5_0 rfl (lv_at hl 0 rfl) ?_
  refine vk_getf hx hb (hE.2.1.1 3 (by decide)).2.2.1 hH.2 hown (hts _ am_q2023) (fun _ h => h) dJ0_length_8abf5_1 ?_
  refine va_tlen (v := 6) hx hb (hE.2.1.1 3 (by decide)).2.2.2 hH.2 rfl dJ0_length_8abf5_4 ?_
  refine lv_aload_n hx hb dJ0_length_8abf5_5 rfl (lv_at hl 0 rfl) ?_
  obtain ⟨r_6, w_4, hq_5, hf⟩ := am_b2_some hf
  refine am_calli (r := r_6) (w' := w_4) (am_runVT (n := 0) (As := []) (rest := [.int (6 : Int32)]) 3 (by decide) ⟨hx, hb, hml, hown, hts⟩ hK hE hH (k_J0_coder_7d493_t3 hq_5) (am_gV am_q449 am_q450 am_q451 am_q16 am_q452) ⟨rfl, rfl⟩ (by decide +kernel) ⟨Nat.le_of_ble_eq_true rfl, Nat.le_of_ble_eq_true rfl⟩ rfl hl.1 rfl (Nat.le_of_ble_eq_true rfl) ⟨Nat.zero_le _, Nat.zero_le _⟩ dJ0_length_8abf5_6) hH (fun H locs hH => ?_)
  refine lv_ishr hx hb dJ0_length_8abf5_9 ?_
  exact am_reti hx hb hr hlocks hH hf dJ0_length_8abf5_10

def f_J1_indexOfChar_4cfef_b3_7b (a1 : Int32) (a2 : Int32) (a3 : Int32) (x4 : Int32) (x5 : Int32) (w : am_S) : Option ((Int32 × am_S) ⊕ (Int32 × am_S)) :=
  if a3 ≤ x5 then (am_x (some ((-1 : Int32), w))) else (am_chk x5 6 (if (am_bv 3 x5.toNatClampNeg) = x4 then (am_x (some (x5, w))) else (am_v (x5 + (1 : Int32)) fun (x5_10 : Int32) => some (.inr (x5_10, w)))))
def f_J1_indexOfChar_4cfef_b3_7 (a1 : Int32) (a2 : Int32) (a3 : Int32) (x4 : Int32) (x5 : Int32) (w : am_S) : Option (Int32 × am_S) :=
  am_loop (fun (st : (Int32 × am_S)) => f_J1_indexOfChar_4cfef_b3_7b a1 a2 a3 x4 st.1 st.2) am_fuel (x5, w)
def f_J1_indexOfChar_4cfef_b3 (a1 : Int32) (a2 : Int32) (a3 : Int32) (w : am_S) : Option (Int32 × am_S) :=
  am_v (a1.toInt8.toInt32) fun (x4_12 : Int32) => f_J1_indexOfChar_4cfef_b3_7 a1 a2 a3 x4_12 a2 w
set_option maxRecDepth 100000 in
set_option maxHeartbeats 4000000 in
theorem k_J1_indexOfChar_4cfef_b3 {G : am_G} {l : Launch} {a1 : Int32} {a2 : Int32} {a3 : Int32}  {w : am_S} {rr : Int32} {ww : am_S} (hf : f_J1_indexOfChar_4cfef_b3 a1 a2 a3 w = some (rr, ww)) : am_Mi G l yJ1_indexOfChar_4cfef (Cond.code yJ1_indexOfChar_4cfef cJ1_indexOfChar_4cfef 6 (some .int) :: am_T) { frames := 0, cells := 0, slots := 0, locals := 0 } [.ref (G.2.2.2.2.2 3), .int a1, .int a2, .int a3] w rr ww := by
  refine Met.ofW (cc := cJ1_indexOfChar_4cfef) (maxL := 6) (ret := (some .int)) (by decide) rfl ?_
  intro p e s m args below meth c s₁ B hml hv
  obtain ⟨rfl, hx, hb, hr, hts, hown, hlocks, hK, hE, hH⟩ := am_begin B hv
  have hown : s.vm.findClass RJ1 = some m.cls := hown
  show W p l e { frames := 0, cells := 0, slots := 0, locals := 0 } s m _ below meth c s.heap [] 0 0 _ _
  have P7 : ∀ (x4 : Int32) (n1 : Nat) (x5 : Int32) (w : am_S) (H : Heap) (locs : List Loc) (ls : Array Slot), am_loop (fun (st : (Int32 × am_S)) => f_J1_indexOfChar_4cfef_b3_7b a1 a2 a3 x4 st.1 st.2) n1 (x5, w) = some (rr, ww) → am_H G w s H locs → lv_has ls 6 [(0, .ref (G.2.2.2.2.2 3)), (3, .int a3), (4, .int x4), (5, .int x5)] → W p l e { frames := 0, cells := 0, slots := 0, locals := 0 } s m [.ref (G.2.2.2.2.2 3), .int a1, .int a2, .int a3].toArray below meth c H locs 0 0 (MQ below (va_Qi (fun (x : Int32) (u : am_S) => x = rr ∧ u = ww) (am_U G) (am_A G)) [.ref (G.2.2.2.2.2 3), .int a1, .int a2, .int a3].toArray s 0 0 (am_A G)) (F0 m 7 ls []) := by
    intro x4 n1
    induction n1 with
    | zero =>
      intro x5 w H locs ls hf hH hl
      exact (am_loop_zero hf).elim
    | succ n1 ih1 =>
      intro x5 w H locs ls hf hH hl
      obtain ⟨z1, hf, hk1⟩ := am_loop_succ hf
      have hf : f_J1_indexOfChar_4cfef_b3_7b a1 a2 a3 x4 x5 w = some z1 := hf
      unfold f_J1_indexOfChar_4cfef_b3_7b at hf
      refine lv_iload hx hb dJ1_indexOfChar_4cfef_7 (lv_at hl 3 rfl) ?_
      refine lv_iload_n hx hb dJ1_indexOfChar_4cfef_9 rfl (lv_at hl 1 rfl) ?_
      refine lv_icmp_ge (tgt := 31) hx hb dJ1_indexOfChar_4cfef_10 (by decide) (fun hc_6 => ?_) (fun hc_6 => ?_)
      · have hf := (if_pos hc_6).symm.trans hf
        obtain ⟨y_7, hf, hzy_7⟩ := am_x_some hf
        rw [hzy_7] at hk1
        have hf := hf.trans (congrArg some (show y_7 = (rr, ww) from hk1))
        refine lv_iconst (v := -1) hx hb dJ1_indexOfChar_4cfef_31 (by decide) ?_
        exact am_reti hx hb hr hlocks hH hf dJ1_indexOfChar_4cfef_32
      · have hf := (if_neg hc_6).symm.trans hf
        refine lv_aload_n hx hb dJ1_indexOfChar_4cfef_13 rfl (lv_at hl 0 rfl) ?_
        refine lv_iload hx hb dJ1_indexOfChar_4cfef_14 (lv_at hl 3 rfl) ?_
        obtain ⟨hi_8, hf⟩ := am_chk_some hf
        refine va_tb hx hb (hE.2.1.1 3 (by decide)).2.2.2 hH.2 hi_8 rfl dJ1_indexOfChar_4cfef_16 ?_
        refine lv_iload hx hb dJ1_indexOfChar_4cfef_17 (lv_at hl 2 rfl) ?_
        refine lv_icmp_ne (tgt := 25) hx hb dJ1_indexOfChar_4cfef_19 (by decide) (fun hc_9 => ?_) (fun hc_9 => ?_)
        · have hf := (if_neg hc_9).symm.trans hf
          obtain ⟨x5_10, hx5_10, hf⟩ := am_v_some hf
          refine lv_iinc (v := x5_10) (lv' := [(5, .int x5_10), (0, .ref (G.2.2.2.2.2 3)), (3, .int a3), (4, .int x4)]) hx hb dJ1_indexOfChar_4cfef_25 hl (k := 3) rfl (by rw [hx5_10]; rfl) (by decide) rfl (fun ls hl => ?_)
          refine lv_goto (tgt := 7) hx hb dJ1_indexOfChar_4cfef_28 (by decide) ?_
          obtain rfl := Option.some.inj hf
          exact ih1 x5_10 w H locs ls hk1 hH (lv_sub hl [1, 2, 3, 0] rfl)
        · have hf := (if_pos hc_9).symm.trans hf
          obtain ⟨y_11, hf, hzy_11⟩ := am_x_some hf
          rw [hzy_11] at hk1
          have hf := hf.trans (congrArg some (show y_11 = (rr, ww) from hk1))
          refine lv_iload hx hb dJ1_indexOfChar_4cfef_22 (lv_at hl 3 rfl) ?_
          exact am_reti hx hb hr hlocks hH hf dJ1_indexOfChar_4cfef_24
  refine am_enter (lv := [(0, .ref (G.2.2.2.2.2 3)), (1, .int a1), (2, .int a2), (3, .int a3)]) (Nat.le_of_ble_eq_true rfl) rfl (fun ls hl => ?_)
  unfold f_J1_indexOfChar_4cfef_b3 at hf
  refine am_start hH (fun H locs hH => ?_)
  refine lv_iload_n hx hb dJ1_indexOfChar_4cfef_0 rfl (lv_at hl 1 rfl) ?_
  refine lv_i2b hx hb dJ1_indexOfChar_4cfef_1 rfl ?_
  obtain ⟨x4_12, hx4_12, hf⟩ := am_v_some hf
  refine am_topi hx4_12 ?_
  refine lv_istore (lv' := [(4, .int x4_12), (0, .ref (G.2.2.2.2.2 3)), (1, .int a1), (2, .int a2), (3, .int a3)]) hx hb dJ1_indexOfChar_4cfef_2 hl (by decide) rfl (fun ls hl => ?_)
  refine lv_iload_n hx hb dJ1_indexOfChar_4cfef_4 rfl (lv_at hl 3 rfl) ?_
  refine lv_istore (lv' := [(5, .int a2), (4, .int x4_12), (0, .ref (G.2.2.2.2.2 3)), (1, .int a1), (2, .int a2), (3, .int a3)]) hx hb dJ1_indexOfChar_4cfef_5 hl (by decide) rfl (fun ls hl => ?_)
  exact P7 x4_12 am_fuel a2 w H locs ls hf hH (lv_sub hl [2, 5, 1, 0] rfl)
