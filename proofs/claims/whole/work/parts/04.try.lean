def f_X1_allSlots (o0 : Nat) (w : am_S) : Option (Int32 × am_S) :=
  some ((w.1 o0 7) * (w.1 o0 8), w)
set_option maxRecDepth 100000 in
set_option maxHeartbeats 4000000 in
theorem k_X1_allSlots {G : am_G} {l : Launch} {o0 : Nat} (ho0 : am_f1 o0) {w : am_S} {rr : Int32} {ww : am_S} (hf : f_X1_allSlots o0 w = some (rr, ww)) : am_Mi G l yX1_allSlots (Cond.code yX1_allSlots cX1_allSlots 1 (some .int) :: am_T) { frames := 0, cells := 0, slots := 0, locals := 0 } [.ref (G.1 + o0)] w rr ww := by
  refine Met.ofW (cc := cX1_allSlots) (maxL := 1) (ret := (some .int)) (by decide) rfl ?_
  intro p e s m args below meth c s₁ B hml hv
  obtain ⟨rfl, hx, hb, hr, hts, hown, hlocks, hK, hE, hH⟩ := am_begin B hv
  have hown : s.vm.findClass RX1 = some m.cls := hown
  show W p l e { frames := 0, cells := 0, slots := 0, locals := 0 } s m _ below meth c s.heap [] 0 0 _ _
  refine am_enter (lv := [(0, .ref (G.1 + o0))]) (Nat.le_of_ble_eq_true rfl) rfl (fun ls hl => ?_)
  unfold f_X1_allSlots at hf
  refine am_start hH (fun H locs hH => ?_)
  refine lv_aload_n hx hb dX1_allSlots_0 rfl (lv_at hl 0 rfl) ?_
  refine am_get hx hb hts hK hown hH (am_o1 ho0.1) rfl am_inX1 7 (by decide) am_q89 (v := .int (w.1 o0 7)) rfl dX1_allSlots_1 ?_
  refine lv_aload_n hx hb dX1_allSlots_4 rfl (lv_at hl 0 rfl) ?_
  refine am_get hx hb hts hK hown hH (am_o1 ho0.1) rfl am_inX1 8 (by decide) am_q94 (v := .int (w.1 o0 8)) rfl dX1_allSlots_5 ?_
  refine lv_imul hx hb dX1_allSlots_8 ?_
  exact am_reti hx hb hr hlocks hH hf dX1_allSlots_9

def f_X7_clearAmong_96 (a1 : Int32) (x3 : Int32) (s0 : Int32) (s1 : Int32) (w : am_S) : Option ((Int32 × am_S) ⊕ (Int32 × Int32 × am_S)) :=
  am_v (s1 ||| s0) fun (x2_14 : Int32) => am_v (x3 + (1 : Int32)) fun (x3_15 : Int32) => some (.inr (x2_14, x3_15, w))
def f_X7_clearAmong_95 (a1 : Int32) (x3 : Int32) (s0 : Int32) (w : am_S) : Option ((Int32 × am_S) ⊕ (Int32 × Int32 × am_S)) :=
  f_X7_clearAmong_96 a1 x3 (0 : Int32) s0 w
def f_X7_clearAmong_75 (a1 : Int32) (x2 : Int32) (x3 : Int32) (x4 : Int32) (s0 : Int32) (w : am_S) : Option ((Int32 × am_S) ⊕ (Int32 × Int32 × am_S)) :=
  if x4 = a1 then (f_X7_clearAmong_95 a1 x3 x2 w) else (if s0 = 0 then (f_X7_clearAmong_95 a1 x3 x2 w) else (f_X7_clearAmong_96 a1 x3 ((1 : Int32) <<< (x3 &&& 31)) x2 w))
def f_X7_clearAmong_4b (a1 : Int32) (x2 : Int32) (x3 : Int32) (w : am_S) : Option ((Int32 × am_S) ⊕ (Int32 × Int32 × am_S)) :=
  if (w.1 11 11) ≤ x3 then (am_x (some (x2, w))) else (am_v (a1 &&& (((1 : Int32) <<< (x3 &&& 31)) ^^^ (-1 : Int32))) fun (x4_20 : Int32) => if (w.1 250 5) = 0 then (if x4_20 = 0 then (f_X7_clearAmong_75 a1 x2 x3 x4_20 (1 : Int32) w) else (f_X7_clearAmong_75 a1 x2 x3 x4_20 (0 : Int32) w)) else (am_chk x3 10 (am_n32 (FP.fdiv (FP.i2f (w.1 250 5)) (1092616192 : UInt32)) (am_chk x4_20 1024 (am_n32 (FP.fmul (FP.fdiv (FP.i2f (w.1 250 5)) (1092616192 : UInt32)) (w.2.2 252 x4_20.toNatClampNeg)) (if (Op.cmpValue (FP.fcmp (w.2.2 251 x3.toNatClampNeg) (FP.fmul (FP.fdiv (FP.i2f (w.1 250 5)) (1092616192 : UInt32)) (w.2.2 252 x4_20.toNatClampNeg))) .l) < 0 then (f_X7_clearAmong_75 a1 x2 x3 x4_20 (0 : Int32) w) else (f_X7_clearAmong_75 a1 x2 x3 x4_20 (1 : Int32) w)))))))
def f_X7_clearAmong_4 (a1 : Int32) (x2 : Int32) (x3 : Int32) (w : am_S) : Option (Int32 × am_S) :=
  am_loop (fun (st : (Int32 × Int32 × am_S)) => f_X7_clearAmong_4b a1 st.1 st.2.1 st.2.2) am_fuel (x2, x3, w)
def f_X7_clearAmong (a1 : Int32) (w : am_S) : Option (Int32 × am_S) :=
  f_X7_clearAmong_4 a1 (0 : Int32) (0 : Int32) w
set_option maxRecDepth 100000 in
set_option maxHeartbeats 4000000 in
theorem k_X7_clearAmong {G : am_G} {l : Launch} {a1 : Int32}  {w : am_S} {rr : Int32} {ww : am_S} (hf : f_X7_clearAmong a1 w = some (rr, ww)) : am_Mi G l yX7_clearAmong (Cond.code yX7_clearAmong cX7_clearAmong 6 (some .int) :: am_T) { frames := 0, cells := 0, slots := 0, locals := 0 } [.ref (G.1 + 250), .int a1] w rr ww := by
  refine Met.ofW (cc := cX7_clearAmong) (maxL := 6) (ret := (some .int)) (by decide) rfl ?_
  intro p e s m args below meth c s₁ B hml hv
  obtain ⟨rfl, hx, hb, hr, hts, hown, hlocks, hK, hE, hH⟩ := am_begin B hv
  have hown : s.vm.findClass RX7 = some m.cls := hown
  show W p l e { frames := 0, cells := 0, slots := 0, locals := 0 } s m _ below meth c s.heap [] 0 0 _ _
  have P4 : ∀ (n1 : Nat) (x2 : Int32) (x3 : Int32) (w : am_S) (H : Heap) (locs : List Loc) (ls : Array Slot), am_loop (fun (st : (Int32 × Int32 × am_S)) => f_X7_clearAmong_4b a1 st.1 st.2.1 st.2.2) n1 (x2, x3, w) = some (rr, ww) → am_H G w s H locs → lv_has ls 6 [(0, .ref (G.1 + 250)), (1, .int a1), (2, .int x2), (3, .int x3)] → W p l e { frames := 0, cells := 0, slots := 0, locals := 0 } s m [.ref (G.1 + 250), .int a1].toArray below meth c H locs 0 0 (MQ below (va_Qi (fun (x : Int32) (u : am_S) => x = rr ∧ u = ww) (am_U G) (am_A G)) [.ref (G.1 + 250), .int a1].toArray s 0 0 (am_A G)) (F0 m 4 ls []) := by
    intro n1
    induction n1 with
    | zero =>
      intro x2 x3 w H locs ls hf hH hl
      exact (am_loop_zero hf).elim
    | succ n1 ih1 =>
      intro x2 x3 w H locs ls hf hH hl
      obtain ⟨z1, hf, hk1⟩ := am_loop_succ hf
      have hf : f_X7_clearAmong_4b a1 x2 x3 w = some z1 := hf
      have P96 : ∀ (x3 : Int32) (s0 : Int32) (s1 : Int32) (w : am_S) (z1 : ((Int32 × am_S) ⊕ (Int32 × Int32 × am_S))) (H : Heap) (locs : List Loc) (ls : Array Slot), f_X7_clearAmong_96 a1 x3 s0 s1 w = some z1 → am_lk (fun (st : (Int32 × Int32 × am_S)) => f_X7_clearAmong_4b a1 st.1 st.2.1 st.2.2) n1 (rr, ww) z1 → am_H G w s H locs → lv_has ls 6 [(0, .ref (G.1 + 250)), (1, .int a1), (3, .int x3)] → W p l e { frames := 0, cells := 0, slots := 0, locals := 0 } s m [.ref (G.1 + 250), .int a1].toArray below meth c H locs 0 0 (MQ below (va_Qi (fun (x : Int32) (u : am_S) => x = rr ∧ u = ww) (am_U G) (am_A G)) [.ref (G.1 + 250), .int a1].toArray s 0 0 (am_A G)) (F0 m 96 ls [.int s0, .int s1]) := by
        intro x3 s0 s1 w z1 H locs ls hf hk1 hH hl
        unfold f_X7_clearAmong_96 at hf
        refine lv_ior hx hb dX7_clearAmong_96 ?_
        obtain ⟨x2_14, hx2_14, hf⟩ := am_v_some hf
        refine am_topi hx2_14 ?_
        refine lv_istore_n (lv' := [(2, .int x2_14), (0, .ref (G.1 + 250)), (1, .int a1), (3, .int x3)]) hx hb dX7_clearAmong_97 rfl hl (by decide) rfl (fun ls hl => ?_)
        obtain ⟨x3_15, hx3_15, hf⟩ := am_v_some hf
        refine lv_iinc (v := x3_15) (lv' := [(3, .int x3_15), (2, .int x2_14), (0, .ref (G.1 + 250)), (1, .int a1)]) hx hb dX7_clearAmong_98 hl (k := 3) rfl (by rw [hx3_15]; rfl) (by decide) rfl (fun ls hl => ?_)
        refine lv_goto (tgt := 4) hx hb dX7_clearAmong_101 (by decide) ?_
        obtain rfl := Option.some.inj hf
        exact ih1 x2_14 x3_15 w H locs ls hk1 hH (lv_sub hl [2, 3, 1, 0] rfl)
      have P95 : ∀ (x3 : Int32) (s0 : Int32) (w : am_S) (z1 : ((Int32 × am_S) ⊕ (Int32 × Int32 × am_S))) (H : Heap) (locs : List Loc) (ls : Array Slot), f_X7_clearAmong_95 a1 x3 s0 w = some z1 → am_lk (fun (st : (Int32 × Int32 × am_S)) => f_X7_clearAmong_4b a1 st.1 st.2.1 st.2.2) n1 (rr, ww) z1 → am_H G w s H locs → lv_has ls 6 [(0, .ref (G.1 + 250)), (1, .int a1), (3, .int x3)] → W p l e { frames := 0, cells := 0, slots := 0, locals := 0 } s m [.ref (G.1 + 250), .int a1].toArray below meth c H locs 0 0 (MQ below (va_Qi (fun (x : Int32) (u : am_S) => x = rr ∧ u = ww) (am_U G) (am_A G)) [.ref (G.1 + 250), .int a1].toArray s 0 0 (am_A G)) (F0 m 95 ls [.int s0]) := by
        intro x3 s0 w z1 H locs ls hf hk1 hH hl
        unfold f_X7_clearAmong_95 at hf
        refine lv_iconst (v := 0) hx hb dX7_clearAmong_95 (by decide) ?_
        exact P96 x3 (0 : Int32) s0 w z1 H locs ls hf hk1 hH (lv_sub hl [0, 1, 2] rfl)
      have P75 : ∀ (x2 : Int32) (x3 : Int32) (x4 : Int32) (s0 : Int32) (w : am_S) (z1 : ((Int32 × am_S) ⊕ (Int32 × Int32 × am_S))) (H : Heap) (locs : List Loc) (ls : Array Slot), f_X7_clearAmong_75 a1 x2 x3 x4 s0 w = some z1 → am_lk (fun (st : (Int32 × Int32 × am_S)) => f_X7_clearAmong_4b a1 st.1 st.2.1 st.2.2) n1 (rr, ww) z1 → am_H G w s H locs → lv_has ls 6 [(0, .ref (G.1 + 250)), (1, .int a1), (2, .int x2), (3, .int x3), (4, .int x4)] → W p l e { frames := 0, cells := 0, slots := 0, locals := 0 } s m [.ref (G.1 + 250), .int a1].toArray below meth c H locs 0 0 (MQ below (va_Qi (fun (x : Int32) (u : am_S) => x = rr ∧ u = ww) (am_U G) (am_A G)) [.ref (G.1 + 250), .int a1].toArray s 0 0 (am_A G)) (F0 m 75 ls [.int s0]) := by
        intro x2 x3 x4 s0 w z1 H locs ls hf hk1 hH hl
        unfold f_X7_clearAmong_75 at hf
        refine lv_istore (lv' := [(5, .int s0), (0, .ref (G.1 + 250)), (1, .int a1), (2, .int x2), (3, .int x3), (4, .int x4)]) hx hb dX7_clearAmong_75 hl (by decide) rfl (fun ls hl => ?_)
        refine lv_iload_n hx hb dX7_clearAmong_77 rfl (lv_at hl 3 rfl) ?_
        refine lv_iload hx hb dX7_clearAmong_78 (lv_at hl 5 rfl) ?_
        refine lv_iload_n hx hb dX7_clearAmong_80 rfl (lv_at hl 2 rfl) ?_
        refine lv_icmp_eq (tgt := 95) hx hb dX7_clearAmong_81 (by decide) (fun hc_16 => ?_) (fun hc_16 => ?_)
        · have hf := (if_pos hc_16).symm.trans hf
          exact P95 x3 x2 w z1 H locs ls hf hk1 hH (lv_sub hl [1, 2, 4] rfl)
        · have hf := (if_neg hc_16).symm.trans hf
          refine lv_iload hx hb dX7_clearAmong_84 (lv_at hl 0 rfl) ?_
          refine lv_if_eq (tgt := 95) hx hb dX7_clearAmong_86 (by decide) (fun hc_17 => ?_) (fun hc_17 => ?_)
          · have hf := (if_pos hc_17).symm.trans hf
            exact P95 x3 x2 w z1 H locs ls hf hk1 hH (lv_sub hl [1, 2, 4] rfl)
          · have hf := (if_neg hc_17).symm.trans hf
            refine lv_iconst (v := 1) hx hb dX7_clearAmong_89 (by decide) ?_
            refine lv_iload_n hx hb dX7_clearAmong_90 rfl (lv_at hl 4 rfl) ?_
            refine lv_ishl hx hb dX7_clearAmong_91 ?_
            refine lv_goto (tgt := 96) hx hb dX7_clearAmong_92 (by decide) ?_
            exact P96 x3 ((1 : Int32) <<< (x3 &&& 31)) x2 w z1 H locs ls hf hk1 hH (lv_sub hl [1, 2, 4] rfl)
      unfold f_X7_clearAmong_4b at hf
      refine lv_iload_n hx hb dX7_clearAmong_4 rfl (lv_at hl 3 rfl) ?_
      refine lv_aload_n hx hb dX7_clearAmong_5 rfl (lv_at hl 0 rfl) ?_
      refine am_get hx hb hts hK hown hH (am_o7 (p := 250) (by decide +kernel)) rfl am_inX7 0 (by decide) am_q259 (v := .ref (G.1 + 11)) rfl dX7_clearAmong_6 ?_
      refine am_get hx hb hts hK hown hH (am_o1 (p := 11) (by decide +kernel)) rfl am_inX1 11 (by decide) am_q102 (v := .int (w.1 11 11)) rfl dX7_clearAmong_9 ?_
      refine lv_icmp_ge (tgt := 104) hx hb dX7_clearAmong_12 (by decide) (fun hc_18 => ?_) (fun hc_18 => ?_)
      · have hf := (if_pos hc_18).symm.trans hf
        obtain ⟨y_19, hf, hzy_19⟩ := am_x_some hf
        rw [hzy_19] at hk1
        have hf := hf.trans (congrArg some (show y_19 = (rr, ww) from hk1))
        refine lv_iload_n hx hb dX7_clearAmong_104 rfl (lv_at hl 2 rfl) ?_
        exact am_reti hx hb hr hlocks hH hf dX7_clearAmong_105
      · have hf := (if_neg hc_18).symm.trans hf
        refine lv_iload_n hx hb dX7_clearAmong_15 rfl (lv_at hl 1 rfl) ?_
        refine lv_iconst (v := 1) hx hb dX7_clearAmong_16 (by decide) ?_
        refine lv_iload_n hx hb dX7_clearAmong_17 rfl (lv_at hl 3 rfl) ?_
        refine lv_ishl hx hb dX7_clearAmong_18 ?_
        refine lv_iconst (v := -1) hx hb dX7_clearAmong_19 (by decide) ?_
        refine lv_ixor hx hb dX7_clearAmong_20 ?_
        refine lv_iand hx hb dX7_clearAmong_21 ?_
        obtain ⟨x4_20, hx4_20, hf⟩ := am_v_some hf
        refine am_topi hx4_20 ?_
        refine lv_istore (lv' := [(4, .int x4_20), (0, .ref (G.1 + 250)), (1, .int a1), (2, .int x2), (3, .int x3)]) hx hb dX7_clearAmong_22 hl (by decide) rfl (fun ls hl => ?_)
        refine lv_aload_n hx hb dX7_clearAmong_24 rfl (lv_at hl 1 rfl) ?_
        refine am_get hx hb hts hK hown hH (am_o7 (p := 250) (by decide +kernel)) rfl am_inX7 5 (by decide) am_q269 (v := .int (w.1 250 5)) rfl dX7_clearAmong_25 ?_
        refine lv_if_ne (tgt := 44) hx hb dX7_clearAmong_28 (by decide) (fun hc_21 => ?_) (fun hc_21 => ?_)
        · have hf := (if_neg hc_21).symm.trans hf
          refine lv_aload_n hx hb dX7_clearAmong_44 rfl (lv_at hl 1 rfl) ?_
          refine am_get hx hb hts hK hown hH (am_o7 (p := 250) (by decide +kernel)) rfl am_inX7 1 (by decide) am_q260 (v := .ref (G.1 + 251)) rfl dX7_clearAmong_45 ?_
          refine lv_iload_n hx hb dX7_clearAmong_48 rfl (lv_at hl 4 rfl) ?_
          obtain ⟨hi_22, hf⟩ := am_chk_some hf
          refine am_fald hx hb hK hH (am_af_of (N := 10) (by decide +kernel)) hi_22 dX7_clearAmong_49 ?_
          refine lv_aload_n hx hb dX7_clearAmong_50 rfl (lv_at hl 1 rfl) ?_
          refine am_get hx hb hts hK hown hH (am_o7 (p := 250) (by decide +kernel)) rfl am_inX7 5 (by decide) am_q269 (v := .int (w.1 250 5)) rfl dX7_clearAmong_51 ?_
          refine lv_i2f hx hb dX7_clearAmong_54 ?_
          refine lv_ldcf (v := 1092616192) hx hb hown (hts _ am_q608) dX7_clearAmong_55 ?_
          obtain ⟨hn_23, hf⟩ := am_n32_some hf
          refine lv_fdiv hx hb dX7_clearAmong_57 hn_23 ?_
          refine lv_aload_n hx hb dX7_clearAmong_58 rfl (lv_at hl 1 rfl) ?_
          refine am_get hx hb hts hK hown hH (am_o7 (p := 250) (by decide +kernel)) rfl am_inX7 2 (by decide) am_q263 (v := .ref (G.1 + 252)) rfl dX7_clearAmong_59 ?_
          refine lv_iload hx hb dX7_clearAmong_62 (lv_at hl 0 rfl) ?_
          obtain ⟨hi_24, hf⟩ := am_chk_some hf
          refine am_fald hx hb hK hH (am_af_of (N := 1024) (by decide +kernel)) hi_24 dX7_clearAmong_64 ?_
          obtain ⟨hn_25, hf⟩ := am_n32_some hf
          refine lv_fmul hx hb dX7_clearAmong_65 hn_25 ?_
          refine lv_fcmp hx hb dX7_clearAmong_66 ?_
          refine lv_if_lt (tgt := 74) hx hb dX7_clearAmong_67 (by decide) (fun hc_26 => ?_) (fun hc_26 => ?_)
          · have hf := (if_pos hc_26).symm.trans hf
            refine lv_iconst (v := 0) hx hb dX7_clearAmong_74 (by decide) ?_
            exact P75 x2 x3 x4_20 (0 : Int32) w z1 H locs ls hf hk1 hH (lv_sub hl [1, 2, 3, 4, 0] rfl)
          · have hf := (if_neg hc_26).symm.trans hf
            refine lv_iconst (v := 1) hx hb dX7_clearAmong_70 (by decide) ?_
            refine lv_goto (tgt := 75) hx hb dX7_clearAmong_71 (by decide) ?_
            exact P75 x2 x3 x4_20 (1 : Int32) w z1 H locs ls hf hk1 hH (lv_sub hl [1, 2, 3, 4, 0] rfl)
        · have hf := (if_pos hc_21).symm.trans hf
          refine lv_iload hx hb dX7_clearAmong_31 (lv_at hl 0 rfl) ?_
          refine lv_if_ne (tgt := 40) hx hb dX7_clearAmong_33 (by decide) (fun hc_27 => ?_) (fun hc_27 => ?_)
          · have hf := (if_neg hc_27).symm.trans hf
            refine lv_iconst (v := 0) hx hb dX7_clearAmong_40 (by decide) ?_
            refine lv_goto (tgt := 75) hx hb dX7_clearAmong_41 (by decide) ?_
            exact P75 x2 x3 x4_20 (0 : Int32) w z1 H locs ls hf hk1 hH (lv_sub hl [1, 2, 3, 4, 0] rfl)
          · have hf := (if_pos hc_27).symm.trans hf
            refine lv_iconst (v := 1) hx hb dX7_clearAmong_36 (by decide) ?_
            refine lv_goto (tgt := 75) hx hb dX7_clearAmong_37 (by decide) ?_
            exact P75 x2 x3 x4_20 (1 : Int32) w z1 H locs ls hf hk1 hH (lv_sub hl [1, 2, 3, 4, 0] rfl)
  refine am_enter (lv := [(0, .ref (G.1 + 250)), (1, .int a1)]) (Nat.le_of_ble_eq_true rfl) rfl (fun ls hl => ?_)
  unfold f_X7_clearAmong at hf
  refine am_start hH (fun H locs hH => ?_)
  refine lv_iconst (v := 0) hx hb dX7_clearAmong_0 (by decide) ?_
  refine lv_istore_n (lv' := [(2, .int (0 : Int32)), (0, .ref (G.1 + 250)), (1, .int a1)]) hx hb dX7_clearAmong_1 rfl hl (by decide) rfl (fun ls hl => ?_)
  refine lv_iconst (v := 0) hx hb dX7_clearAmong_2 (by decide) ?_
  refine lv_istore_n (lv' := [(3, .int (0 : Int32)), (2, .int (0 : Int32)), (0, .ref (G.1 + 250)), (1, .int a1)]) hx hb dX7_clearAmong_3 rfl hl (by decide) rfl (fun ls hl => ?_)
  exact P4 am_fuel (0 : Int32) (0 : Int32) w H locs ls hf hH (lv_sub hl [2, 3, 1, 0] rfl)

def f_X7_clearIn_30 (a1 : Int32) (a2 : Int32) (x3 : Int32) (w : am_S) : Option (Int32 × am_S) :=
  am_chk x3 1024 (some (w.1 253 x3.toNatClampNeg, w))
def f_X7_clearIn (a1 : Int32) (a2 : Int32) (w : am_S) : Option (Int32 × am_S) :=
  am_chk a1 48 (am_v ((w.1 254 a1.toNatClampNeg) &&& a2) fun (x3_13 : Int32) => am_chk x3_13 1024 (if (w.1 253 x3_13.toNatClampNeg) = (-1 : Int32) then (am_b2 (f_X7_clearAmong x3_13 w) fun r_18 w_16 => am_chk x3_13 1024 (am_v (am_pi w_16 253 x3_13.toNatClampNeg r_18) fun (w_20 : am_S) => f_X7_clearIn_30 a1 a2 x3_13 w_20)) else (f_X7_clearIn_30 a1 a2 x3_13 w)))
set_option maxRecDepth 100000 in
set_option maxHeartbeats 4000000 in
theorem k_X7_clearIn {G : am_G} {l : Launch} {a1 : Int32} {a2 : Int32}  {w : am_S} {rr : Int32} {ww : am_S} (hf : f_X7_clearIn a1 a2 w = some (rr, ww)) : am_Mi G l yX7_clearIn (Cond.code yX7_clearIn cX7_clearIn 4 (some .int) :: am_T) { frames := 1, cells := 0, slots := 0, locals := 64 } [.ref (G.1 + 250), .int a1, .int a2] w rr ww := by
  refine Met.ofW (cc := cX7_clearIn) (maxL := 4) (ret := (some .int)) (by decide) rfl ?_
  intro p e s m args below meth c s₁ B hml hv
  obtain ⟨rfl, hx, hb, hr, hts, hown, hlocks, hK, hE, hH⟩ := am_begin B hv
  have hown : s.vm.findClass RX7 = some m.cls := hown
  show W p l e { frames := 1, cells := 0, slots := 0, locals := 64 } s m _ below meth c s.heap [] 0 0 _ _
  have P30 : ∀ (x3 : Int32) (w : am_S) (H : Heap) (locs : List Loc) (ls : Array Slot), f_X7_clearIn_30 a1 a2 x3 w = some (rr, ww) → am_H G w s H locs → lv_has ls 4 [(0, .ref (G.1 + 250)), (3, .int x3)] → W p l e { frames := 1, cells := 0, slots := 0, locals := 64 } s m [.ref (G.1 + 250), .int a1, .int a2].toArray below meth c H locs 0 0 (MQ below (va_Qi (fun (x : Int32) (u : am_S) => x = rr ∧ u = ww) (am_U G) (am_A G)) [.ref (G.1 + 250), .int a1, .int a2].toArray s 0 0 (am_A G)) (F0 m 30 ls []) := by
    intro x3 w H locs ls hf hH hl
    unfold f_X7_clearIn_30 at hf
    refine lv_aload_n hx hb dX7_clearIn_30 rfl (lv_at hl 0 rfl) ?_
    refine am_get hx hb hts hK hown hH (am_o7 (p := 250) (by decide +kernel)) rfl am_inX7 3 (by decide) am_q264 (v := .ref (G.1 + 253)) rfl dX7_clearIn_31 ?_
    refine lv_iload_n hx hb dX7_clearIn_34 rfl (lv_at hl 1 rfl) ?_
    obtain ⟨hi_11, hf⟩ := am_chk_some hf
    refine am_iald hx hb hK hH (am_ai_of (N := 1024) (by decide +kernel)) hi_11 dX7_clearIn_35 ?_
    exact am_reti hx hb hr hlocks hH hf dX7_clearIn_36
  refine am_enter (lv := [(0, .ref (G.1 + 250)), (1, .int a1), (2, .int a2)]) (Nat.le_of_ble_eq_true rfl) rfl (fun ls hl => ?_)
  unfold f_X7_clearIn at hf
  refine am_start hH (fun H locs hH => ?_)
  refine lv_aload_n hx hb dX7_clearIn_0 rfl (lv_at hl 0 rfl) ?_
  refine am_get hx hb hts hK hown hH (am_o7 (p := 250) (by decide +kernel)) rfl am_inX7 4 (by decide) am_q265 (v := .ref (G.1 + 254)) rfl dX7_clearIn_1 ?_
  refine lv_iload_n hx hb dX7_clearIn_4 rfl (lv_at hl 1 rfl) ?_
  obtain ⟨hi_12, hf⟩ := am_chk_some hf
  refine am_iald hx hb hK hH (am_ai_of (N := 48) (by decide +kernel)) hi_12 dX7_clearIn_5 ?_
  refine lv_iload_n hx hb dX7_clearIn_6 rfl (lv_at hl 2 rfl) ?_
  refine lv_iand hx hb dX7_clearIn_7 ?_
  obtain ⟨x3_13, hx3_13, hf⟩ := am_v_some hf
  refine am_topi hx3_13 ?_
  refine lv_istore_n (lv' := [(3, .int x3_13), (0, .ref (G.1 + 250)), (1, .int a1), (2, .int a2)]) hx hb dX7_clearIn_8 rfl hl (by decide) rfl (fun ls hl => ?_)
  refine lv_aload_n hx hb dX7_clearIn_9 rfl (lv_at hl 1 rfl) ?_
  refine am_get hx hb hts hK hown hH (am_o7 (p := 250) (by decide +kernel)) rfl am_inX7 3 (by decide) am_q264 (v := .ref (G.1 + 253)) rfl dX7_clearIn_10 ?_
  refine lv_iload_n hx hb dX7_clearIn_13 rfl (lv_at hl 0 rfl) ?_
  obtain ⟨hi_14, hf⟩ := am_chk_some hf
  refine am_iald hx hb hK hH (am_ai_of (N := 1024) (by decide +kernel)) hi_14 dX7_clearIn_14 ?_
  refine lv_iconst (v := -1) hx hb dX7_clearIn_15 (by decide) ?_
  refine lv_icmp_ne (tgt := 30) hx hb dX7_clearIn_16 (by decide) (fun hc_15 => ?_) (fun hc_15 => ?_)
  · have hf := (if_neg hc_15).symm.trans hf
    exact P30 x3_13 w H locs ls hf hH (lv_sub hl [1, 0] rfl)
  · have hf := (if_pos hc_15).symm.trans hf
    refine lv_aload_n hx hb dX7_clearIn_19 rfl (lv_at hl 1 rfl) ?_
    refine am_get hx hb hts hK hown hH (am_o7 (p := 250) (by decide +kernel)) rfl am_inX7 3 (by decide) am_q264 (v := .ref (G.1 + 253)) rfl dX7_clearIn_20 ?_
    refine lv_iload_n hx hb dX7_clearIn_23 rfl (lv_at hl 0 rfl) ?_
    refine lv_aload_n hx hb dX7_clearIn_24 rfl (lv_at hl 1 rfl) ?_
    refine lv_iload_n hx hb dX7_clearIn_25 rfl (lv_at hl 0 rfl) ?_
    obtain ⟨r_18, w_16, hq_17, hf⟩ := am_b2_some hf
    refine am_calli (r := r_18) (w' := w_16) (am_runV (n := 1) (As := [.int x3_13]) (rest := [.int x3_13, .ref (G.1 + 253)]) ⟨hx, hb, hml, hown, hts⟩ hK hE hH (k_X7_clearAmong hq_17) (am_gV am_q706 am_q708 am_qs15 am_q9 am_q709) (am_o7 (p := 250) (by decide +kernel)) rfl ⟨rfl, rfl⟩ (by decide +kernel) ⟨Nat.le_of_ble_eq_true rfl, Nat.le_of_ble_eq_true rfl⟩ rfl hl.1 rfl (Nat.le_of_ble_eq_true rfl) ⟨Nat.zero_le _, Nat.zero_le _⟩ dX7_clearIn_26) hH (fun H locs hH => ?_)
    obtain ⟨hi_19, hf⟩ := am_chk_some hf
    obtain ⟨w_20, hw_20, hf⟩ := am_v_some hf
    refine am_iast hx hb hK hH (am_ai_of (N := 1024) (by decide +kernel)) hi_19 dX7_clearIn_29 (fun H locs hH => ?_)
    rw [← hw_20] at hH
    exact P30 x3_13 w_20 H locs ls hf hH (lv_sub hl [1, 0] rfl)

def f_X7_clearAnywhere_4b (a1 : Int32) (x2 : Int32) (x3 : Int32) (w : am_S) : Option ((Int32 × am_S) ⊕ (Int32 × Int32 × am_S)) :=
  am_b2 (f_X1_allSlots 11 w) fun r_12 w_10 => if r_12 ≤ x3 then (am_x (some (x2, w_10))) else (am_b2 (f_X7_clearIn x3 a1 w_10) fun r_17 w_15 => am_v (x2 ||| r_17) fun (x2_18 : Int32) => am_v (x3 + (1 : Int32)) fun (x3_19 : Int32) => some (.inr (x2_18, x3_19, w_15)))
def f_X7_clearAnywhere_4 (a1 : Int32) (x2 : Int32) (x3 : Int32) (w : am_S) : Option (Int32 × am_S) :=
  am_loop (fun (st : (Int32 × Int32 × am_S)) => f_X7_clearAnywhere_4b a1 st.1 st.2.1 st.2.2) am_fuel (x2, x3, w)
def f_X7_clearAnywhere (a1 : Int32) (w : am_S) : Option (Int32 × am_S) :=
  f_X7_clearAnywhere_4 a1 (0 : Int32) (0 : Int32) w
set_option maxRecDepth 100000 in
set_option maxHeartbeats 4000000 in
theorem k_X7_clearAnywhere {G : am_G} {l : Launch} {a1 : Int32}  {w : am_S} {rr : Int32} {ww : am_S} (hf : f_X7_clearAnywhere a1 w = some (rr, ww)) : am_Mi G l yX7_clearAnywhere (Cond.code yX7_clearAnywhere cX7_clearAnywhere 4 (some .int) :: am_T) { frames := 2, cells := 0, slots := 0, locals := 128 } [.ref (G.1 + 250), .int a1] w rr ww := by
  refine Met.ofW (cc := cX7_clearAnywhere) (maxL := 4) (ret := (some .int)) (by decide) rfl ?_
  intro p e s m args below meth c s₁ B hml hv
  obtain ⟨rfl, hx, hb, hr, hts, hown, hlocks, hK, hE, hH⟩ := am_begin B hv
  have hown : s.vm.findClass RX7 = some m.cls := hown
  show W p l e { frames := 2, cells := 0, slots := 0, locals := 128 } s m _ below meth c s.heap [] 0 0 _ _
  have P4 : ∀ (n1 : Nat) (x2 : Int32) (x3 : Int32) (w : am_S) (H : Heap) (locs : List Loc) (ls : Array Slot), am_loop (fun (st : (Int32 × Int32 × am_S)) => f_X7_clearAnywhere_4b a1 st.1 st.2.1 st.2.2) n1 (x2, x3, w) = some (rr, ww) → am_H G w s H locs → lv_has ls 4 [(0, .ref (G.1 + 250)), (1, .int a1), (2, .int x2), (3, .int x3)] → W p l e { frames := 2, cells := 0, slots := 0, locals := 128 } s m [.ref (G.1 + 250), .int a1].toArray below meth c H locs 0 0 (MQ below (va_Qi (fun (x : Int32) (u : am_S) => x = rr ∧ u = ww) (am_U G) (am_A G)) [.ref (G.1 + 250), .int a1].toArray s 0 0 (am_A G)) (F0 m 4 ls []) := by
    intro n1
    induction n1 with
    | zero =>
      intro x2 x3 w H locs ls hf hH hl
      exact (am_loop_zero hf).elim
    | succ n1 ih1 =>
      intro x2 x3 w H locs ls hf hH hl
      obtain ⟨z1, hf, hk1⟩ := am_loop_succ hf
      have hf : f_X7_clearAnywhere_4b a1 x2 x3 w = some z1 := hf
      unfold f_X7_clearAnywhere_4b at hf
      refine lv_iload_n hx hb dX7_clearAnywhere_4 rfl (lv_at hl 3 rfl) ?_
      refine lv_aload_n hx hb dX7_clearAnywhere_5 rfl (lv_at hl 0 rfl) ?_
      refine am_get hx hb hts hK hown hH (am_o7 (p := 250) (by decide +kernel)) rfl am_inX7 0 (by decide) am_q259 (v := .ref (G.1 + 11)) rfl dX7_clearAnywhere_6 ?_
      obtain ⟨r_12, w_10, hq_11, hf⟩ := am_b2_some hf
      refine am_calli (r := r_12) (w' := w_10) (am_runV (n := 0) (As := []) (rest := [.int x3]) ⟨hx, hb, hml, hown, hts⟩ hK hE hH (k_X1_allSlots (by decide +kernel) hq_11) (am_gV am_q742 am_q630 am_q631 am_q3 am_q632) (am_o1 (p := 11) (by decide +kernel)) rfl ⟨rfl, rfl⟩ (by decide +kernel) ⟨Nat.le_of_ble_eq_true rfl, Nat.le_of_ble_eq_true rfl⟩ rfl hl.1 rfl (Nat.le_of_ble_eq_true rfl) ⟨Nat.zero_le _, Nat.zero_le _⟩ dX7_clearAnywhere_9) hH (fun H locs hH => ?_)
      refine lv_icmp_ge (tgt := 30) hx hb dX7_clearAnywhere_12 (by decide) (fun hc_13 => ?_) (fun hc_13 => ?_)
      · have hf := (if_pos hc_13).symm.trans hf
        obtain ⟨y_14, hf, hzy_14⟩ := am_x_some hf
        rw [hzy_14] at hk1
        have hf := hf.trans (congrArg some (show y_14 = (rr, ww) from hk1))
        refine lv_iload_n hx hb dX7_clearAnywhere_30 rfl (lv_at hl 2 rfl) ?_
        exact am_reti hx hb hr hlocks hH hf dX7_clearAnywhere_31
      · have hf := (if_neg hc_13).symm.trans hf
        refine lv_iload_n hx hb dX7_clearAnywhere_15 rfl (lv_at hl 2 rfl) ?_
        refine lv_aload_n hx hb dX7_clearAnywhere_16 rfl (lv_at hl 0 rfl) ?_
        refine lv_iload_n hx hb dX7_clearAnywhere_17 rfl (lv_at hl 3 rfl) ?_
        refine lv_iload_n hx hb dX7_clearAnywhere_18 rfl (lv_at hl 1 rfl) ?_
        obtain ⟨r_17, w_15, hq_16, hf⟩ := am_b2_some hf
        refine am_calli (r := r_17) (w' := w_15) (am_runV (n := 2) (As := [.int x3, .int a1]) (rest := [.int x2]) ⟨hx, hb, hml, hown, hts⟩ hK hE hH (k_X7_clearIn hq_16) (am_gV am_q743 am_q703 am_q704 am_q9 am_q705) (am_o7 (p := 250) (by decide +kernel)) rfl ⟨rfl, rfl⟩ (by decide +kernel) ⟨Nat.le_of_ble_eq_true rfl, Nat.le_of_ble_eq_true rfl⟩ rfl hl.1 rfl (Nat.le_of_ble_eq_true rfl) ⟨Nat.zero_le _, Nat.zero_le _⟩ dX7_clearAnywhere_19) hH (fun H locs hH => ?_)
        refine lv_ior hx hb dX7_clearAnywhere_22 ?_
        obtain ⟨x2_18, hx2_18, hf⟩ := am_v_some hf
        refine am_topi hx2_18 ?_
        refine lv_istore_n (lv' := [(2, .int x2_18), (0, .ref (G.1 + 250)), (1, .int a1), (3, .int x3)]) hx hb dX7_clearAnywhere_23 rfl hl (by decide) rfl (fun ls hl => ?_)
        obtain ⟨x3_19, hx3_19, hf⟩ := am_v_some hf
        refine lv_iinc (v := x3_19) (lv' := [(3, .int x3_19), (2, .int x2_18), (0, .ref (G.1 + 250)), (1, .int a1)]) hx hb dX7_clearAnywhere_24 hl (k := 3) rfl (by rw [hx3_19]; rfl) (by decide) rfl (fun ls hl => ?_)
        refine lv_goto (tgt := 4) hx hb dX7_clearAnywhere_27 (by decide) ?_
        obtain rfl := Option.some.inj hf
        exact ih1 x2_18 x3_19 w_15 H locs ls hk1 hH (lv_sub hl [2, 3, 1, 0] rfl)
  refine am_enter (lv := [(0, .ref (G.1 + 250)), (1, .int a1)]) (Nat.le_of_ble_eq_true rfl) rfl (fun ls hl => ?_)
  unfold f_X7_clearAnywhere at hf
  refine am_start hH (fun H locs hH => ?_)
  refine lv_iconst (v := 0) hx hb dX7_clearAnywhere_0 (by decide) ?_
  refine lv_istore_n (lv' := [(2, .int (0 : Int32)), (0, .ref (G.1 + 250)), (1, .int a1)]) hx hb dX7_clearAnywhere_1 rfl hl (by decide) rfl (fun ls hl => ?_)
  refine lv_iconst (v := 0) hx hb dX7_clearAnywhere_2 (by decide) ?_
  refine lv_istore_n (lv' := [(3, .int (0 : Int32)), (2, .int (0 : Int32)), (0, .ref (G.1 + 250)), (1, .int a1)]) hx hb dX7_clearAnywhere_3 rfl hl (by decide) rfl (fun ls hl => ?_)
  exact P4 am_fuel (0 : Int32) (0 : Int32) w H locs ls hf hH (lv_sub hl [2, 3, 1, 0] rfl)

def f_X9_knownCount_28 (o0 : Nat) (x2 : Int32) (s0 : Int32) (s1 : Int32) (w : am_S) : Option ((Int32 × am_S) ⊕ (Int32 × Int32 × am_S)) :=
  am_v (s1 + s0) fun (x1_6 : Int32) => am_v (x2 + (1 : Int32)) fun (x2_7 : Int32) => some (.inr (x1_6, x2_7, w))
def f_X9_knownCount_4b (o0 : Nat) (x1 : Int32) (x2 : Int32) (w : am_S) : Option ((Int32 × am_S) ⊕ (Int32 × Int32 × am_S)) :=
  if (10 : Int32) ≤ x2 then (am_x (some (x1, w))) else (am_chk x2 10 (if (w.1 (o0 + 1) x2.toNatClampNeg) = 0 then (f_X9_knownCount_28 o0 x2 (0 : Int32) x1 w) else (f_X9_knownCount_28 o0 x2 (1 : Int32) x1 w)))
def f_X9_knownCount_4 (o0 : Nat) (x1 : Int32) (x2 : Int32) (w : am_S) : Option (Int32 × am_S) :=
  am_loop (fun (st : (Int32 × Int32 × am_S)) => f_X9_knownCount_4b o0 st.1 st.2.1 st.2.2) am_fuel (x1, x2, w)
def f_X9_knownCount (o0 : Nat) (w : am_S) : Option (Int32 × am_S) :=
  f_X9_knownCount_4 o0 (0 : Int32) (0 : Int32) w
set_option maxRecDepth 100000 in
set_option maxHeartbeats 4000000 in
theorem k_X9_knownCount {G : am_G} {l : Launch} {o0 : Nat} (ho0 : am_f9 o0) {w : am_S} {rr : Int32} {ww : am_S} (hf : f_X9_knownCount o0 w = some (rr, ww)) : am_Mi G l yX9_knownCount (Cond.code yX9_knownCount cX9_knownCount 3 (some .int) :: am_T) { frames := 0, cells := 0, slots := 0, locals := 0 } [.ref (G.1 + o0)] w rr ww := by
  refine Met.ofW (cc := cX9_knownCount) (maxL := 3) (ret := (some .int)) (by decide) rfl ?_
  intro p e s m args below meth c s₁ B hml hv
  obtain ⟨rfl, hx, hb, hr, hts, hown, hlocks, hK, hE, hH⟩ := am_begin B hv
  have hown : s.vm.findClass RX9 = some m.cls := hown
  show W p l e { frames := 0, cells := 0, slots := 0, locals := 0 } s m _ below meth c s.heap [] 0 0 _ _
  have P4 : ∀ (n1 : Nat) (x1 : Int32) (x2 : Int32) (w : am_S) (H : Heap) (locs : List Loc) (ls : Array Slot), am_loop (fun (st : (Int32 × Int32 × am_S)) => f_X9_knownCount_4b o0 st.1 st.2.1 st.2.2) n1 (x1, x2, w) = some (rr, ww) → am_H G w s H locs → lv_has ls 3 [(0, .ref (G.1 + o0)), (1, .int x1), (2, .int x2)] → W p l e { frames := 0, cells := 0, slots := 0, locals := 0 } s m [.ref (G.1 + o0)].toArray below meth c H locs 0 0 (MQ below (va_Qi (fun (x : Int32) (u : am_S) => x = rr ∧ u = ww) (am_U G) (am_A G)) [.ref (G.1 + o0)].toArray s 0 0 (am_A G)) (F0 m 4 ls []) := by
    intro n1
    induction n1 with
    | zero =>
      intro x1 x2 w H locs ls hf hH hl
      exact (am_loop_zero hf).elim
    | succ n1 ih1 =>
      intro x1 x2 w H locs ls hf hH hl
      obtain ⟨z1, hf, hk1⟩ := am_loop_succ hf
      have hf : f_X9_knownCount_4b o0 x1 x2 w = some z1 := hf
      have P28 : ∀ (x2 : Int32) (s0 : Int32) (s1 : Int32) (w : am_S) (z1 : ((Int32 × am_S) ⊕ (Int32 × Int32 × am_S))) (H : Heap) (locs : List Loc) (ls : Array Slot), f_X9_knownCount_28 o0 x2 s0 s1 w = some z1 → am_lk (fun (st : (Int32 × Int32 × am_S)) => f_X9_knownCount_4b o0 st.1 st.2.1 st.2.2) n1 (rr, ww) z1 → am_H G w s H locs → lv_has ls 3 [(0, .ref (G.1 + o0)), (2, .int x2)] → W p l e { frames := 0, cells := 0, slots := 0, locals := 0 } s m [.ref (G.1 + o0)].toArray below meth c H locs 0 0 (MQ below (va_Qi (fun (x : Int32) (u : am_S) => x = rr ∧ u = ww) (am_U G) (am_A G)) [.ref (G.1 + o0)].toArray s 0 0 (am_A G)) (F0 m 28 ls [.int s0, .int s1]) := by
        intro x2 s0 s1 w z1 H locs ls hf hk1 hH hl
        unfold f_X9_knownCount_28 at hf
        refine lv_iadd hx hb dX9_knownCount_28 ?_
        obtain ⟨x1_6, hx1_6, hf⟩ := am_v_some hf
        refine am_topi hx1_6 ?_
        refine lv_istore_n (lv' := [(1, .int x1_6), (0, .ref (G.1 + o0)), (2, .int x2)]) hx hb dX9_knownCount_29 rfl hl (by decide) rfl (fun ls hl => ?_)
        obtain ⟨x2_7, hx2_7, hf⟩ := am_v_some hf
        refine lv_iinc (v := x2_7) (lv' := [(2, .int x2_7), (1, .int x1_6), (0, .ref (G.1 + o0))]) hx hb dX9_knownCount_30 hl (k := 2) rfl (by rw [hx2_7]; rfl) (by decide) rfl (fun ls hl => ?_)
        refine lv_goto (tgt := 4) hx hb dX9_knownCount_33 (by decide) ?_
        obtain rfl := Option.some.inj hf
        exact ih1 x1_6 x2_7 w H locs ls hk1 hH (lv_sub hl [2, 1, 0] rfl)
      unfold f_X9_knownCount_4b at hf
      refine lv_iload_n hx hb dX9_knownCount_4 rfl (lv_at hl 2 rfl) ?_
      refine lv_aload_n hx hb dX9_knownCount_5 rfl (lv_at hl 0 rfl) ?_
      refine am_get hx hb hts hK hown hH (am_o9 ho0.1) rfl am_inX9 0 (by decide) am_q173 (v := .ref (G.1 + (o0 + 1))) rfl dX9_knownCount_6 ?_
      refine am_leni (v := (10 : Int32)) hx hb hK hH (am_ai_of (N := 10) ho0.2.1) rfl dX9_knownCount_9 ?_
      refine lv_icmp_ge (tgt := 36) hx hb dX9_knownCount_10 (by decide) (fun hc_8 => ?_) (fun hc_8 => ?_)
      · have hf := (if_pos hc_8).symm.trans hf
        obtain ⟨y_9, hf, hzy_9⟩ := am_x_some hf
        rw [hzy_9] at hk1
        have hf := hf.trans (congrArg some (show y_9 = (rr, ww) from hk1))
        refine lv_iload_n hx hb dX9_knownCount_36 rfl (lv_at hl 1 rfl) ?_
        exact am_reti hx hb hr hlocks hH hf dX9_knownCount_37
      · have hf := (if_neg hc_8).symm.trans hf
        refine lv_iload_n hx hb dX9_knownCount_13 rfl (lv_at hl 1 rfl) ?_
        refine lv_aload_n hx hb dX9_knownCount_14 rfl (lv_at hl 0 rfl) ?_
        refine am_get hx hb hts hK hown hH (am_o9 ho0.1) rfl am_inX9 0 (by decide) am_q173 (v := .ref (G.1 + (o0 + 1))) rfl dX9_knownCount_15 ?_
        refine lv_iload_n hx hb dX9_knownCount_18 rfl (lv_at hl 2 rfl) ?_
        obtain ⟨hi_10, hf⟩ := am_chk_some hf
        refine am_iald hx hb hK hH (am_ai_of (N := 10) ho0.2.1) hi_10 dX9_knownCount_19 ?_
        refine lv_if_eq (tgt := 27) hx hb dX9_knownCount_20 (by decide) (fun hc_11 => ?_) (fun hc_11 => ?_)
        · have hf := (if_pos hc_11).symm.trans hf
          refine lv_iconst (v := 0) hx hb dX9_knownCount_27 (by decide) ?_
          exact P28 x2 (0 : Int32) x1 w z1 H locs ls hf hk1 hH (lv_sub hl [0, 2] rfl)
        · have hf := (if_neg hc_11).symm.trans hf
          refine lv_iconst (v := 1) hx hb dX9_knownCount_23 (by decide) ?_
          refine lv_goto (tgt := 28) hx hb dX9_knownCount_24 (by decide) ?_
          exact P28 x2 (1 : Int32) x1 w z1 H locs ls hf hk1 hH (lv_sub hl [0, 2] rfl)
  refine am_enter (lv := [(0, .ref (G.1 + o0))]) (Nat.le_of_ble_eq_true rfl) rfl (fun ls hl => ?_)
  unfold f_X9_knownCount at hf
  refine am_start hH (fun H locs hH => ?_)
  refine lv_iconst (v := 0) hx hb dX9_knownCount_0 (by decide) ?_
  refine lv_istore_n (lv' := [(1, .int (0 : Int32)), (0, .ref (G.1 + o0))]) hx hb dX9_knownCount_1 rfl hl (by decide) rfl (fun ls hl => ?_)
  refine lv_iconst (v := 0) hx hb dX9_knownCount_2 (by decide) ?_
  refine lv_istore_n (lv' := [(2, .int (0 : Int32)), (1, .int (0 : Int32)), (0, .ref (G.1 + o0))]) hx hb dX9_knownCount_3 rfl hl (by decide) rfl (fun ls hl => ?_)
  exact P4 am_fuel (0 : Int32) (0 : Int32) w H locs ls hf hH (lv_sub hl [2, 1, 0] rfl)

def f_J9_min_7cf53_10 (a0 : Int32) (a1 : Int32) (s0 : Int32) (w : am_S) : Option (Int32 × am_S) :=
  some (s0, w)
def f_J9_min_7cf53 (a0 : Int32) (a1 : Int32) (w : am_S) : Option (Int32 × am_S) :=
  if a1 < a0 then (f_J9_min_7cf53_10 a0 a1 a1 w) else (f_J9_min_7cf53_10 a0 a1 a0 w)
set_option maxRecDepth 100000 in
set_option maxHeartbeats 4000000 in
theorem k_J9_min_7cf53 {G : am_G} {l : Launch} {a0 : Int32} {a1 : Int32}  {w : am_S} {rr : Int32} {ww : am_S} (hf : f_J9_min_7cf53 a0 a1 w = some (rr, ww)) : am_Mi G l yJ9_min_7cf53 (Cond.code yJ9_min_7cf53 cJ9_min_7cf53 2 (some .int) :: am_T) { frames := 0, cells := 0, slots := 0, locals := 0 } [.int a0, .int a1] w rr ww := by
  refine va_MetF (cc := cJ9_min_7cf53) (maxL := 2) (ret := (some .int)) (by decide +kernel) rfl ?_
  intro p e s m args below meth c s₁ B hml hv
  obtain ⟨rfl, hx, hb, hr, hts, hown, hlocks, hK, hE, hH⟩ := am_begin B hv
  have hown : s.vm.findClass RJ9 = some m.cls := hown
  show W p l e { frames := 0, cells := 0, slots := 0, locals := 0 } s m _ below meth c s.heap [] 0 0 _ _
  have P10 : ∀ (s0 : Int32) (w : am_S) (H : Heap) (locs : List Loc) (ls : Array Slot), f_J9_min_7cf53_10 a0 a1 s0 w = some (rr, ww) → am_H G w s H locs → lv_has ls 2 [] → W p l e { frames := 0, cells := 0, slots := 0, locals := 0 } s m [.int a0, .int a1].toArray below meth c H locs 0 0 (MQ below (va_Qi (fun (x : Int32) (u : am_S) => x = rr ∧ u = ww) (am_U G) (am_A G)) [.int a0, .int a1].toArray s 0 0 (am_A G)) (F0 m 10 ls [.int s0]) := by
    intro s0 w H locs ls hf hH hl
    unfold f_J9_min_7cf53_10 at hf
    exact am_reti hx hb hr hlocks hH hf dJ9_min_7cf53_10
  refine am_enter (lv := [(0, .int a0), (1, .int a1)]) (Nat.le_of_ble_eq_true rfl) rfl (fun ls hl => ?_)
  unfold f_J9_min_7cf53 at hf
  refine am_start hH (fun H locs hH => ?_)
  refine lv_iload_n hx hb dJ9_min_7cf53_0 rfl (lv_at hl 0 rfl) ?_
  refine lv_iload_n hx hb dJ9_min_7cf53_1 rfl (lv_at hl 1 rfl) ?_
  refine lv_icmp_gt (tgt := 9) hx hb dJ9_min_7cf53_2 (by decide) (fun hc_2 => ?_) (fun hc_2 => ?_)
  · have hf := (if_pos hc_2).symm.trans hf
    refine lv_iload_n hx hb dJ9_min_7cf53_9 rfl (lv_at hl 1 rfl) ?_
    exact P10 a1 w H locs ls hf hH (lv_sub hl [] rfl)
  · have hf := (if_neg hc_2).symm.trans hf
    refine lv_iload_n hx hb dJ9_min_7cf53_5 rfl (lv_at hl 0 rfl) ?_
    refine lv_goto (tgt := 10) hx hb dJ9_min_7cf53_6 (by decide) ?_
    exact P10 a0 w H locs ls hf hH (lv_sub hl [] rfl)

def f_X10_nextSign_62  (s0 : Int32) (w : am_S) : Option (Int32 × am_S) :=
  am_nar .char s0 (some (s0, w))
def f_X10_nextSign_38  (w : am_S) : Option (Int32 × am_S) :=
  if (w.1 1 1) ≤ (w.1 1 2) then (f_X10_nextSign_62 (0 : Int32) w) else (am_chk (w.1 1 2) 240 (f_X10_nextSign_62 (w.1 2 (w.1 1 2).toNatClampNeg) w))
def f_X10_nextSign_0b  (w : am_S) : Option ((Int32 × am_S) ⊕ am_S) :=
  if (w.1 1 1) ≤ (w.1 1 2) then (am_x (f_X10_nextSign_38 w)) else (am_chk (w.1 1 2) 240 (if (w.1 2 (w.1 1 2).toNatClampNeg) = (32 : Int32) then (am_v (am_pi w 1 2 ((w.1 1 2) + (1 : Int32))) fun (w_15 : am_S) => some (.inr w_15)) else (am_x (f_X10_nextSign_38 w))))
def f_X10_nextSign_0  (w : am_S) : Option (Int32 × am_S) :=
  am_loop (fun (st : am_S) => f_X10_nextSign_0b st) am_fuel w
def f_X10_nextSign  (w : am_S) : Option (Int32 × am_S) :=
  f_X10_nextSign_0 w
set_option maxRecDepth 100000 in
set_option maxHeartbeats 4000000 in
theorem k_X10_nextSign {G : am_G} {l : Launch}   {w : am_S} {rr : Int32} {ww : am_S} (hf : f_X10_nextSign  w = some (rr, ww)) : am_Mi G l yX10_nextSign (Cond.code yX10_nextSign cX10_nextSign 1 (some .char) :: am_T) { frames := 0, cells := 0, slots := 0, locals := 0 } [.ref (G.1 + 1)] w rr ww := by
  refine Met.ofW (cc := cX10_nextSign) (maxL := 1) (ret := (some .char)) (by decide) rfl ?_
  intro p e s m args below meth c s₁ B hml hv
  obtain ⟨rfl, hx, hb, hr, hts, hown, hlocks, hK, hE, hH⟩ := am_begin B hv
  have hown : s.vm.findClass RX10 = some m.cls := hown
  show W p l e { frames := 0, cells := 0, slots := 0, locals := 0 } s m _ below meth c s.heap [] 0 0 _ _
  have P62 : ∀ (s0 : Int32) (w : am_S) (H : Heap) (locs : List Loc) (ls : Array Slot), f_X10_nextSign_62 s0 w = some (rr, ww) → am_H G w s H locs → lv_has ls 1 [] → W p l e { frames := 0, cells := 0, slots := 0, locals := 0 } s m [.ref (G.1 + 1)].toArray below meth c H locs 0 0 (MQ below (va_Qi (fun (x : Int32) (u : am_S) => x = rr ∧ u = ww) (am_U G) (am_A G)) [.ref (G.1 + 1)].toArray s 0 0 (am_A G)) (F0 m 62 ls [.int s0]) := by
    intro s0 w H locs ls hf hH hl
    unfold f_X10_nextSign_62 at hf
    obtain ⟨hr_7, hf⟩ := am_nar_some hf
    exact am_retz hx hb hr hr_7.1 hlocks hH hf dX10_nextSign_62
  have P38 : ∀ (w : am_S) (H : Heap) (locs : List Loc) (ls : Array Slot), f_X10_nextSign_38 w = some (rr, ww) → am_H G w s H locs → lv_has ls 1 [(0, .ref (G.1 + 1))] → W p l e { frames := 0, cells := 0, slots := 0, locals := 0 } s m [.ref (G.1 + 1)].toArray below meth c H locs 0 0 (MQ below (va_Qi (fun (x : Int32) (u : am_S) => x = rr ∧ u = ww) (am_U G) (am_A G)) [.ref (G.1 + 1)].toArray s 0 0 (am_A G)) (F0 m 38 ls []) := by
    intro w H locs ls hf hH hl
    unfold f_X10_nextSign_38 at hf
    refine lv_aload_n hx hb dX10_nextSign_38 rfl (lv_at hl 0 rfl) ?_
    refine am_get hx hb hts hK hown hH (am_o10 (p := 1) (by decide +kernel)) rfl am_inX10 2 (by decide) am_q50 (v := .int (w.1 1 2)) rfl dX10_nextSign_39 ?_
    refine lv_aload_n hx hb dX10_nextSign_42 rfl (lv_at hl 0 rfl) ?_
    refine am_get hx hb hts hK hown hH (am_o10 (p := 1) (by decide +kernel)) rfl am_inX10 1 (by decide) am_q47 (v := .int (w.1 1 1)) rfl dX10_nextSign_43 ?_
    refine lv_icmp_ge (tgt := 61) hx hb dX10_nextSign_46 (by decide) (fun hc_8 => ?_) (fun hc_8 => ?_)
    · have hf := (if_pos hc_8).symm.trans hf
      refine lv_iconst (v := 0) hx hb dX10_nextSign_61 (by decide) ?_
      exact P62 (0 : Int32) w H locs ls hf hH (lv_sub hl [] rfl)
    · have hf := (if_neg hc_8).symm.trans hf
      refine lv_aload_n hx hb dX10_nextSign_49 rfl (lv_at hl 0 rfl) ?_
      refine am_get hx hb hts hK hown hH (am_o10 (p := 1) (by decide +kernel)) rfl am_inX10 0 (by decide) am_q45 (v := .ref (G.1 + 2)) rfl dX10_nextSign_50 ?_
      refine lv_aload_n hx hb dX10_nextSign_53 rfl (lv_at hl 0 rfl) ?_
      refine am_get hx hb hts hK hown hH (am_o10 (p := 1) (by decide +kernel)) rfl am_inX10 2 (by decide) am_q50 (v := .int (w.1 1 2)) rfl dX10_nextSign_54 ?_
      obtain ⟨hi_9, hf⟩ := am_chk_some hf
      refine am_cald hx hb hK hH (am_ac_of (N := 240) (by decide +kernel)) hi_9 dX10_nextSign_57 ?_
      refine lv_goto (tgt := 62) hx hb dX10_nextSign_58 (by decide) ?_
      exact P62 (w.1 2 (w.1 1 2).toNatClampNeg) w H locs ls hf hH (lv_sub hl [] rfl)
  have P0 : ∀ (n1 : Nat) (w : am_S) (H : Heap) (locs : List Loc) (ls : Array Slot), am_loop (fun (st : am_S) => f_X10_nextSign_0b st) n1 w = some (rr, ww) → am_H G w s H locs → lv_has ls 1 [(0, .ref (G.1 + 1))] → W p l e { frames := 0, cells := 0, slots := 0, locals := 0 } s m [.ref (G.1 + 1)].toArray below meth c H locs 0 0 (MQ below (va_Qi (fun (x : Int32) (u : am_S) => x = rr ∧ u = ww) (am_U G) (am_A G)) [.ref (G.1 + 1)].toArray s 0 0 (am_A G)) (F0 m 0 ls []) := by
    intro n1
    induction n1 with
    | zero =>
      intro w H locs ls hf hH hl
      exact (am_loop_zero hf).elim
    | succ n1 ih1 =>
      intro w H locs ls hf hH hl
      obtain ⟨z1, hf, hk1⟩ := am_loop_succ hf
      have hf : f_X10_nextSign_0b  w = some z1 := hf
      unfold f_X10_nextSign_0b at hf
      refine lv_aload_n hx hb dX10_nextSign_0 rfl (lv_at hl 0 rfl) ?_
      refine am_get hx hb hts hK hown hH (am_o10 (p := 1) (by decide +kernel)) rfl am_inX10 2 (by decide) am_q50 (v := .int (w.1 1 2)) rfl dX10_nextSign_1 ?_
      refine lv_aload_n hx hb dX10_nextSign_4 rfl (lv_at hl 0 rfl) ?_
      refine am_get hx hb hts hK hown hH (am_o10 (p := 1) (by decide +kernel)) rfl am_inX10 1 (by decide) am_q47 (v := .int (w.1 1 1)) rfl dX10_nextSign_5 ?_
      refine lv_icmp_ge (tgt := 38) hx hb dX10_nextSign_8 (by decide) (fun hc_10 => ?_) (fun hc_10 => ?_)
      · have hf := (if_pos hc_10).symm.trans hf
        obtain ⟨y_11, hf, hzy_11⟩ := am_x_some hf
        rw [hzy_11] at hk1
        have hf := hf.trans (congrArg some (show y_11 = (rr, ww) from hk1))
        exact P38 w H locs ls hf hH (lv_sub hl [0] rfl)
      · have hf := (if_neg hc_10).symm.trans hf
        refine lv_aload_n hx hb dX10_nextSign_11 rfl (lv_at hl 0 rfl) ?_
        refine am_get hx hb hts hK hown hH (am_o10 (p := 1) (by decide +kernel)) rfl am_inX10 0 (by decide) am_q45 (v := .ref (G.1 + 2)) rfl dX10_nextSign_12 ?_
        refine lv_aload_n hx hb dX10_nextSign_15 rfl (lv_at hl 0 rfl) ?_
        refine am_get hx hb hts hK hown hH (am_o10 (p := 1) (by decide +kernel)) rfl am_inX10 2 (by decide) am_q50 (v := .int (w.1 1 2)) rfl dX10_nextSign_16 ?_
        obtain ⟨hi_12, hf⟩ := am_chk_some hf
        refine am_cald hx hb hK hH (am_ac_of (N := 240) (by decide +kernel)) hi_12 dX10_nextSign_19 ?_
        refine lv_bipush (v := 32) hx hb dX10_nextSign_20 (by decide) ?_
        refine lv_icmp_ne (tgt := 38) hx hb dX10_nextSign_22 (by decide) (fun hc_13 => ?_) (fun hc_13 => ?_)
        · have hf := (if_neg hc_13).symm.trans hf
          obtain ⟨y_14, hf, hzy_14⟩ := am_x_some hf
          rw [hzy_14] at hk1
          have hf := hf.trans (congrArg some (show y_14 = (rr, ww) from hk1))
          exact P38 w H locs ls hf hH (lv_sub hl [0] rfl)
        · have hf := (if_pos hc_13).symm.trans hf
          refine lv_aload_n hx hb dX10_nextSign_25 rfl (lv_at hl 0 rfl) ?_
          refine lv_dup hx hb dX10_nextSign_26 rfl ?_
          refine am_get hx hb hts hK hown hH (am_o10 (p := 1) (by decide +kernel)) rfl am_inX10 2 (by decide) am_q50 (v := .int (w.1 1 2)) rfl dX10_nextSign_27 ?_
          refine lv_iconst (v := 1) hx hb dX10_nextSign_30 (by decide) ?_
          refine lv_iadd hx hb dX10_nextSign_31 ?_
          obtain ⟨w_15, hw_15, hf⟩ := am_v_some hf
          refine am_puti hx hb hts hK hown hH (am_o10 (p := 1) (by decide +kernel)) rfl am_inX10 tyX10 tyX10_ok nmX10 2 (by decide) am_q50 rfl rfl rfl (fun _ _ => Nat.le_of_ble_eq_true rfl) (fun _ _ _ => rfl) dX10_nextSign_32 (fun H locs hH => ?_)
          rw [← hw_15] at hH
          refine lv_goto (tgt := 0) hx hb dX10_nextSign_35 (by decide) ?_
          obtain rfl := Option.some.inj hf
          exact ih1  w_15 H locs ls hk1 hH (lv_sub hl [0] rfl)
  refine am_enter (lv := [(0, .ref (G.1 + 1))]) (Nat.le_of_ble_eq_true rfl) rfl (fun ls hl => ?_)
  unfold f_X10_nextSign at hf
  refine am_start hH (fun H locs hH => ?_)
  exact P0 am_fuel w H locs ls hf hH (lv_sub hl [0] rfl)

def f_J1_canEncode_9a6ad_16 (a0 : Int32) (s0 : Int32) (w : am_S) : Option (Int32 × am_S) :=
  am_nar .boolean s0 (some (s0, w))
def f_J1_canEncode_9a6ad_15 (a0 : Int32) (w : am_S) : Option (Int32 × am_S) :=
  f_J1_canEncode_9a6ad_16 a0 (0 : Int32) w
def f_J1_canEncode_9a6ad (a0 : Int32) (w : am_S) : Option (Int32 × am_S) :=
  if a0 < 0 then (f_J1_canEncode_9a6ad_15 a0 w) else (if (255 : Int32) < a0 then (f_J1_canEncode_9a6ad_15 a0 w) else (f_J1_canEncode_9a6ad_16 a0 (1 : Int32) w))
set_option maxRecDepth 100000 in
set_option maxHeartbeats 4000000 in
theorem k_J1_canEncode_9a6ad {G : am_G} {l : Launch} {a0 : Int32}  {w : am_S} {rr : Int32} {ww : am_S} (hf : f_J1_canEncode_9a6ad a0 w = some (rr, ww)) : am_Mi G l yJ1_canEncode_9a6ad (Cond.code yJ1_canEncode_9a6ad cJ1_canEncode_9a6ad 1 (some .boolean) :: am_T) { frames := 0, cells := 0, slots := 0, locals := 0 } [.int a0] w rr ww := by
  refine Met.ofW (cc := cJ1_canEncode_9a6ad) (maxL := 1) (ret := (some .boolean)) (by decide) rfl ?_
  intro p e s m args below meth c s₁ B hml hv
  obtain ⟨rfl, hx, hb, hr, hts, hown, hlocks, hK, hE, hH⟩ := am_begin B hv
  have hown : s.vm.findClass RJ1 = some m.cls := hown
  show W p l e { frames := 0, cells := 0, slots := 0, locals := 0 } s m _ below meth c s.heap [] 0 0 _ _
  have P16 : ∀ (s0 : Int32) (w : am_S) (H : Heap) (locs : List Loc) (ls : Array Slot), f_J1_canEncode_9a6ad_16 a0 s0 w = some (rr, ww) → am_H G w s H locs → lv_has ls 1 [] → W p l e { frames := 0, cells := 0, slots := 0, locals := 0 } s m [.int a0].toArray below meth c H locs 0 0 (MQ below (va_Qi (fun (x : Int32) (u : am_S) => x = rr ∧ u = ww) (am_U G) (am_A G)) [.int a0].toArray s 0 0 (am_A G)) (F0 m 16 ls [.int s0]) := by
    intro s0 w H locs ls hf hH hl
    unfold f_J1_canEncode_9a6ad_16 at hf
    obtain ⟨hr_3, hf⟩ := am_nar_some hf
    exact am_retz hx hb hr hr_3.1 hlocks hH hf dJ1_canEncode_9a6ad_16
  have P15 : ∀ (w : am_S) (H : Heap) (locs : List Loc) (ls : Array Slot), f_J1_canEncode_9a6ad_15 a0 w = some (rr, ww) → am_H G w s H locs → lv_has ls 1 [] → W p l e { frames := 0, cells := 0, slots := 0, locals := 0 } s m [.int a0].toArray below meth c H locs 0 0 (MQ below (va_Qi (fun (x : Int32) (u : am_S) => x = rr ∧ u = ww) (am_U G) (am_A G)) [.int a0].toArray s 0 0 (am_A G)) (F0 m 15 ls []) := by
    intro w H locs ls hf hH hl
    unfold f_J1_canEncode_9a6ad_15 at hf
    refine lv_iconst (v := 0) hx hb dJ1_canEncode_9a6ad_15 (by decide) ?_
    exact P16 (0 : Int32) w H locs ls hf hH (lv_sub hl [] rfl)
  refine am_enter (lv := [(0, .int a0)]) (Nat.le_of_ble_eq_true rfl) rfl (fun ls hl => ?_)
  unfold f_J1_canEncode_9a6ad at hf
  refine am_start hH (fun H locs hH => ?_)
  refine lv_iload_n hx hb dJ1_canEncode_9a6ad_0 rfl (lv_at hl 0 rfl) ?_
  refine lv_if_lt (tgt := 15) hx hb dJ1_canEncode_9a6ad_1 (by decide) (fun hc_4 => ?_) (fun hc_4 => ?_)
  · have hf := (if_pos hc_4).symm.trans hf
    exact P15 w H locs ls hf hH (lv_sub hl [] rfl)
  · have hf := (if_neg hc_4).symm.trans hf
    refine lv_iload_n hx hb dJ1_canEncode_9a6ad_4 rfl (lv_at hl 0 rfl) ?_
    refine lv_sipush (v := 255) hx hb dJ1_canEncode_9a6ad_5 (by decide) ?_
    refine lv_icmp_gt (tgt := 15) hx hb dJ1_canEncode_9a6ad_8 (by decide) (fun hc_5 => ?_) (fun hc_5 => ?_)
    · have hf := (if_pos hc_5).symm.trans hf
      exact P15 w H locs ls hf hH (lv_sub hl [] rfl)
    · have hf := (if_neg hc_5).symm.trans hf
      refine lv_iconst (v := 1) hx hb dJ1_canEncode_9a6ad_11 (by decide) ?_
      refine lv_goto (tgt := 16) hx hb dJ1_canEncode_9a6ad_12 (by decide) ?_
      exact P16 (1 : Int32) w H locs ls hf hH (lv_sub hl [] rfl)

def f_J9_max_7cf53_10 (a0 : Int32) (a1 : Int32) (s0 : Int32) (w : am_S) : Option (Int32 × am_S) :=
  some (s0, w)
def f_J9_max_7cf53 (a0 : Int32) (a1 : Int32) (w : am_S) : Option (Int32 × am_S) :=
  if a0 < a1 then (f_J9_max_7cf53_10 a0 a1 a1 w) else (f_J9_max_7cf53_10 a0 a1 a0 w)
set_option maxRecDepth 100000 in
set_option maxHeartbeats 4000000 in
theorem k_J9_max_7cf53 {G : am_G} {l : Launch} {a0 : Int32} {a1 : Int32}  {w : am_S} {rr : Int32} {ww : am_S} (hf : f_J9_max_7cf53 a0 a1 w = some (rr, ww)) : am_Mi G l yJ9_max_7cf53 (Cond.code yJ9_max_7cf53 cJ9_max_7cf53 2 (some .int) :: am_T) { frames := 0, cells := 0, slots := 0, locals := 0 } [.int a0, .int a1] w rr ww := by
  refine va_MetF (cc := cJ9_max_7cf53) (maxL := 2) (ret := (some .int)) (by decide +kernel) rfl ?_
  intro p e s m args below meth c s₁ B hml hv
  obtain ⟨rfl, hx, hb, hr, hts, hown, hlocks, hK, hE, hH⟩ := am_begin B hv
  have hown : s.vm.findClass RJ9 = some m.cls := hown
  show W p l e { frames := 0, cells := 0, slots := 0, locals := 0 } s m _ below meth c s.heap [] 0 0 _ _
  have P10 : ∀ (s0 : Int32) (w : am_S) (H : Heap) (locs : List Loc) (ls : Array Slot), f_J9_max_7cf53_10 a0 a1 s0 w = some (rr, ww) → am_H G w s H locs → lv_has ls 2 [] → W p l e { frames := 0, cells := 0, slots := 0, locals := 0 } s m [.int a0, .int a1].toArray below meth c H locs 0 0 (MQ below (va_Qi (fun (x : Int32) (u : am_S) => x = rr ∧ u = ww) (am_U G) (am_A G)) [.int a0, .int a1].toArray s 0 0 (am_A G)) (F0 m 10 ls [.int s0]) := by
    intro s0 w H locs ls hf hH hl
    unfold f_J9_max_7cf53_10 at hf
    exact am_reti hx hb hr hlocks hH hf dJ9_max_7cf53_10
  refine am_enter (lv := [(0, .int a0), (1, .int a1)]) (Nat.le_of_ble_eq_true rfl) rfl (fun ls hl => ?_)
  unfold f_J9_max_7cf53 at hf
  refine am_start hH (fun H locs hH => ?_)
  refine lv_iload_n hx hb dJ9_max_7cf53_0 rfl (lv_at hl 0 rfl) ?_
  refine lv_iload_n hx hb dJ9_max_7cf53_1 rfl (lv_at hl 1 rfl) ?_
  refine lv_icmp_lt (tgt := 9) hx hb dJ9_max_7cf53_2 (by decide) (fun hc_2 => ?_) (fun hc_2 => ?_)
  · have hf := (if_pos hc_2).symm.trans hf
    refine lv_iload_n hx hb dJ9_max_7cf53_9 rfl (lv_at hl 1 rfl) ?_
    exact P10 a1 w H locs ls hf hH (lv_sub hl [] rfl)
  · have hf := (if_neg hc_2).symm.trans hf
    refine lv_iload_n hx hb dJ9_max_7cf53_5 rfl (lv_at hl 0 rfl) ?_
    refine lv_goto (tgt := 10) hx hb dJ9_max_7cf53_6 (by decide) ?_
    exact P10 a0 w H locs ls hf hH (lv_sub hl [] rfl)

def f_X10_isDigitHere_44  (s0 : Int32) (w : am_S) : Option (Int32 × am_S) :=
  am_nar .boolean s0 (some (s0, w))
def f_X10_isDigitHere_43  (w : am_S) : Option (Int32 × am_S) :=
  f_X10_isDigitHere_44 (0 : Int32) w
def f_X10_isDigitHere  (w : am_S) : Option (Int32 × am_S) :=
  if (w.1 1 1) ≤ (w.1 1 2) then (f_X10_isDigitHere_43 w) else (am_chk (w.1 1 2) 240 (if (w.1 2 (w.1 1 2).toNatClampNeg) < (48 : Int32) then (f_X10_isDigitHere_43 w) else (am_chk (w.1 1 2) 240 (if (57 : Int32) < (w.1 2 (w.1 1 2).toNatClampNeg) then (f_X10_isDigitHere_43 w) else (f_X10_isDigitHere_44 (1 : Int32) w)))))
set_option maxRecDepth 100000 in
set_option maxHeartbeats 4000000 in
theorem k_X10_isDigitHere {G : am_G} {l : Launch}   {w : am_S} {rr : Int32} {ww : am_S} (hf : f_X10_isDigitHere  w = some (rr, ww)) : am_Mi G l yX10_isDigitHere (Cond.code yX10_isDigitHere cX10_isDigitHere 1 (some .boolean) :: am_T) { frames := 0, cells := 0, slots := 0, locals := 0 } [.ref (G.1 + 1)] w rr ww := by
  refine Met.ofW (cc := cX10_isDigitHere) (maxL := 1) (ret := (some .boolean)) (by decide) rfl ?_
  intro p e s m args below meth c s₁ B hml hv
  obtain ⟨rfl, hx, hb, hr, hts, hown, hlocks, hK, hE, hH⟩ := am_begin B hv
  have hown : s.vm.findClass RX10 = some m.cls := hown
  show W p l e { frames := 0, cells := 0, slots := 0, locals := 0 } s m _ below meth c s.heap [] 0 0 _ _
  have P44 : ∀ (s0 : Int32) (w : am_S) (H : Heap) (locs : List Loc) (ls : Array Slot), f_X10_isDigitHere_44 s0 w = some (rr, ww) → am_H G w s H locs → lv_has ls 1 [] → W p l e { frames := 0, cells := 0, slots := 0, locals := 0 } s m [.ref (G.1 + 1)].toArray below meth c H locs 0 0 (MQ below (va_Qi (fun (x : Int32) (u : am_S) => x = rr ∧ u = ww) (am_U G) (am_A G)) [.ref (G.1 + 1)].toArray s 0 0 (am_A G)) (F0 m 44 ls [.int s0]) := by
    intro s0 w H locs ls hf hH hl
    unfold f_X10_isDigitHere_44 at hf
    obtain ⟨hr_6, hf⟩ := am_nar_some hf
    exact am_retz hx hb hr hr_6.1 hlocks hH hf dX10_isDigitHere_44
  have P43 : ∀ (w : am_S) (H : Heap) (locs : List Loc) (ls : Array Slot), f_X10_isDigitHere_43 w = some (rr, ww) → am_H G w s H locs → lv_has ls 1 [] → W p l e { frames := 0, cells := 0, slots := 0, locals := 0 } s m [.ref (G.1 + 1)].toArray below meth c H locs 0 0 (MQ below (va_Qi (fun (x : Int32) (u : am_S) => x = rr ∧ u = ww) (am_U G) (am_A G)) [.ref (G.1 + 1)].toArray s 0 0 (am_A G)) (F0 m 43 ls []) := by
    intro w H locs ls hf hH hl
    unfold f_X10_isDigitHere_43 at hf
    refine lv_iconst (v := 0) hx hb dX10_isDigitHere_43 (by decide) ?_
    exact P44 (0 : Int32) w H locs ls hf hH (lv_sub hl [] rfl)
  refine am_enter (lv := [(0, .ref (G.1 + 1))]) (Nat.le_of_ble_eq_true rfl) rfl (fun ls hl => ?_)
  unfold f_X10_isDigitHere at hf
  refine am_start hH (fun H locs hH => ?_)
  refine lv_aload_n hx hb dX10_isDigitHere_0 rfl (lv_at hl 0 rfl) ?_
  refine am_get hx hb hts hK hown hH (am_o10 (p := 1) (by decide +kernel)) rfl am_inX10 2 (by decide) am_q50 (v := .int (w.1 1 2)) rfl dX10_isDigitHere_1 ?_
  refine lv_aload_n hx hb dX10_isDigitHere_4 rfl (lv_at hl 0 rfl) ?_
  refine am_get hx hb hts hK hown hH (am_o10 (p := 1) (by decide +kernel)) rfl am_inX10 1 (by decide) am_q47 (v := .int (w.1 1 1)) rfl dX10_isDigitHere_5 ?_
  refine lv_icmp_ge (tgt := 43) hx hb dX10_isDigitHere_8 (by decide) (fun hc_7 => ?_) (fun hc_7 => ?_)
  · have hf := (if_pos hc_7).symm.trans hf
    exact P43 w H locs ls hf hH (lv_sub hl [] rfl)
  · have hf := (if_neg hc_7).symm.trans hf
    refine lv_aload_n hx hb dX10_isDigitHere_11 rfl (lv_at hl 0 rfl) ?_
    refine am_get hx hb hts hK hown hH (am_o10 (p := 1) (by decide +kernel)) rfl am_inX10 0 (by decide) am_q45 (v := .ref (G.1 + 2)) rfl dX10_isDigitHere_12 ?_
    refine lv_aload_n hx hb dX10_isDigitHere_15 rfl (lv_at hl 0 rfl) ?_
    refine am_get hx hb hts hK hown hH (am_o10 (p := 1) (by decide +kernel)) rfl am_inX10 2 (by decide) am_q50 (v := .int (w.1 1 2)) rfl dX10_isDigitHere_16 ?_
    obtain ⟨hi_8, hf⟩ := am_chk_some hf
    refine am_cald hx hb hK hH (am_ac_of (N := 240) (by decide +kernel)) hi_8 dX10_isDigitHere_19 ?_
    refine lv_bipush (v := 48) hx hb dX10_isDigitHere_20 (by decide) ?_
    refine lv_icmp_lt (tgt := 43) hx hb dX10_isDigitHere_22 (by decide) (fun hc_9 => ?_) (fun hc_9 => ?_)
    · have hf := (if_pos hc_9).symm.trans hf
      exact P43 w H locs ls hf hH (lv_sub hl [] rfl)
    · have hf := (if_neg hc_9).symm.trans hf
      refine lv_aload_n hx hb dX10_isDigitHere_25 rfl (lv_at hl 0 rfl) ?_
      refine am_get hx hb hts hK hown hH (am_o10 (p := 1) (by decide +kernel)) rfl am_inX10 0 (by decide) am_q45 (v := .ref (G.1 + 2)) rfl dX10_isDigitHere_26 ?_
      refine lv_aload_n hx hb dX10_isDigitHere_29 rfl (lv_at hl 0 rfl) ?_
      refine am_get hx hb hts hK hown hH (am_o10 (p := 1) (by decide +kernel)) rfl am_inX10 2 (by decide) am_q50 (v := .int (w.1 1 2)) rfl dX10_isDigitHere_30 ?_
      obtain ⟨hi_10, hf⟩ := am_chk_some hf
      refine am_cald hx hb hK hH (am_ac_of (N := 240) (by decide +kernel)) hi_10 dX10_isDigitHere_33 ?_
      refine lv_bipush (v := 57) hx hb dX10_isDigitHere_34 (by decide) ?_
      refine lv_icmp_gt (tgt := 43) hx hb dX10_isDigitHere_36 (by decide) (fun hc_11 => ?_) (fun hc_11 => ?_)
      · have hf := (if_pos hc_11).symm.trans hf
        exact P43 w H locs ls hf hH (lv_sub hl [] rfl)
      · have hf := (if_neg hc_11).symm.trans hf
        refine lv_iconst (v := 1) hx hb dX10_isDigitHere_39 (by decide) ?_
        refine lv_goto (tgt := 44) hx hb dX10_isDigitHere_40 (by decide) ?_
        exact P44 (1 : Int32) w H locs ls hf hH (lv_sub hl [] rfl)

def f_X10_readNumber_96 (a1 : Int32) (a2 : Int32) (w : am_S) : Option (Int32 × am_S) :=
  am_v (am_pi w 1 2 ((w.1 1 2) - (1 : Int32))) fun (w_22 : am_S) => some ((0 : Int32), w_22)
def f_X10_readNumber_80 (a1 : Int32) (a2 : Int32) (w : am_S) : Option (Int32 × am_S) :=
  if (w.1 1 3) < a1 then (f_X10_readNumber_96 a1 a2 w) else (if (w.1 1 3) ≤ a2 then (some ((1 : Int32), w)) else (f_X10_readNumber_96 a1 a2 w))
def f_X10_readNumber_21b (a1 : Int32) (a2 : Int32) (x3 : Int32) (w : am_S) : Option ((Int32 × am_S) ⊕ (Int32 × am_S)) :=
  if (4 : Int32) < x3 then (am_x (f_X10_readNumber_80 a1 a2 w)) else (am_b2 (f_X10_isDigitHere w) fun r_29 w_27 => if r_29 = 0 then (am_x (f_X10_readNumber_80 a1 a2 w_27)) else (if x3 = (4 : Int32) then (am_x (some ((0 : Int32), w_27))) else (am_chk (w_27.1 1 2) 240 (am_v (am_pi w_27 1 3 (((w_27.1 1 3) * (10 : Int32)) + ((w_27.1 2 (w_27.1 1 2).toNatClampNeg) - (48 : Int32)))) fun (w_34 : am_S) => am_v (am_pi w_34 1 2 ((w_34.1 1 2) + (1 : Int32))) fun (w_35 : am_S) => am_v (x3 + (1 : Int32)) fun (x3_36 : Int32) => some (.inr (x3_36, w_35))))))
def f_X10_readNumber_21 (a1 : Int32) (a2 : Int32) (x3 : Int32) (w : am_S) : Option (Int32 × am_S) :=
  am_loop (fun (st : (Int32 × am_S)) => f_X10_readNumber_21b a1 a2 st.1 st.2) am_fuel (x3, w)
def f_X10_readNumber (a1 : Int32) (a2 : Int32) (w : am_S) : Option (Int32 × am_S) :=
  am_b2 (f_X10_nextSign w) fun r_40 w_38 => am_b2 (f_X10_isDigitHere w_38) fun r_43 w_41 => if r_43 = 0 then (some ((0 : Int32), w_41)) else (am_v (am_pi w_41 1 3 (0 : Int32)) fun (w_45 : am_S) => f_X10_readNumber_21 a1 a2 (0 : Int32) w_45)
set_option maxRecDepth 100000 in
set_option maxHeartbeats 4000000 in
theorem k_X10_readNumber {G : am_G} {l : Launch} {a1 : Int32} {a2 : Int32}  {w : am_S} {rr : Int32} {ww : am_S} (hf : f_X10_readNumber a1 a2 w = some (rr, ww)) : am_Mi G l yX10_readNumber (Cond.code yX10_readNumber cX10_readNumber 4 (some .boolean) :: am_T) { frames := 1, cells := 0, slots := 0, locals := 64 } [.ref (G.1 + 1), .int a1, .int a2] w rr ww := by
  refine Met.ofW (cc := cX10_readNumber) (maxL := 4) (ret := (some .boolean)) (by decide) rfl ?_
  intro p e s m args below meth c s₁ B hml hv
  obtain ⟨rfl, hx, hb, hr, hts, hown, hlocks, hK, hE, hH⟩ := am_begin B hv
  have hown : s.vm.findClass RX10 = some m.cls := hown
  show W p l e { frames := 1, cells := 0, slots := 0, locals := 64 } s m _ below meth c s.heap [] 0 0 _ _
  have P96 : ∀ (w : am_S) (H : Heap) (locs : List Loc) (ls : Array Slot), f_X10_readNumber_96 a1 a2 w = some (rr, ww) → am_H G w s H locs → lv_has ls 4 [(0, .ref (G.1 + 1))] → W p l e { frames := 1, cells := 0, slots := 0, locals := 64 } s m [.ref (G.1 + 1), .int a1, .int a2].toArray below meth c H locs 0 0 (MQ below (va_Qi (fun (x : Int32) (u : am_S) => x = rr ∧ u = ww) (am_U G) (am_A G)) [.ref (G.1 + 1), .int a1, .int a2].toArray s 0 0 (am_A G)) (F0 m 96 ls []) := by
    intro w H locs ls hf hH hl
    unfold f_X10_readNumber_96 at hf
    refine lv_aload_n hx hb dX10_readNumber_96 rfl (lv_at hl 0 rfl) ?_
    refine lv_dup hx hb dX10_readNumber_97 rfl ?_
    refine am_get hx hb hts hK hown hH (am_o10 (p := 1) (by decide +kernel)) rfl am_inX10 2 (by decide) am_q50 (v := .int (w.1 1 2)) rfl dX10_readNumber_98 ?_
    refine lv_iconst (v := 1) hx hb dX10_readNumber_101 (by decide) ?_
    refine lv_isub hx hb dX10_readNumber_102 ?_
    obtain ⟨w_22, hw_22, hf⟩ := am_v_some hf
    refine am_puti hx hb hts hK hown hH (am_o10 (p := 1) (by decide +kernel)) rfl am_inX10 tyX10 tyX10_ok nmX10 2 (by decide) am_q50 rfl rfl rfl (fun _ _ => Nat.le_of_ble_eq_true rfl) (fun _ _ _ => rfl) dX10_readNumber_103 (fun H locs hH => ?_)
    rw [← hw_22] at hH
    refine lv_iconst (v := 0) hx hb dX10_readNumber_106 (by decide) ?_
    exact am_retz hx hb hr rfl hlocks hH hf dX10_readNumber_107
  have P80 : ∀ (w : am_S) (H : Heap) (locs : List Loc) (ls : Array Slot), f_X10_readNumber_80 a1 a2 w = some (rr, ww) → am_H G w s H locs → lv_has ls 4 [(0, .ref (G.1 + 1)), (1, .int a1), (2, .int a2)] → W p l e { frames := 1, cells := 0, slots := 0, locals := 64 } s m [.ref (G.1 + 1), .int a1, .int a2].toArray below meth c H locs 0 0 (MQ below (va_Qi (fun (x : Int32) (u : am_S) => x = rr ∧ u = ww) (am_U G) (am_A G)) [.ref (G.1 + 1), .int a1, .int a2].toArray s 0 0 (am_A G)) (F0 m 80 ls []) := by
    intro w H locs ls hf hH hl
    unfold f_X10_readNumber_80 at hf
    refine lv_aload_n hx hb dX10_readNumber_80 rfl (lv_at hl 0 rfl) ?_
    refine am_get hx hb hts hK hown hH (am_o10 (p := 1) (by decide +kernel)) rfl am_inX10 3 (by decide) am_q53 (v := .int (w.1 1 3)) rfl dX10_readNumber_81 ?_
    refine lv_iload_n hx hb dX10_readNumber_84 rfl (lv_at hl 1 rfl) ?_
    refine lv_icmp_lt (tgt := 96) hx hb dX10_readNumber_85 (by decide) (fun hc_23 => ?_) (fun hc_23 => ?_)
    · have hf := (if_pos hc_23).symm.trans hf
      exact P96 w H locs ls hf hH (lv_sub hl [0] rfl)
    · have hf := (if_neg hc_23).symm.trans hf
      refine lv_aload_n hx hb dX10_readNumber_88 rfl (lv_at hl 0 rfl) ?_
      refine am_get hx hb hts hK hown hH (am_o10 (p := 1) (by decide +kernel)) rfl am_inX10 3 (by decide) am_q53 (v := .int (w.1 1 3)) rfl dX10_readNumber_89 ?_
      refine lv_iload_n hx hb dX10_readNumber_92 rfl (lv_at hl 2 rfl) ?_
      refine lv_icmp_le (tgt := 108) hx hb dX10_readNumber_93 (by decide) (fun hc_24 => ?_) (fun hc_24 => ?_)
      · have hf := (if_pos hc_24).symm.trans hf
        refine lv_iconst (v := 1) hx hb dX10_readNumber_108 (by decide) ?_
        exact am_retz hx hb hr rfl hlocks hH hf dX10_readNumber_109
      · have hf := (if_neg hc_24).symm.trans hf
        exact P96 w H locs ls hf hH (lv_sub hl [0] rfl)
  have P21 : ∀ (n1 : Nat) (x3 : Int32) (w : am_S) (H : Heap) (locs : List Loc) (ls : Array Slot), am_loop (fun (st : (Int32 × am_S)) => f_X10_readNumber_21b a1 a2 st.1 st.2) n1 (x3, w) = some (rr, ww) → am_H G w s H locs → lv_has ls 4 [(0, .ref (G.1 + 1)), (1, .int a1), (2, .int a2), (3, .int x3)] → W p l e { frames := 1, cells := 0, slots := 0, locals := 64 } s m [.ref (G.1 + 1), .int a1, .int a2].toArray below meth c H locs 0 0 (MQ below (va_Qi (fun (x : Int32) (u : am_S) => x = rr ∧ u = ww) (am_U G) (am_A G)) [.ref (G.1 + 1), .int a1, .int a2].toArray s 0 0 (am_A G)) (F0 m 21 ls []) := by
    intro n1
    induction n1 with
    | zero =>
      intro x3 w H locs ls hf hH hl
      exact (am_loop_zero hf).elim
    | succ n1 ih1 =>
      intro x3 w H locs ls hf hH hl
      obtain ⟨z1, hf, hk1⟩ := am_loop_succ hf
      have hf : f_X10_readNumber_21b a1 a2 x3 w = some z1 := hf
      unfold f_X10_readNumber_21b at hf
      refine lv_iload_n hx hb dX10_readNumber_21 rfl (lv_at hl 3 rfl) ?_
      refine lv_iconst (v := 4) hx hb dX10_readNumber_22 (by decide) ?_
      refine lv_icmp_gt (tgt := 80) hx hb dX10_readNumber_23 (by decide) (fun hc_25 => ?_) (fun hc_25 => ?_)
      · have hf := (if_pos hc_25).symm.trans hf
        obtain ⟨y_26, hf, hzy_26⟩ := am_x_some hf
        rw [hzy_26] at hk1
        have hf := hf.trans (congrArg some (show y_26 = (rr, ww) from hk1))
        exact P80 w H locs ls hf hH (lv_sub hl [0, 1, 2] rfl)
      · have hf := (if_neg hc_25).symm.trans hf
        refine lv_aload_n hx hb dX10_readNumber_26 rfl (lv_at hl 0 rfl) ?_
        obtain ⟨r_29, w_27, hq_28, hf⟩ := am_b2_some hf
        refine am_calli (r := r_29) (w' := w_27) (am_runV (n := 0) (As := []) (rest := []) ⟨hx, hb, hml, hown, hts⟩ hK hE hH (k_X10_isDigitHere hq_28) (am_gV am_q537 am_q539 am_qs4 am_q2 am_q540) (am_o10 (p := 1) (by decide +kernel)) rfl ⟨rfl, rfl⟩ (by decide +kernel) ⟨Nat.le_of_ble_eq_true rfl, Nat.le_of_ble_eq_true rfl⟩ rfl hl.1 rfl (Nat.le_of_ble_eq_true rfl) ⟨Nat.zero_le _, Nat.zero_le _⟩ dX10_readNumber_27) hH (fun H locs hH => ?_)
        refine lv_if_eq (tgt := 80) hx hb dX10_readNumber_30 (by decide) (fun hc_30 => ?_) (fun hc_30 => ?_)
        · have hf := (if_pos hc_30).symm.trans hf
          obtain ⟨y_31, hf, hzy_31⟩ := am_x_some hf
          rw [hzy_31] at hk1
          have hf := hf.trans (congrArg some (show y_31 = (rr, ww) from hk1))
          exact P80 w_27 H locs ls hf hH (lv_sub hl [0, 1, 2] rfl)
        · have hf := (if_neg hc_30).symm.trans hf
          refine lv_iload_n hx hb dX10_readNumber_33 rfl (lv_at hl 3 rfl) ?_
          refine lv_iconst (v := 4) hx hb dX10_readNumber_34 (by decide) ?_
          refine lv_icmp_ne (tgt := 40) hx hb dX10_readNumber_35 (by decide) (fun hc_32 => ?_) (fun hc_32 => ?_)
          · have hf := (if_neg hc_32).symm.trans hf
            refine lv_aload_n hx hb dX10_readNumber_40 rfl (lv_at hl 0 rfl) ?_
            refine lv_aload_n hx hb dX10_readNumber_41 rfl (lv_at hl 0 rfl) ?_
            refine am_get hx hb hts hK hown hH (am_o10 (p := 1) (by decide +kernel)) rfl am_inX10 3 (by decide) am_q53 (v := .int (w_27.1 1 3)) rfl dX10_readNumber_42 ?_
            refine lv_bipush (v := 10) hx hb dX10_readNumber_45 (by decide) ?_
            refine lv_imul hx hb dX10_readNumber_47 ?_
            refine lv_aload_n hx hb dX10_readNumber_48 rfl (lv_at hl 0 rfl) ?_
            refine am_get hx hb hts hK hown hH (am_o10 (p := 1) (by decide +kernel)) rfl am_inX10 0 (by decide) am_q45 (v := .ref (G.1 + 2)) rfl dX10_readNumber_49 ?_
            refine lv_aload_n hx hb dX10_readNumber_52 rfl (lv_at hl 0 rfl) ?_
            refine am_get hx hb hts hK hown hH (am_o10 (p := 1) (by decide +kernel)) rfl am_inX10 2 (by decide) am_q50 (v := .int (w_27.1 1 2)) rfl dX10_readNumber_53 ?_
            obtain ⟨hi_33, hf⟩ := am_chk_some hf
            refine am_cald hx hb hK hH (am_ac_of (N := 240) (by decide +kernel)) hi_33 dX10_readNumber_56 ?_
            refine lv_bipush (v := 48) hx hb dX10_readNumber_57 (by decide) ?_
            refine lv_isub hx hb dX10_readNumber_59 ?_
            refine lv_iadd hx hb dX10_readNumber_60 ?_
            obtain ⟨w_34, hw_34, hf⟩ := am_v_some hf
            refine am_puti hx hb hts hK hown hH (am_o10 (p := 1) (by decide +kernel)) rfl am_inX10 tyX10 tyX10_ok nmX10 3 (by decide) am_q53 rfl rfl rfl (fun _ _ => Nat.le_of_ble_eq_true rfl) (fun _ _ _ => rfl) dX10_readNumber_61 (fun H locs hH => ?_)
            rw [← hw_34] at hH
            refine lv_aload_n hx hb dX10_readNumber_64 rfl (lv_at hl 0 rfl) ?_
            refine lv_dup hx hb dX10_readNumber_65 rfl ?_
            refine am_get hx hb hts hK hown hH (am_o10 (p := 1) (by decide +kernel)) rfl am_inX10 2 (by decide) am_q50 (v := .int (w_34.1 1 2)) rfl dX10_readNumber_66 ?_
            refine lv_iconst (v := 1) hx hb dX10_readNumber_69 (by decide) ?_
            refine lv_iadd hx hb dX10_readNumber_70 ?_
            obtain ⟨w_35, hw_35, hf⟩ := am_v_some hf
            refine am_puti hx hb hts hK hown hH (am_o10 (p := 1) (by decide +kernel)) rfl am_inX10 tyX10 tyX10_ok nmX10 2 (by decide) am_q50 rfl rfl rfl (fun _ _ => Nat.le_of_ble_eq_true rfl) (fun _ _ _ => rfl) dX10_readNumber_71 (fun H locs hH => ?_)
            rw [← hw_35] at hH
            obtain ⟨x3_36, hx3_36, hf⟩ := am_v_some hf
            refine lv_iinc (v := x3_36) (lv' := [(3, .int x3_36), (0, .ref (G.1 + 1)), (1, .int a1), (2, .int a2)]) hx hb dX10_readNumber_74 hl (k := 3) rfl (by rw [hx3_36]; rfl) (by decide) rfl (fun ls hl => ?_)
            refine lv_goto (tgt := 21) hx hb dX10_readNumber_77 (by decide) ?_
            obtain rfl := Option.some.inj hf
            exact ih1 x3_36 w_35 H locs ls hk1 hH (lv_sub hl [1, 2, 3, 0] rfl)
          · have hf := (if_pos hc_32).symm.trans hf
            obtain ⟨y_37, hf, hzy_37⟩ := am_x_some hf
            rw [hzy_37] at hk1
            have hf := hf.trans (congrArg some (show y_37 = (rr, ww) from hk1))
            refine lv_iconst (v := 0) hx hb dX10_readNumber_38 (by decide) ?_
            exact am_retz hx hb hr rfl hlocks hH hf dX10_readNumber_39
  refine am_enter (lv := [(0, .ref (G.1 + 1)), (1, .int a1), (2, .int a2)]) (Nat.le_of_ble_eq_true rfl) rfl (fun ls hl => ?_)
  unfold f_X10_readNumber at hf
  refine am_start hH (fun H locs hH => ?_)
  refine lv_aload_n hx hb dX10_readNumber_0 rfl (lv_at hl 0 rfl) ?_
  obtain ⟨r_40, w_38, hq_39, hf⟩ := am_b2_some hf
  refine am_calli (r := r_40) (w' := w_38) (am_runV (n := 0) (As := []) (rest := []) ⟨hx, hb, hml, hown, hts⟩ hK hE hH (k_X10_nextSign hq_39) (am_gV am_q536 am_q430 am_q431 am_q2 am_q432) (am_o10 (p := 1) (by decide +kernel)) rfl ⟨rfl, rfl⟩ (by decide +kernel) ⟨Nat.le_of_ble_eq_true rfl, Nat.le_of_ble_eq_true rfl⟩ rfl hl.1 rfl (Nat.le_of_ble_eq_true rfl) ⟨Nat.zero_le _, Nat.zero_le _⟩ dX10_readNumber_1) hH (fun H locs hH => ?_)
  refine lv_pop hx hb dX10_readNumber_4 rfl ?_
  refine lv_aload_n hx hb dX10_readNumber_5 rfl (lv_at hl 0 rfl) ?_
  obtain ⟨r_43, w_41, hq_42, hf⟩ := am_b2_some hf
  refine am_calli (r := r_43) (w' := w_41) (am_runV (n := 0) (As := []) (rest := []) ⟨hx, hb, hml, hown, hts⟩ hK hE hH (k_X10_isDigitHere hq_42) (am_gV am_q537 am_q539 am_qs4 am_q2 am_q540) (am_o10 (p := 1) (by decide +kernel)) rfl ⟨rfl, rfl⟩ (by decide +kernel) ⟨Nat.le_of_ble_eq_true rfl, Nat.le_of_ble_eq_true rfl⟩ rfl hl.1 rfl (Nat.le_of_ble_eq_true rfl) ⟨Nat.zero_le _, Nat.zero_le _⟩ dX10_readNumber_6) hH (fun H locs hH => ?_)
  refine lv_if_ne (tgt := 14) hx hb dX10_readNumber_9 (by decide) (fun hc_44 => ?_) (fun hc_44 => ?_)
  · have hf := (if_neg hc_44).symm.trans hf
    refine lv_aload_n hx hb dX10_readNumber_14 rfl (lv_at hl 0 rfl) ?_
    refine lv_iconst (v := 0) hx hb dX10_readNumber_15 (by decide) ?_
    obtain ⟨w_45, hw_45, hf⟩ := am_v_some hf
    refine am_puti hx hb hts hK hown hH (am_o10 (p := 1) (by decide +kernel)) rfl am_inX10 tyX10 tyX10_ok nmX10 3 (by decide) am_q53 rfl rfl rfl (fun _ _ => Nat.le_of_ble_eq_true rfl) (fun _ _ _ => rfl) dX10_readNumber_16 (fun H locs hH => ?_)
    rw [← hw_45] at hH
    refine lv_iconst (v := 0) hx hb dX10_readNumber_19 (by decide) ?_
    refine lv_istore_n (lv' := [(3, .int (0 : Int32)), (0, .ref (G.1 + 1)), (1, .int a1), (2, .int a2)]) hx hb dX10_readNumber_20 rfl hl (by decide) rfl (fun ls hl => ?_)
    exact P21 am_fuel (0 : Int32) w_45 H locs ls hf hH (lv_sub hl [1, 2, 3, 0] rfl)
  · have hf := (if_pos hc_44).symm.trans hf
    refine lv_iconst (v := 0) hx hb dX10_readNumber_12 (by decide) ?_
    exact am_retz hx hb hr rfl hlocks hH hf dX10_readNumber_13

def f_J0_isLatin1_aae02_t3_18  (s0 : Int32) (w : am_S) : Option (Int32 × am_S) :=
  am_nar .boolean s0 (some (s0, w))
def f_J0_isLatin1_aae02_t3_17  (w : am_S) : Option (Int32 × am_S) :=
  f_J0_isLatin1_aae02_t3_18 (0 : Int32) w
def f_J0_isLatin1_aae02_t3  (w : am_S) : Option (Int32 × am_S) :=
  if (1 : Int32) = 0 then (f_J0_isLatin1_aae02_t3_17 w) else (if (0 : Int32) = 0 then (f_J0_isLatin1_aae02_t3_18 (1 : Int32) w) else (f_J0_isLatin1_aae02_t3_17 w))
set_option maxRecDepth 100000 in
set_option maxHeartbeats 4000000 in
theorem k_J0_isLatin1_aae02_t3 {G : am_G} {l : Launch}   {w : am_S} {rr : Int32} {ww : am_S} (hf : f_J0_isLatin1_aae02_t3  w = some (rr, ww)) : am_Mi G l yJ0_isLatin1_aae02 (Cond.code yJ0_isLatin1_aae02 cJ0_isLatin1_aae02 1 (some .boolean) :: am_T) { frames := 0, cells := 0, slots := 0, locals := 0 } [.ref (G.2.2.2.2.1 3)] w rr ww := by
  refine Met.ofW (cc := cJ0_isLatin1_aae02) (maxL := 1) (ret := (some .boolean)) (by decide) rfl ?_
  intro p e s m args below meth c s₁ B hml hv
  obtain ⟨rfl, hx, hb, hr, hts, hown, hlocks, hK, hE, hH⟩ := am_begin B hv
  have hown : s.vm.findClass RJ0 = some m.cls := hown
  show W p l e { frames := 0, cells := 0, slots := 0, locals := 0 } s m _ below meth c s.heap [] 0 0 _ _
  have P18 : ∀ (s0 : Int32) (w : am_S) (H : Heap) (locs : List Loc) (ls : Array Slot), f_J0_isLatin1_aae02_t3_18 s0 w = some (rr, ww) → am_H G w s H locs → lv_has ls 1 [] → W p l e { frames := 0, cells := 0, slots := 0, locals := 0 } s m [.ref (G.2.2.2.2.1 3)].toArray below meth c H locs 0 0 (MQ below (va_Qi (fun (x : Int32) (u : am_S) => x = rr ∧ u = ww) (am_U G) (am_A G)) [.ref (G.2.2.2.2.1 3)].toArray s 0 0 (am_A G)) (F0 m 18 ls [.int s0]) := by
    intro s0 w H locs ls hf hH hl
    unfold f_J0_isLatin1_aae02_t3_18 at hf
    obtain ⟨hr_3, hf⟩ := am_nar_some hf
    exact am_retz hx hb hr hr_3.1 hlocks hH hf dJ0_isLatin1_aae02_18
  have P17 : ∀ (w : am_S) (H : Heap) (locs : List Loc) (ls : Array Slot), f_J0_isLatin1_aae02_t3_17 w = some (rr, ww) → am_H G w s H locs → lv_has ls 1 [] → W p l e { frames := 0, cells := 0, slots := 0, locals := 0 } s m [.ref (G.2.2.2.2.1 3)].toArray below meth c H locs 0 0 (MQ below (va_Qi (fun (x : Int32) (u : am_S) => x = rr ∧ u = ww) (am_U G) (am_A G)) [.ref (G.2.2.2.2.1 3)].toArray s 0 0 (am_A G)) (F0 m 17 ls []) := by
    intro w H locs ls hf hH hl
    unfold f_J0_isLatin1_aae02_t3_17 at hf
    refine lv_iconst (v := 0) hx hb dJ0_isLatin1_aae02_17 (by decide) ?_
    exact P18 (0 : Int32) w H locs ls hf hH (lv_sub hl [] rfl)
  refine am_enter (lv := [(0, .ref (G.2.2.2.2.1 3))]) (Nat.le_of_ble_eq_true rfl) rfl (fun ls hl => ?_)
  unfold f_J0_isLatin1_aae02_t3 at hf
  refine am_start hH (fun H locs hH => ?_)
  refine va_gets hx hb hE.2.2.2.1 hH.2 hown (hts _ am_q453) (fun _ h => h) dJ0_isLatin1_aae02_0 ?_
  refine lv_if_eq (tgt := 17) hx hb dJ0_isLatin1_aae02_3 (by decide) (fun hc_4 => ?_) (fun hc_4 => ?_)
  · have hf := (if_pos hc_4).symm.trans hf
    exact P17 w H locs ls hf hH (lv_sub hl [] rfl)
  · have hf := (if_neg hc_4).symm.trans hf
    refine lv_aload_n hx hb dJ0_isLatin1_aae02_6 rfl (lv_at hl 0 rfl) ?_
    refine vk_getf hx hb (hE.2.1.1 3 (by decide)).2.1 hH.2 hown (hts _ am_q2022) (fun _ h => h) dJ0_isLatin1_aae02_7 ?_
    refine lv_if_ne (tgt := 17) hx hb dJ0_isLatin1_aae02_10 (by decide) (fun hc_5 => ?_) (fun hc_5 => ?_)
    · have hf := (if_neg hc_5).symm.trans hf
      exact P17 w H locs ls hf hH (lv_sub hl [] rfl)
    · have hf := (if_pos hc_5).symm.trans hf
      refine lv_iconst (v := 1) hx hb dJ0_isLatin1_aae02_13 (by decide) ?_
      refine lv_goto (tgt := 18) hx hb dJ0_isLatin1_aae02_14 (by decide) ?_
      exact P18 (1 : Int32) w H locs ls hf hH (lv_sub hl [] rfl)

def f_J0_coder_7d493_t3_14  (s0 : Int32) (w : am_S) : Option (Int32 × am_S) :=
  am_nar .byte s0 (some (s0, w))
def f_J0_coder_7d493_t3  (w : am_S) : Option (Int32 × am_S) :=
  if (1 : Int32) = 0 then (f_J0_coder_7d493_t3_14 (1 : Int32) w) else (f_J0_coder_7d493_t3_14 (0 : Int32) w)
set_option maxRecDepth 100000 in
set_option maxHeartbeats 4000000 in
theorem k_J0_coder_7d493_t3 {G : am_G} {l : Launch}   {w : am_S} {rr : Int32} {ww : am_S} (hf : f_J0_coder_7d493_t3  w = some (rr, ww)) : am_Mi G l yJ0_coder_7d493 (Cond.code yJ0_coder_7d493 cJ0_coder_7d493 1 (some .byte) :: am_T) { frames := 0, cells := 0, slots := 0, locals := 0 } [.ref (G.2.2.2.2.1 3)] w rr ww := by
  refine Met.ofW (cc := cJ0_coder_7d493) (maxL := 1) (ret := (some .byte)) (by decide) rfl ?_
  intro p e s m args below meth c s₁ B hml hv
  obtain ⟨rfl, hx, hb, hr, hts, hown, hlocks, hK, hE, hH⟩ := am_begin B hv
  have hown : s.vm.findClass RJ0 = some m.cls := hown
  show W p l e { frames := 0, cells := 0, slots := 0, locals := 0 } s m _ below meth c s.heap [] 0 0 _ _
  have P14 : ∀ (s0 : Int32) (w : am_S) (H : Heap) (locs : List Loc) (ls : Array Slot), f_J0_coder_7d493_t3_14 s0 w = some (rr, ww) → am_H G w s H locs → lv_has ls 1 [] → W p l e { frames := 0, cells := 0, slots := 0, locals := 0 } s m [.ref (G.2.2.2.2.1 3)].toArray below meth c H locs 0 0 (MQ below (va_Qi (fun (x : Int32) (u : am_S) => x = rr ∧ u = ww) (am_U G) (am_A G)) [.ref (G.2.2.2.2.1 3)].toArray s 0 0 (am_A G)) (F0 m 14 ls [.int s0]) := by
    intro s0 w H locs ls hf hH hl
    unfold f_J0_coder_7d493_t3_14 at hf
    obtain ⟨hr_2, hf⟩ := am_nar_some hf
    exact am_retz hx hb hr hr_2.1 hlocks hH hf dJ0_coder_7d493_14
  refine am_enter (lv := [(0, .ref (G.2.2.2.2.1 3))]) (Nat.le_of_ble_eq_true rfl) rfl (fun ls hl => ?_)
  unfold f_J0_coder_7d493_t3 at hf
  refine am_start hH (fun H locs hH => ?_)
  refine va_gets hx hb hE.2.2.2.1 hH.2 hown (hts _ am_q453) (fun _ h => h) dJ0_coder_7d493_0 ?_
  refine lv_if_eq (tgt := 13) hx hb dJ0_coder_7d493_3 (by decide) (fun hc_3 => ?_) (fun hc_3 => ?_)
  · have hf := (if_pos hc_3).symm.trans hf
    refine lv_iconst (v := 1) hx hb dJ0_coder_7d493_13 (by decide) ?_
    exact P14 (1 : Int32) w H locs ls hf hH (lv_sub hl [] rfl)
  · have hf := (if_neg hc_3).symm.trans hf
    refine lv_aload_n hx hb dJ0_coder_7d493_6 rfl (lv_at hl 0 rfl) ?_
    refine vk_getf hx hb (hE.2.1.1 3 (by decide)).2.1 hH.2 hown (hts _ am_q2022) (fun _ h => h) dJ0_coder_7d493_7 ?_
    refine lv_goto (tgt := 14) hx hb dJ0_coder_7d493_10 (by decide) ?_
    exact P14 (0 : Int32) w H locs ls hf hH (lv_sub hl [] rfl)

def f_J0_length_8abf5_t3  (w : am_S) : Option (Int32 × am_S) :=
  am_b2 (f_J0_coder_7d493_t3 w) fun r_6 w_4 => some ((6 : Int32) >>> (r_6 &&& 31), w_4)
set_option maxRecDepth 100000 in
set_option maxHeartbeats 4000000 in
theorem k_J0_length_8abf5_t3 {G : am_G} {l : Launch}   {w : am_S} {rr : Int32} {ww : am_S} (hf : f_J0_length_8abf5_t3  w = some (rr, ww)) : am_Mi G l yJ0_length_8abf5 (Cond.code yJ0_length_8abf5 cJ0_length_8abf5 1 (some .int) :: am_T) { frames := 1, cells := 0, slots := 0, locals := 64 } [.ref (G.2.2.2.2.1 3)] w rr ww := by
  refine Met.ofW (cc := cJ0_length_8abf5) (maxL := 1) (ret := (some .int)) (by decide) rfl ?_
  intro p e s m args below meth c s₁ B hml hv
  obtain ⟨rfl, hx, hb, hr, hts, hown, hlocks, hK, hE, hH⟩ := am_begin B hv
  have hown : s.vm.findClass RJ0 = some m.cls := hown
  show W p l e { frames := 1, cells := 0, slots := 0, locals := 64 } s m _ below meth c s.heap [] 0 0 _ _
  refine am_enter (lv := [(0, .ref (G.2.2.2.2.1 3))]) (Nat.le_of_ble_eq_true rfl) rfl (fun ls hl => ?_)
  unfold f_J0_length_8abf5_t3 at hf
  refine am_start hH (fun H locs hH => ?_)
  refine lv_aload_n hx hb dJ0_length_8abf5_0 rfl (lv_at hl 0 rfl) ?_
  refine vk_getf hx hb (hE.2.1.1 3 (by decide)).2.2.1 hH.2 hown (hts _ am_q2021) (fun _ h => h) dJ0_length_8abf5_1 ?_
  refine va_tlen (v := 6) hx hb (hE.2.1.1 3 (by decide)).2.2.2 hH.2 rfl dJ0_length_8abf5_4 ?_
  refine lv_aload_n hx hb dJ0_length_8abf5_5 rfl (lv_at hl 0 rfl) ?_
  obtain ⟨r_6, w_4, hq_5, hf⟩ := am_b2_some hf
  refine am_calli (r := r_6) (w' := w_4) (am_runVT (n := 0) (As := []) (rest := [.int (6 : Int32)]) 3 (by decide) ⟨hx, hb, hml, hown, hts⟩ hK hE hH (k_J0_coder_7d493_t3 hq_5) (am_gV am_q449 am_q450 am_q451 am_q16 am_q452) ⟨rfl, rfl⟩ (by decide +kernel) ⟨Nat.le_of_ble_eq_true rfl, Nat.le_of_ble_eq_true rfl⟩ rfl hl.1 rfl (Nat.le_of_ble_eq_true rfl) ⟨Nat.zero_le _, Nat.zero_le _⟩ dJ0_length_8abf5_6) hH (fun H locs hH => ?_)
  refine lv_ishr hx hb dJ0_length_8abf5_9 ?_
  exact am_reti hx hb hr hlocks hH hf dJ0_length_8abf5_10

def f_J1_indexOfChar_4cfef_b3_7b (a1 : Int32) (a2 : Int32) (a3 : Int32) (x4 : Int32) (x5 : Int32) (w : am_S) : Option ((Int32 × am_S) ⊕ (Int32 × am_S)) :=
  if a3 ≤ x5 then (am_x (some ((-1 : Int32), w))) else (am_chk x5 6 (if (am_bv 3 x5.toNatClampNeg) = x4 then (am_x (some (x5, w))) else (am_v (x5 + (1 : Int32)) fun (x5_10 : Int32) => some (.inr (x5_10, w)))))
def f_J1_indexOfChar_4cfef_b3_7 (a1 : Int32) (a2 : Int32) (a3 : Int32) (x4 : Int32) (x5 : Int32) (w : am_S) : Option (Int32 × am_S) :=
  am_loop (fun (st : (Int32 × am_S)) => f_J1_indexOfChar_4cfef_b3_7b a1 a2 a3 x4 st.1 st.2) am_fuel (x5, w)
def f_J1_indexOfChar_4cfef_b3 (a1 : Int32) (a2 : Int32) (a3 : Int32) (w : am_S) : Option (Int32 × am_S) :=
  am_v (a1.toInt8.toInt32) fun (x4_12 : Int32) => f_J1_indexOfChar_4cfef_b3_7 a1 a2 a3 x4_12 a2 w
set_option maxRecDepth 100000 in
set_option maxHeartbeats 4000000 in
theorem k_J1_indexOfChar_4cfef_b3 {G : am_G} {l : Launch} {a1 : Int32} {a2 : Int32} {a3 : Int32}  {w : am_S} {rr : Int32} {ww : am_S} (hf : f_J1_indexOfChar_4cfef_b3 a1 a2 a3 w = some (rr, ww)) : am_Mi G l yJ1_indexOfChar_4cfef (Cond.code yJ1_indexOfChar_4cfef cJ1_indexOfChar_4cfef 6 (some .int) :: am_T) { frames := 0, cells := 0, slots := 0, locals := 0 } [.ref (G.2.2.2.2.2 3), .int a1, .int a2, .int a3] w rr ww := by
  refine Met.ofW (cc := cJ1_indexOfChar_4cfef) (maxL := 6) (ret := (some .int)) (by decide) rfl ?_
  intro p e s m args below meth c s₁ B hml hv
  obtain ⟨rfl, hx, hb, hr, hts, hown, hlocks, hK, hE, hH⟩ := am_begin B hv
  have hown : s.vm.findClass RJ1 = some m.cls := hown
  show W p l e { frames := 0, cells := 0, slots := 0, locals := 0 } s m _ below meth c s.heap [] 0 0 _ _
  have P7 : ∀ (x4 : Int32) (n1 : Nat) (x5 : Int32) (w : am_S) (H : Heap) (locs : List Loc) (ls : Array Slot), am_loop (fun (st : (Int32 × am_S)) => f_J1_indexOfChar_4cfef_b3_7b a1 a2 a3 x4 st.1 st.2) n1 (x5, w) = some (rr, ww) → am_H G w s H locs → lv_has ls 6 [(0, .ref (G.2.2.2.2.2 3)), (3, .int a3), (4, .int x4), (5, .int x5)] → W p l e { frames := 0, cells := 0, slots := 0, locals := 0 } s m [.ref (G.2.2.2.2.2 3), .int a1, .int a2, .int a3].toArray below meth c H locs 0 0 (MQ below (va_Qi (fun (x : Int32) (u : am_S) => x = rr ∧ u = ww) (am_U G) (am_A G)) [.ref (G.2.2.2.2.2 3), .int a1, .int a2, .int a3].toArray s 0 0 (am_A G)) (F0 m 7 ls []) := by
    intro x4 n1
    induction n1 with
    | zero =>
      intro x5 w H locs ls hf hH hl
      exact (am_loop_zero hf).elim
    | succ n1 ih1 =>
      intro x5 w H locs ls hf hH hl
      obtain ⟨z1, hf, hk1⟩ := am_loop_succ hf
      have hf : f_J1_indexOfChar_4cfef_b3_7b a1 a2 a3 x4 x5 w = some z1 := hf
      unfold f_J1_indexOfChar_4cfef_b3_7b at hf
      refine lv_iload hx hb dJ1_indexOfChar_4cfef_7 (lv_at hl 3 rfl) ?_
      refine lv_iload_n hx hb dJ1_indexOfChar_4cfef_9 rfl (lv_at hl 1 rfl) ?_
      refine lv_icmp_ge (tgt := 31) hx hb dJ1_indexOfChar_4cfef_10 (by decide) (fun hc_6 => ?_) (fun hc_6 => ?_)
      · have hf := (if_pos hc_6).symm.trans hf
        obtain ⟨y_7, hf, hzy_7⟩ := am_x_some hf
        rw [hzy_7] at hk1
        have hf := hf.trans (congrArg some (show y_7 = (rr, ww) from hk1))
        refine lv_iconst (v := -1) hx hb dJ1_indexOfChar_4cfef_31 (by decide) ?_
        exact am_reti hx hb hr hlocks hH hf dJ1_indexOfChar_4cfef_32
      · have hf := (if_neg hc_6).symm.trans hf
        refine lv_aload_n hx hb dJ1_indexOfChar_4cfef_13 rfl (lv_at hl 0 rfl) ?_
        refine lv_iload hx hb dJ1_indexOfChar_4cfef_14 (lv_at hl 3 rfl) ?_
        obtain ⟨hi_8, hf⟩ := am_chk_some hf
        refine va_tb hx hb (hE.2.1.1 3 (by decide)).2.2.2 hH.2 hi_8 rfl dJ1_indexOfChar_4cfef_16 ?_
        refine lv_iload hx hb dJ1_indexOfChar_4cfef_17 (lv_at hl 2 rfl) ?_
        refine lv_icmp_ne (tgt := 25) hx hb dJ1_indexOfChar_4cfef_19 (by decide) (fun hc_9 => ?_) (fun hc_9 => ?_)
        · have hf := (if_neg hc_9).symm.trans hf
          obtain ⟨x5_10, hx5_10, hf⟩ := am_v_some hf
          refine lv_iinc (v := x5_10) (lv' := [(5, .int x5_10), (0, .ref (G.2.2.2.2.2 3)), (3, .int a3), (4, .int x4)]) hx hb dJ1_indexOfChar_4cfef_25 hl (k := 3) rfl (by rw [hx5_10]; rfl) (by decide) rfl (fun ls hl => ?_)
          refine lv_goto (tgt := 7) hx hb dJ1_indexOfChar_4cfef_28 (by decide) ?_
          obtain rfl := Option.some.inj hf
          exact ih1 x5_10 w H locs ls hk1 hH (lv_sub hl [1, 2, 3, 0] rfl)
        · have hf := (if_pos hc_9).symm.trans hf
          obtain ⟨y_11, hf, hzy_11⟩ := am_x_some hf
          rw [hzy_11] at hk1
          have hf := hf.trans (congrArg some (show y_11 = (rr, ww) from hk1))
          refine lv_iload hx hb dJ1_indexOfChar_4cfef_22 (lv_at hl 3 rfl) ?_
          exact am_reti hx hb hr hlocks hH hf dJ1_indexOfChar_4cfef_24
  refine am_enter (lv := [(0, .ref (G.2.2.2.2.2 3)), (1, .int a1), (2, .int a2), (3, .int a3)]) (Nat.le_of_ble_eq_true rfl) rfl (fun ls hl => ?_)
  unfold f_J1_indexOfChar_4cfef_b3 at hf
  refine am_start hH (fun H locs hH => ?_)
  refine lv_iload_n hx hb dJ1_indexOfChar_4cfef_0 rfl (lv_at hl 1 rfl) ?_
  refine lv_i2b hx hb dJ1_indexOfChar_4cfef_1 rfl ?_
  obtain ⟨x4_12, hx4_12, hf⟩ := am_v_some hf
  refine am_topi hx4_12 ?_
  refine lv_istore (lv' := [(4, .int x4_12), (0, .ref (G.2.2.2.2.2 3)), (1, .int a1), (2, .int a2), (3, .int a3)]) hx hb dJ1_indexOfChar_4cfef_2 hl (by decide) rfl (fun ls hl => ?_)
  refine lv_iload_n hx hb dJ1_indexOfChar_4cfef_4 rfl (lv_at hl 3 rfl) ?_
  refine lv_istore (lv' := [(5, .int a2), (4, .int x4_12), (0, .ref (G.2.2.2.2.2 3)), (1, .int a1), (2, .int a2), (3, .int a3)]) hx hb dJ1_indexOfChar_4cfef_5 hl (by decide) rfl (fun ls hl => ?_)
  exact P7 x4_12 am_fuel a2 w H locs ls hf hH (lv_sub hl [2, 5, 1, 0] rfl)

def f_J1_indexOf_4cfef_b3 (a1 : Int32) (a2 : Int32) (a3 : Int32) (w : am_S) : Option (Int32 × am_S) :=
  am_b2 (f_J1_canEncode_9a6ad a1 w) fun r_17 w_15 => if r_17 = 0 then (some ((-1 : Int32), w_15)) else (am_b2 (f_J9_max_7cf53 a2 (0 : Int32) w_15) fun r_21 w_19 => am_b2 (f_J9_min_7cf53 a3 (6 : Int32) w_19) fun r_24 w_22 => if r_21 < r_24 then (am_b2 (f_J1_indexOfChar_4cfef_b3 a1 r_21 r_24 w_22) fun r_28 w_26 => some (r_28, w_26)) else (some ((-1 : Int32), w_22)))
set_option maxRecDepth 100000 in
set_option maxHeartbeats 4000000 in
theorem k_J1_indexOf_4cfef_b3 {G : am_G} {l : Launch} {a1 : Int32} {a2 : Int32} {a3 : Int32}  {w : am_S} {rr : Int32} {ww : am_S} (hf : f_J1_indexOf_4cfef_b3 a1 a2 a3 w = some (rr, ww)) : am_Mi G l yJ1_indexOf_4cfef (Cond.code yJ1_indexOf_4cfef cJ1_indexOf_4cfef 4 (some .int) :: am_T) { frames := 1, cells := 0, slots := 0, locals := 64 } [.ref (G.2.2.2.2.2 3), .int a1, .int a2, .int a3] w rr ww := by
  refine Met.ofW (cc := cJ1_indexOf_4cfef) (maxL := 4) (ret := (some .int)) (by decide) rfl ?_
  intro p e s m args below meth c s₁ B hml hv
  obtain ⟨rfl, hx, hb, hr, hts, hown, hlocks, hK, hE, hH⟩ := am_begin B hv
  have hown : s.vm.findClass RJ1 = some m.cls := hown
  show W p l e { frames := 1, cells := 0, slots := 0, locals := 64 } s m _ below meth c s.heap [] 0 0 _ _
  refine am_enter (lv := [(0, .ref (G.2.2.2.2.2 3)), (1, .int a1), (2, .int a2), (3, .int a3)]) (Nat.le_of_ble_eq_true rfl) rfl (fun ls hl => ?_)
  unfold f_J1_indexOf_4cfef_b3 at hf
  refine am_start hH (fun H locs hH => ?_)
  refine lv_iload_n hx hb dJ1_indexOf_4cfef_0 rfl (lv_at hl 1 rfl) ?_
  obtain ⟨r_17, w_15, hq_16, hf⟩ := am_b2_some hf
  refine am_calli (r := r_17) (w' := w_15) (am_runS (n := 1) (As := [.int a1]) (rest := []) ⟨hx, hb, hml, hown, hts⟩ hK hE hH (k_J1_canEncode_9a6ad hq_16) (am_gS am_q471 am_q472 am_q17 am_q473) ⟨rfl, rfl⟩ (by decide +kernel) ⟨Nat.le_of_ble_eq_true rfl, Nat.le_of_ble_eq_true rfl⟩ rfl hl.1 rfl (Nat.le_of_ble_eq_true rfl) ⟨Nat.zero_le _, Nat.zero_le _⟩ dJ1_indexOf_4cfef_1) hH (fun H locs hH => ?_)
  refine lv_if_ne (tgt := 9) hx hb dJ1_indexOf_4cfef_4 (by decide) (fun hc_18 => ?_) (fun hc_18 => ?_)
  · have hf := (if_neg hc_18).symm.trans hf
    refine lv_iload_n hx hb dJ1_indexOf_4cfef_9 rfl (lv_at hl 2 rfl) ?_
    refine lv_iconst (v := 0) hx hb dJ1_indexOf_4cfef_10 (by decide) ?_
    obtain ⟨r_21, w_19, hq_20, hf⟩ := am_b2_some hf
    refine am_calli (r := r_21) (w' := w_19) (am_runS (n := 2) (As := [.int a2, .int (0 : Int32)]) (rest := []) ⟨hx, hb, hml, hown, hts⟩ hK hE hH (k_J9_max_7cf53 hq_20) (am_gS am_q474 am_q475 am_q18 am_q476) ⟨rfl, rfl⟩ (by decide +kernel) ⟨Nat.le_of_ble_eq_true rfl, Nat.le_of_ble_eq_true rfl⟩ rfl hl.1 rfl (Nat.le_of_ble_eq_true rfl) ⟨Nat.zero_le _, Nat.zero_le _⟩ dJ1_indexOf_4cfef_11) hH (fun H locs hH => ?_)
    refine lv_istore_n (lv' := [(2, .int r_21), (0, .ref (G.2.2.2.2.2 3)), (1, .int a1), (3, .int a3)]) hx hb dJ1_indexOf_4cfef_14 rfl hl (by decide) rfl (fun ls hl => ?_)
    refine lv_iload_n hx hb dJ1_indexOf_4cfef_15 rfl (lv_at hl 3 rfl) ?_
    refine lv_aload_n hx hb dJ1_indexOf_4cfef_16 rfl (lv_at hl 1 rfl) ?_
    refine va_tlen (v := 6) hx hb (hE.2.1.1 3 (by decide)).2.2.2 hH.2 rfl dJ1_indexOf_4cfef_17 ?_
    obtain ⟨r_24, w_22, hq_23, hf⟩ := am_b2_some hf
    refine am_calli (r := r_24) (w' := w_22) (am_runS (n := 2) (As := [.int a3, .int (6 : Int32)]) (rest := []) ⟨hx, hb, hml, hown, hts⟩ hK hE hH (k_J9_min_7cf53 hq_23) (am_gS am_q477 am_q478 am_q18 am_q479) ⟨rfl, rfl⟩ (by decide +kernel) ⟨Nat.le_of_ble_eq_true rfl, Nat.le_of_ble_eq_true rfl⟩ rfl hl.1 rfl (Nat.le_of_ble_eq_true rfl) ⟨Nat.zero_le _, Nat.zero_le _⟩ dJ1_indexOf_4cfef_18) hH (fun H locs hH => ?_)
    refine lv_istore_n (lv' := [(3, .int r_24), (2, .int r_21), (0, .ref (G.2.2.2.2.2 3)), (1, .int a1)]) hx hb dJ1_indexOf_4cfef_21 rfl hl (by decide) rfl (fun ls hl => ?_)
    refine lv_iload_n hx hb dJ1_indexOf_4cfef_22 rfl (lv_at hl 1 rfl) ?_
    refine lv_iload_n hx hb dJ1_indexOf_4cfef_23 rfl (lv_at hl 0 rfl) ?_
    refine lv_icmp_lt (tgt := 29) hx hb dJ1_indexOf_4cfef_24 (by decide) (fun hc_25 => ?_) (fun hc_25 => ?_)
    · have hf := (if_pos hc_25).symm.trans hf
      refine lv_aload_n hx hb dJ1_indexOf_4cfef_29 rfl (lv_at hl 2 rfl) ?_
      refine lv_iload_n hx hb dJ1_indexOf_4cfef_30 rfl (lv_at hl 3 rfl) ?_
      refine lv_iload_n hx hb dJ1_indexOf_4cfef_31 rfl (lv_at hl 1 rfl) ?_
      refine lv_iload_n hx hb dJ1_indexOf_4cfef_32 rfl (lv_at hl 0 rfl) ?_
      obtain ⟨r_28, w_26, hq_27, hf⟩ := am_b2_some hf
      refine am_calli (r := r_28) (w' := w_26) (am_runS (n := 4) (As := [.ref (G.2.2.2.2.2 3), .int a1, .int r_21, .int r_24]) (rest := []) ⟨hx, hb, hml, hown, hts⟩ hK hE hH (k_J1_indexOfChar_4cfef_b3 hq_27) (am_gS am_q480 am_q481 am_q17 am_q482) ⟨rfl, rfl⟩ (by decide +kernel) ⟨Nat.le_of_ble_eq_true rfl, Nat.le_of_ble_eq_true rfl⟩ rfl hl.1 rfl (Nat.le_of_ble_eq_true rfl) ⟨Nat.zero_le _, Nat.zero_le _⟩ dJ1_indexOf_4cfef_33) hH (fun H locs hH => ?_)
      exact am_reti hx hb hr hlocks hH hf dJ1_indexOf_4cfef_36
    · have hf := (if_neg hc_25).symm.trans hf
      refine lv_iconst (v := -1) hx hb dJ1_indexOf_4cfef_27 (by decide) ?_
      exact am_reti hx hb hr hlocks hH hf dJ1_indexOf_4cfef_28
  · have hf := (if_pos hc_18).symm.trans hf
    refine lv_iconst (v := -1) hx hb dJ1_indexOf_4cfef_7 (by decide) ?_
    exact am_reti hx hb hr hlocks hH hf dJ1_indexOf_4cfef_8

def f_J0_indexOf_7cf53_t3_36 (a1 : Int32) (a2 : Int32) (s0 : Int32) (w : am_S) : Option (Int32 × am_S) :=
  some (s0, w)
def f_J0_indexOf_7cf53_t3 (a1 : Int32) (a2 : Int32) (w : am_S) : Option (Int32 × am_S) :=
  am_b2 (f_J0_isLatin1_aae02_t3 w) fun r_16 w_14 => if r_16 = 0 then (am_b2 (f_J0_length_8abf5_t3 w_14) fun r_20 w_18 => none) else (am_b2 (f_J0_length_8abf5_t3 w_14) fun r_23 w_21 => am_b2 (f_J1_indexOf_4cfef_b3 a1 a2 r_23 w_21) fun r_26 w_24 => f_J0_indexOf_7cf53_t3_36 a1 a2 r_26 w_24)
set_option maxRecDepth 100000 in
set_option maxHeartbeats 4000000 in
theorem k_J0_indexOf_7cf53_t3 {G : am_G} {l : Launch} {a1 : Int32} {a2 : Int32}  {w : am_S} {rr : Int32} {ww : am_S} (hf : f_J0_indexOf_7cf53_t3 a1 a2 w = some (rr, ww)) : am_Mi G l yJ0_indexOf_7cf53 (Cond.code yJ0_indexOf_7cf53 cJ0_indexOf_7cf53 3 (some .int) :: am_T) { frames := 2, cells := 0, slots := 0, locals := 128 } [.ref (G.2.2.2.2.1 3), .int a1, .int a2] w rr ww := by
  refine Met.ofW (cc := cJ0_indexOf_7cf53) (maxL := 3) (ret := (some .int)) (by decide) rfl ?_
  intro p e s m args below meth c s₁ B hml hv
  obtain ⟨rfl, hx, hb, hr, hts, hown, hlocks, hK, hE, hH⟩ := am_begin B hv
  have hown : s.vm.findClass RJ0 = some m.cls := hown
  show W p l e { frames := 2, cells := 0, slots := 0, locals := 128 } s m _ below meth c s.heap [] 0 0 _ _
  have P36 : ∀ (s0 : Int32) (w : am_S) (H : Heap) (locs : List Loc) (ls : Array Slot), f_J0_indexOf_7cf53_t3_36 a1 a2 s0 w = some (rr, ww) → am_H G w s H locs → lv_has ls 3 [] → W p l e { frames := 2, cells := 0, slots := 0, locals := 128 } s m [.ref (G.2.2.2.2.1 3), .int a1, .int a2].toArray below meth c H locs 0 0 (MQ below (va_Qi (fun (x : Int32) (u : am_S) => x = rr ∧ u = ww) (am_U G) (am_A G)) [.ref (G.2.2.2.2.1 3), .int a1, .int a2].toArray s 0 0 (am_A G)) (F0 m 36 ls [.int s0]) := by
    intro s0 w H locs ls hf hH hl
    unfold f_J0_indexOf_7cf53_t3_36 at hf
    exact am_reti hx hb hr hlocks hH hf dJ0_indexOf_7cf53_36
  refine am_enter (lv := [(0, .ref (G.2.2.2.2.1 3)), (1, .int a1), (2, .int a2)]) (Nat.le_of_ble_eq_true rfl) rfl (fun ls hl => ?_)
  unfold f_J0_indexOf_7cf53_t3 at hf
  refine am_start hH (fun H locs hH => ?_)
  refine lv_aload_n hx hb dJ0_indexOf_7cf53_0 rfl (lv_at hl 0 rfl) ?_
  obtain ⟨r_16, w_14, hq_15, hf⟩ := am_b2_some hf
  refine am_calli (r := r_16) (w' := w_14) (am_runVT (n := 0) (As := []) (rest := []) 3 (by decide) ⟨hx, hb, hml, hown, hts⟩ hK hE hH (k_J0_isLatin1_aae02_t3 hq_15) (am_gV am_q463 am_q464 am_q465 am_q16 am_q466) ⟨rfl, rfl⟩ (by decide +kernel) ⟨Nat.le_of_ble_eq_true rfl, Nat.le_of_ble_eq_true rfl⟩ rfl hl.1 rfl (Nat.le_of_ble_eq_true rfl) ⟨Nat.zero_le _, Nat.zero_le _⟩ dJ0_indexOf_7cf53_1) hH (fun H locs hH => ?_)
  refine lv_if_eq (tgt := 23) hx hb dJ0_indexOf_7cf53_4 (by decide) (fun hc_17 => ?_) (fun hc_17 => ?_)
  · have hf := (if_pos hc_17).symm.trans hf
    refine lv_aload_n hx hb dJ0_indexOf_7cf53_23 rfl (lv_at hl 0 rfl) ?_
    refine vk_getf hx hb (hE.2.1.1 3 (by decide)).2.2.1 hH.2 hown (hts _ am_q2021) (fun _ h => h) dJ0_indexOf_7cf53_24 ?_
    refine lv_iload_n hx hb dJ0_indexOf_7cf53_27 rfl (lv_at hl 1 rfl) ?_
    refine lv_iload_n hx hb dJ0_indexOf_7cf53_28 rfl (lv_at hl 2 rfl) ?_
    refine lv_aload_n hx hb dJ0_indexOf_7cf53_29 rfl (lv_at hl 0 rfl) ?_
    obtain ⟨r_20, w_18, hq_19, hf⟩ := am_b2_some hf
    refine am_calli (r := r_20) (w' := w_18) (am_runVT (n := 0) (As := []) (rest := [.int a2, .int a1, .ref (G.2.2.2.2.2 3)]) 3 (by decide) ⟨hx, hb, hml, hown, hts⟩ hK hE hH (k_J0_length_8abf5_t3 hq_19) (am_gV am_q467 am_q446 am_q447 am_q16 am_q448) ⟨rfl, rfl⟩ (by decide +kernel) ⟨Nat.le_of_ble_eq_true rfl, Nat.le_of_ble_eq_true rfl⟩ rfl hl.1 rfl (Nat.le_of_ble_eq_true rfl) ⟨Nat.zero_le _, Nat.zero_le _⟩ dJ0_indexOf_7cf53_30) hH (fun H locs hH => ?_)
    cases hf
  · have hf := (if_neg hc_17).symm.trans hf
    refine lv_aload_n hx hb dJ0_indexOf_7cf53_7 rfl (lv_at hl 0 rfl) ?_
    refine vk_getf hx hb (hE.2.1.1 3 (by decide)).2.2.1 hH.2 hown (hts _ am_q2021) (fun _ h => h) dJ0_indexOf_7cf53_8 ?_
    refine lv_iload_n hx hb dJ0_indexOf_7cf53_11 rfl (lv_at hl 1 rfl) ?_
    refine lv_iload_n hx hb dJ0_indexOf_7cf53_12 rfl (lv_at hl 2 rfl) ?_
    refine lv_aload_n hx hb dJ0_indexOf_7cf53_13 rfl (lv_at hl 0 rfl) ?_
    obtain ⟨r_23, w_21, hq_22, hf⟩ := am_b2_some hf
    refine am_calli (r := r_23) (w' := w_21) (am_runVT (n := 0) (As := []) (rest := [.int a2, .int a1, .ref (G.2.2.2.2.2 3)]) 3 (by decide) ⟨hx, hb, hml, hown, hts⟩ hK hE hH (k_J0_length_8abf5_t3 hq_22) (am_gV am_q467 am_q446 am_q447 am_q16 am_q448) ⟨rfl, rfl⟩ (by decide +kernel) ⟨Nat.le_of_ble_eq_true rfl, Nat.le_of_ble_eq_true rfl⟩ rfl hl.1 rfl (Nat.le_of_ble_eq_true rfl) ⟨Nat.zero_le _, Nat.zero_le _⟩ dJ0_indexOf_7cf53_14) hH (fun H locs hH => ?_)
    obtain ⟨r_26, w_24, hq_25, hf⟩ := am_b2_some hf
    refine am_calli (r := r_26) (w' := w_24) (am_runS (n := 4) (As := [.ref (G.2.2.2.2.2 3), .int a1, .int a2, .int r_23]) (rest := []) ⟨hx, hb, hml, hown, hts⟩ hK hE hH (k_J1_indexOf_4cfef_b3 hq_25) (am_gS am_q468 am_q469 am_q17 am_q470) ⟨rfl, rfl⟩ (by decide +kernel) ⟨Nat.le_of_ble_eq_true rfl, Nat.le_of_ble_eq_true rfl⟩ rfl hl.1 rfl (Nat.le_of_ble_eq_true rfl) ⟨Nat.zero_le _, Nat.zero_le _⟩ dJ0_indexOf_7cf53_17) hH (fun H locs hH => ?_)
    refine lv_goto (tgt := 36) hx hb dJ0_indexOf_7cf53_20 (by decide) ?_
    exact P36 r_26 w_24 H locs ls hf hH (lv_sub hl [] rfl)

def f_J0_indexOf_0f7a4_t3 (a1 : Int32) (w : am_S) : Option (Int32 × am_S) :=
  am_b2 (f_J0_indexOf_7cf53_t3 a1 (0 : Int32) w) fun r_6 w_4 => some (r_6, w_4)
set_option maxRecDepth 100000 in
set_option maxHeartbeats 4000000 in
theorem k_J0_indexOf_0f7a4_t3 {G : am_G} {l : Launch} {a1 : Int32}  {w : am_S} {rr : Int32} {ww : am_S} (hf : f_J0_indexOf_0f7a4_t3 a1 w = some (rr, ww)) : am_Mi G l yJ0_indexOf_0f7a4 (Cond.code yJ0_indexOf_0f7a4 cJ0_indexOf_0f7a4 2 (some .int) :: am_T) { frames := 3, cells := 0, slots := 0, locals := 192 } [.ref (G.2.2.2.2.1 3), .int a1] w rr ww := by
  refine Met.ofW (cc := cJ0_indexOf_0f7a4) (maxL := 2) (ret := (some .int)) (by decide) rfl ?_
  intro p e s m args below meth c s₁ B hml hv
  obtain ⟨rfl, hx, hb, hr, hts, hown, hlocks, hK, hE, hH⟩ := am_begin B hv
  have hown : s.vm.findClass RJ0 = some m.cls := hown
  show W p l e { frames := 3, cells := 0, slots := 0, locals := 192 } s m _ below meth c s.heap [] 0 0 _ _
  refine am_enter (lv := [(0, .ref (G.2.2.2.2.1 3)), (1, .int a1)]) (Nat.le_of_ble_eq_true rfl) rfl (fun ls hl => ?_)
  unfold f_J0_indexOf_0f7a4_t3 at hf
  refine am_start hH (fun H locs hH => ?_)
  refine lv_aload_n hx hb dJ0_indexOf_0f7a4_0 rfl (lv_at hl 0 rfl) ?_
  refine lv_iload_n hx hb dJ0_indexOf_0f7a4_1 rfl (lv_at hl 1 rfl) ?_
  refine lv_iconst (v := 0) hx hb dJ0_indexOf_0f7a4_2 (by decide) ?_
  obtain ⟨r_6, w_4, hq_5, hf⟩ := am_b2_some hf
  refine am_calli (r := r_6) (w' := w_4) (am_runVT (n := 2) (As := [.int a1, .int (0 : Int32)]) (rest := []) 3 (by decide) ⟨hx, hb, hml, hown, hts⟩ hK hE hH (k_J0_indexOf_7cf53_t3 hq_5) (am_gV am_q459 am_q460 am_q461 am_q16 am_q462) ⟨rfl, rfl⟩ (by decide +kernel) ⟨Nat.le_of_ble_eq_true rfl, Nat.le_of_ble_eq_true rfl⟩ rfl hl.1 rfl (Nat.le_of_ble_eq_true rfl) ⟨Nat.zero_le _, Nat.zero_le _⟩ dJ0_indexOf_0f7a4_3) hH (fun H locs hH => ?_)
  exact am_reti hx hb hr hlocks hH hf dJ0_indexOf_0f7a4_6

def f_X10_readDigit  (w : am_S) : Option (Int32 × am_S) :=
  am_b2 (f_X10_nextSign w) fun r_13 w_11 => am_b2 (f_X10_isDigitHere w_11) fun r_16 w_14 => if r_16 = 0 then (some ((0 : Int32), w_14)) else (am_chk (w_14.1 1 2) 240 (am_v (am_pi w_14 1 3 ((w_14.1 2 (w_14.1 1 2).toNatClampNeg) - (48 : Int32))) fun (w_19 : am_S) => am_v (am_pi w_19 1 2 ((w_19.1 1 2) + (1 : Int32))) fun (w_20 : am_S) => some ((1 : Int32), w_20)))
set_option maxRecDepth 100000 in
set_option maxHeartbeats 4000000 in
theorem k_X10_readDigit {G : am_G} {l : Launch}   {w : am_S} {rr : Int32} {ww : am_S} (hf : f_X10_readDigit  w = some (rr, ww)) : am_Mi G l yX10_readDigit (Cond.code yX10_readDigit cX10_readDigit 1 (some .boolean) :: am_T) { frames := 1, cells := 0, slots := 0, locals := 64 } [.ref (G.1 + 1)] w rr ww := by
  refine Met.ofW (cc := cX10_readDigit) (maxL := 1) (ret := (some .boolean)) (by decide) rfl ?_
  intro p e s m args below meth c s₁ B hml hv
  obtain ⟨rfl, hx, hb, hr, hts, hown, hlocks, hK, hE, hH⟩ := am_begin B hv
  have hown : s.vm.findClass RX10 = some m.cls := hown
  show W p l e { frames := 1, cells := 0, slots := 0, locals := 64 } s m _ below meth c s.heap [] 0 0 _ _
  refine am_enter (lv := [(0, .ref (G.1 + 1))]) (Nat.le_of_ble_eq_true rfl) rfl (fun ls hl => ?_)
  unfold f_X10_readDigit at hf
  refine am_start hH (fun H locs hH => ?_)
  refine lv_aload_n hx hb dX10_readDigit_0 rfl (lv_at hl 0 rfl) ?_
  obtain ⟨r_13, w_11, hq_12, hf⟩ := am_b2_some hf
  refine am_calli (r := r_13) (w' := w_11) (am_runV (n := 0) (As := []) (rest := []) ⟨hx, hb, hml, hown, hts⟩ hK hE hH (k_X10_nextSign hq_12) (am_gV am_q536 am_q430 am_q431 am_q2 am_q432) (am_o10 (p := 1) (by decide +kernel)) rfl ⟨rfl, rfl⟩ (by decide +kernel) ⟨Nat.le_of_ble_eq_true rfl, Nat.le_of_ble_eq_true rfl⟩ rfl hl.1 rfl (Nat.le_of_ble_eq_true rfl) ⟨Nat.zero_le _, Nat.zero_le _⟩ dX10_readDigit_1) hH (fun H locs hH => ?_)
  refine lv_pop hx hb dX10_readDigit_4 rfl ?_
  refine lv_aload_n hx hb dX10_readDigit_5 rfl (lv_at hl 0 rfl) ?_
  obtain ⟨r_16, w_14, hq_15, hf⟩ := am_b2_some hf
  refine am_calli (r := r_16) (w' := w_14) (am_runV (n := 0) (As := []) (rest := []) ⟨hx, hb, hml, hown, hts⟩ hK hE hH (k_X10_isDigitHere hq_15) (am_gV am_q537 am_q539 am_qs4 am_q2 am_q540) (am_o10 (p := 1) (by decide +kernel)) rfl ⟨rfl, rfl⟩ (by decide +kernel) ⟨Nat.le_of_ble_eq_true rfl, Nat.le_of_ble_eq_true rfl⟩ rfl hl.1 rfl (Nat.le_of_ble_eq_true rfl) ⟨Nat.zero_le _, Nat.zero_le _⟩ dX10_readDigit_6) hH (fun H locs hH => ?_)
  refine lv_if_ne (tgt := 14) hx hb dX10_readDigit_9 (by decide) (fun hc_17 => ?_) (fun hc_17 => ?_)
  · have hf := (if_neg hc_17).symm.trans hf
    refine lv_aload_n hx hb dX10_readDigit_14 rfl (lv_at hl 0 rfl) ?_
    refine lv_aload_n hx hb dX10_readDigit_15 rfl (lv_at hl 0 rfl) ?_
    refine am_get hx hb hts hK hown hH (am_o10 (p := 1) (by decide +kernel)) rfl am_inX10 0 (by decide) am_q45 (v := .ref (G.1 + 2)) rfl dX10_readDigit_16 ?_
    refine lv_aload_n hx hb dX10_readDigit_19 rfl (lv_at hl 0 rfl) ?_
    refine am_get hx hb hts hK hown hH (am_o10 (p := 1) (by decide +kernel)) rfl am_inX10 2 (by decide) am_q50 (v := .int (w_14.1 1 2)) rfl dX10_readDigit_20 ?_
    obtain ⟨hi_18, hf⟩ := am_chk_some hf
    refine am_cald hx hb hK hH (am_ac_of (N := 240) (by decide +kernel)) hi_18 dX10_readDigit_23 ?_
    refine lv_bipush (v := 48) hx hb dX10_readDigit_24 (by decide) ?_
    refine lv_isub hx hb dX10_readDigit_26 ?_
    obtain ⟨w_19, hw_19, hf⟩ := am_v_some hf
    refine am_puti hx hb hts hK hown hH (am_o10 (p := 1) (by decide +kernel)) rfl am_inX10 tyX10 tyX10_ok nmX10 3 (by decide) am_q53 rfl rfl rfl (fun _ _ => Nat.le_of_ble_eq_true rfl) (fun _ _ _ => rfl) dX10_readDigit_27 (fun H locs hH => ?_)
    rw [← hw_19] at hH
    refine lv_aload_n hx hb dX10_readDigit_30 rfl (lv_at hl 0 rfl) ?_
    refine lv_dup hx hb dX10_readDigit_31 rfl ?_
    refine am_get hx hb hts hK hown hH (am_o10 (p := 1) (by decide +kernel)) rfl am_inX10 2 (by decide) am_q50 (v := .int (w_19.1 1 2)) rfl dX10_readDigit_32 ?_
    refine lv_iconst (v := 1) hx hb dX10_readDigit_35 (by decide) ?_
    refine lv_iadd hx hb dX10_readDigit_36 ?_
    obtain ⟨w_20, hw_20, hf⟩ := am_v_some hf
    refine am_puti hx hb hts hK hown hH (am_o10 (p := 1) (by decide +kernel)) rfl am_inX10 tyX10 tyX10_ok nmX10 2 (by decide) am_q50 rfl rfl rfl (fun _ _ => Nat.le_of_ble_eq_true rfl) (fun _ _ _ => rfl) dX10_readDigit_37 (fun H locs hH => ?_)
    rw [← hw_20] at hH
    refine lv_iconst (v := 1) hx hb dX10_readDigit_40 (by decide) ?_
    exact am_retz hx hb hr rfl hlocks hH hf dX10_readDigit_41
  · have hf := (if_pos hc_17).symm.trans hf
    refine lv_iconst (v := 0) hx hb dX10_readDigit_12 (by decide) ?_
    exact am_retz hx hb hr rfl hlocks hH hf dX10_readDigit_13

def f_X8_readStep_65 (o0 : Nat) (x3 : Int32) (w : am_S) : Option (Int32 × am_S) :=
  am_chk (w.1 o0 2) 16 (am_v (am_pi w (o0 + 1) (w.1 o0 2).toNatClampNeg x3) fun (w_26 : am_S) => am_chk (w_26.1 o0 2) 16 (am_v (am_pi w_26 (o0 + 2) (w_26.1 o0 2).toNatClampNeg (w_26.1 1 3)) fun (w_28 : am_S) => am_v (am_pi w_28 o0 2 ((w_28.1 o0 2) + (1 : Int32))) fun (w_29 : am_S) => some ((1 : Int32), w_29)))
def f_X8_readStep (o0 : Nat) (w : am_S) : Option (Int32 × am_S) :=
  am_b2 (f_X10_nextSign w) fun r_32 w_30 => am_b2 (f_J0_indexOf_0f7a4_t3 r_32 w_30) fun r_35 w_33 => if 0 ≤ r_35 then (am_v (am_pi w_33 1 2 ((w_33.1 1 2) + (1 : Int32))) fun (w_37 : am_S) => am_v (am_pi w_37 1 3 (-1 : Int32)) fun (w_38 : am_S) => if r_35 = (5 : Int32) then (am_b2 (f_X10_readNumber (0 : Int32) (9999 : Int32) w_38) fun r_47 w_45 => if r_47 = 0 then (some ((0 : Int32), w_45)) else (f_X8_readStep_65 o0 r_35 w_45)) else (if r_35 < (2 : Int32) then (f_X8_readStep_65 o0 r_35 w_38) else (am_b2 (f_X10_readDigit w_38) fun r_43 w_41 => if r_43 = 0 then (some ((0 : Int32), w_41)) else (f_X8_readStep_65 o0 r_35 w_41)))) else (some ((0 : Int32), w_33))
set_option maxRecDepth 100000 in
set_option maxHeartbeats 4000000 in
theorem k_X8_readStep {G : am_G} {l : Launch} {o0 : Nat} (ho0 : am_f8 o0) {w : am_S} {rr : Int32} {ww : am_S} (hf : f_X8_readStep o0 w = some (rr, ww)) : am_Mi G l yX8_readStep (Cond.code yX8_readStep cX8_readStep 4 (some .boolean) :: am_T) { frames := 4, cells := 0, slots := 0, locals := 256 } [.ref (G.1 + o0), .ref (G.1 + 1)] w rr ww := by
  refine Met.ofW (cc := cX8_readStep) (maxL := 4) (ret := (some .boolean)) (by decide) rfl ?_
  intro p e s m args below meth c s₁ B hml hv
  obtain ⟨rfl, hx, hb, hr, hts, hown, hlocks, hK, hE, hH⟩ := am_begin B hv
  have hown : s.vm.findClass RX8 = some m.cls := hown
  show W p l e { frames := 4, cells := 0, slots := 0, locals := 256 } s m _ below meth c s.heap [] 0 0 _ _
  have P65 : ∀ (x3 : Int32) (w : am_S) (H : Heap) (locs : List Loc) (ls : Array Slot), f_X8_readStep_65 o0 x3 w = some (rr, ww) → am_H G w s H locs → lv_has ls 4 [(0, .ref (G.1 + o0)), (1, .ref (G.1 + 1)), (3, .int x3)] → W p l e { frames := 4, cells := 0, slots := 0, locals := 256 } s m [.ref (G.1 + o0), .ref (G.1 + 1)].toArray below meth c H locs 0 0 (MQ below (va_Qi (fun (x : Int32) (u : am_S) => x = rr ∧ u = ww) (am_U G) (am_A G)) [.ref (G.1 + o0), .ref (G.1 + 1)].toArray s 0 0 (am_A G)) (F0 m 65 ls []) := by
    intro x3 w H locs ls hf hH hl
    unfold f_X8_readStep_65 at hf
    refine lv_aload_n hx hb dX8_readStep_65 rfl (lv_at hl 0 rfl) ?_
    refine am_get hx hb hts hK hown hH (am_o8 ho0.1) rfl am_inX8 0 (by decide) am_q153 (v := .ref (G.1 + (o0 + 1))) rfl dX8_readStep_66 ?_
    refine lv_aload_n hx hb dX8_readStep_69 rfl (lv_at hl 0 rfl) ?_
    refine am_get hx hb hts hK hown hH (am_o8 ho0.1) rfl am_inX8 2 (by decide) am_q157 (v := .int (w.1 o0 2)) rfl dX8_readStep_70 ?_
    refine lv_iload_n hx hb dX8_readStep_73 rfl (lv_at hl 2 rfl) ?_
    obtain ⟨hi_25, hf⟩ := am_chk_some hf
    obtain ⟨w_26, hw_26, hf⟩ := am_v_some hf
    refine am_iast hx hb hK hH (am_ai_of (N := 16) ho0.2.1) hi_25 dX8_readStep_74 (fun H locs hH => ?_)
    rw [← hw_26] at hH
    refine lv_aload_n hx hb dX8_readStep_75 rfl (lv_at hl 0 rfl) ?_
    refine am_get hx hb hts hK hown hH (am_o8 ho0.1) rfl am_inX8 1 (by decide) am_q155 (v := .ref (G.1 + (o0 + 2))) rfl dX8_readStep_76 ?_
    refine lv_aload_n hx hb dX8_readStep_79 rfl (lv_at hl 0 rfl) ?_
    refine am_get hx hb hts hK hown hH (am_o8 ho0.1) rfl am_inX8 2 (by decide) am_q157 (v := .int (w_26.1 o0 2)) rfl dX8_readStep_80 ?_
    refine lv_aload_n hx hb dX8_readStep_83 rfl (lv_at hl 1 rfl) ?_
    refine am_get hx hb hts hK hown hH (am_o10 (p := 1) (by decide +kernel)) rfl am_inX10 3 (by decide) am_q52 (v := .int (w_26.1 1 3)) rfl dX8_readStep_84 ?_
    obtain ⟨hi_27, hf⟩ := am_chk_some hf
    obtain ⟨w_28, hw_28, hf⟩ := am_v_some hf
    refine am_iast hx hb hK hH (am_ai_of (N := 16) ho0.2.2) hi_27 dX8_readStep_87 (fun H locs hH => ?_)
    rw [← hw_28] at hH
    refine lv_aload_n hx hb dX8_readStep_88 rfl (lv_at hl 0 rfl) ?_
    refine lv_dup hx hb dX8_readStep_89 rfl ?_
    refine am_get hx hb hts hK hown hH (am_o8 ho0.1) rfl am_inX8 2 (by decide) am_q157 (v := .int (w_28.1 o0 2)) rfl dX8_readStep_90 ?_
    refine lv_iconst (v := 1) hx hb dX8_readStep_93 (by decide) ?_
    refine lv_iadd hx hb dX8_readStep_94 ?_
    obtain ⟨w_29, hw_29, hf⟩ := am_v_some hf
    refine am_puti hx hb hts hK hown hH (am_o8 ho0.1) rfl am_inX8 tyX8 tyX8_ok nmX8 2 (by decide) am_q157 rfl rfl rfl (fun _ _ => Nat.le_of_ble_eq_true rfl) (fun _ _ _ => rfl) dX8_readStep_95 (fun H locs hH => ?_)
    rw [← hw_29] at hH
    refine lv_iconst (v := 1) hx hb dX8_readStep_98 (by decide) ?_
    exact am_retz hx hb hr rfl hlocks hH hf dX8_readStep_99
  refine am_enter (lv := [(0, .ref (G.1 + o0)), (1, .ref (G.1 + 1))]) (Nat.le_of_ble_eq_true rfl) rfl (fun ls hl => ?_)
  unfold f_X8_readStep at hf
  refine am_start hH (fun H locs hH => ?_)
  refine lv_aload_n hx hb dX8_readStep_0 rfl (lv_at hl 1 rfl) ?_
  obtain ⟨r_32, w_30, hq_31, hf⟩ := am_b2_some hf
  refine am_calli (r := r_32) (w' := w_30) (am_runV (n := 0) (As := []) (rest := []) ⟨hx, hb, hml, hown, hts⟩ hK hE hH (k_X10_nextSign hq_31) (am_gV am_q575 am_q430 am_q431 am_q2 am_q432) (am_o10 (p := 1) (by decide +kernel)) rfl ⟨rfl, rfl⟩ (by decide +kernel) ⟨Nat.le_of_ble_eq_true rfl, Nat.le_of_ble_eq_true rfl⟩ rfl hl.1 rfl (Nat.le_of_ble_eq_true rfl) ⟨Nat.zero_le _, Nat.zero_le _⟩ dX8_readStep_1) hH (fun H locs hH => ?_)
  refine lv_istore_n (lv' := [(2, .int r_32), (0, .ref (G.1 + o0)), (1, .ref (G.1 + 1))]) hx hb dX8_readStep_4 rfl hl (by decide) rfl (fun ls hl => ?_)
  refine va_ldcS hx hb hown (hE.2.2.1 3 _ rfl) dX8_readStep_5 ?_
  refine lv_iload_n hx hb dX8_readStep_7 rfl (lv_at hl 0 rfl) ?_
  obtain ⟨r_35, w_33, hq_34, hf⟩ := am_b2_some hf
  refine am_calli (r := r_35) (w' := w_33) (am_runVT (n := 1) (As := [.int r_32]) (rest := []) 3 (by decide) ⟨hx, hb, hml, hown, hts⟩ hK hE hH (k_J0_indexOf_0f7a4_t3 hq_34) (am_gV am_q577 am_q456 am_q457 am_q16 am_q458) ⟨rfl, rfl⟩ (by decide +kernel) ⟨Nat.le_of_ble_eq_true rfl, Nat.le_of_ble_eq_true rfl⟩ rfl hl.1 rfl (Nat.le_of_ble_eq_true rfl) ⟨Nat.zero_le _, Nat.zero_le _⟩ dX8_readStep_8) hH (fun H locs hH => ?_)
  refine lv_istore_n (lv' := [(3, .int r_35), (2, .int r_32), (0, .ref (G.1 + o0)), (1, .ref (G.1 + 1))]) hx hb dX8_readStep_11 rfl hl (by decide) rfl (fun ls hl => ?_)
  refine lv_iload_n hx hb dX8_readStep_12 rfl (lv_at hl 0 rfl) ?_
  refine lv_if_ge (tgt := 18) hx hb dX8_readStep_13 (by decide) (fun hc_36 => ?_) (fun hc_36 => ?_)
  · have hf := (if_pos hc_36).symm.trans hf
    refine lv_aload_n hx hb dX8_readStep_18 rfl (lv_at hl 3 rfl) ?_
    refine lv_dup hx hb dX8_readStep_19 rfl ?_
    refine am_get hx hb hts hK hown hH (am_o10 (p := 1) (by decide +kernel)) rfl am_inX10 2 (by decide) am_q49 (v := .int (w_33.1 1 2)) rfl dX8_readStep_20 ?_
    refine lv_iconst (v := 1) hx hb dX8_readStep_23 (by decide) ?_
    refine lv_iadd hx hb dX8_readStep_24 ?_
    obtain ⟨w_37, hw_37, hf⟩ := am_v_some hf
    refine am_puti hx hb hts hK hown hH (am_o10 (p := 1) (by decide +kernel)) rfl am_inX10 tyX10 tyX10_ok nmX10 2 (by decide) am_q49 rfl rfl rfl (fun _ _ => Nat.le_of_ble_eq_true rfl) (fun _ _ _ => rfl) dX8_readStep_25 (fun H locs hH => ?_)
    rw [← hw_37] at hH
    refine lv_aload_n hx hb dX8_readStep_28 rfl (lv_at hl 3 rfl) ?_
    refine lv_iconst (v := -1) hx hb dX8_readStep_29 (by decide) ?_
    obtain ⟨w_38, hw_38, hf⟩ := am_v_some hf
    refine am_puti hx hb hts hK hown hH (am_o10 (p := 1) (by decide +kernel)) rfl am_inX10 tyX10 tyX10_ok nmX10 3 (by decide) am_q52 rfl rfl rfl (fun _ _ => Nat.le_of_ble_eq_true rfl) (fun _ _ _ => rfl) dX8_readStep_30 (fun H locs hH => ?_)
    rw [← hw_38] at hH
    refine lv_iload_n hx hb dX8_readStep_33 rfl (lv_at hl 0 rfl) ?_
    refine lv_iconst (v := 5) hx hb dX8_readStep_34 (by decide) ?_
    refine lv_icmp_ne (tgt := 51) hx hb dX8_readStep_35 (by decide) (fun hc_39 => ?_) (fun hc_39 => ?_)
    · have hf := (if_neg hc_39).symm.trans hf
      refine lv_iload_n hx hb dX8_readStep_51 rfl (lv_at hl 0 rfl) ?_
      refine lv_iconst (v := 2) hx hb dX8_readStep_52 (by decide) ?_
      refine lv_icmp_lt (tgt := 65) hx hb dX8_readStep_53 (by decide) (fun hc_40 => ?_) (fun hc_40 => ?_)
      · have hf := (if_pos hc_40).symm.trans hf
        exact P65 r_35 w_38 H locs ls hf hH (lv_sub hl [2, 3, 0] rfl)
      · have hf := (if_neg hc_40).symm.trans hf
        refine lv_aload_n hx hb dX8_readStep_56 rfl (lv_at hl 3 rfl) ?_
        obtain ⟨r_43, w_41, hq_42, hf⟩ := am_b2_some hf
        refine am_calli (r := r_43) (w' := w_41) (am_runV (n := 0) (As := []) (rest := []) ⟨hx, hb, hml, hown, hts⟩ hK hE hH (k_X10_readDigit hq_42) (am_gV am_q579 am_q580 am_q581 am_q2 am_q582) (am_o10 (p := 1) (by decide +kernel)) rfl ⟨rfl, rfl⟩ (by decide +kernel) ⟨Nat.le_of_ble_eq_true rfl, Nat.le_of_ble_eq_true rfl⟩ rfl hl.1 rfl (Nat.le_of_ble_eq_true rfl) ⟨Nat.zero_le _, Nat.zero_le _⟩ dX8_readStep_57) hH (fun H locs hH => ?_)
        refine lv_if_ne (tgt := 65) hx hb dX8_readStep_60 (by decide) (fun hc_44 => ?_) (fun hc_44 => ?_)
        · have hf := (if_neg hc_44).symm.trans hf
          exact P65 r_35 w_41 H locs ls hf hH (lv_sub hl [2, 3, 0] rfl)
        · have hf := (if_pos hc_44).symm.trans hf
          refine lv_iconst (v := 0) hx hb dX8_readStep_63 (by decide) ?_
          exact am_retz hx hb hr rfl hlocks hH hf dX8_readStep_64
    · have hf := (if_pos hc_39).symm.trans hf
      refine lv_aload_n hx hb dX8_readStep_38 rfl (lv_at hl 3 rfl) ?_
      refine lv_iconst (v := 0) hx hb dX8_readStep_39 (by decide) ?_
      refine lv_sipush (v := 9999) hx hb dX8_readStep_40 (by decide) ?_
      obtain ⟨r_47, w_45, hq_46, hf⟩ := am_b2_some hf
      refine am_calli (r := r_47) (w' := w_45) (am_runV (n := 2) (As := [.int (0 : Int32), .int (9999 : Int32)]) (rest := []) ⟨hx, hb, hml, hown, hts⟩ hK hE hH (k_X10_readNumber hq_46) (am_gV am_q578 am_q533 am_q534 am_q2 am_q535) (am_o10 (p := 1) (by decide +kernel)) rfl ⟨rfl, rfl⟩ (by decide +kernel) ⟨Nat.le_of_ble_eq_true rfl, Nat.le_of_ble_eq_true rfl⟩ rfl hl.1 rfl (Nat.le_of_ble_eq_true rfl) ⟨Nat.zero_le _, Nat.zero_le _⟩ dX8_readStep_43) hH (fun H locs hH => ?_)
      refine lv_if_ne (tgt := 65) hx hb dX8_readStep_46 (by decide) (fun hc_48 => ?_) (fun hc_48 => ?_)
      · have hf := (if_neg hc_48).symm.trans hf
        exact P65 r_35 w_45 H locs ls hf hH (lv_sub hl [2, 3, 0] rfl)
      · have hf := (if_pos hc_48).symm.trans hf
        refine lv_iconst (v := 0) hx hb dX8_readStep_49 (by decide) ?_
        exact am_retz hx hb hr rfl hlocks hH hf dX8_readStep_50
  · have hf := (if_neg hc_36).symm.trans hf
    refine lv_iconst (v := 0) hx hb dX8_readStep_16 (by decide) ?_
    exact am_retz hx hb hr rfl hlocks hH hf dX8_readStep_17

def f_X8_readFrom_57 (o0 : Nat) (w : am_S) : Option (Int32 × am_S) :=
  some (w.1 1 2, w)
def f_X8_readFrom_12b (o0 : Nat) (x2 : Int32) (w : am_S) : Option ((Int32 × am_S) ⊕ (Int32 × am_S)) :=
  if (16 : Int32) ≤ x2 then (am_x (some (w.1 1 2, w))) else (am_b2 (f_X8_readStep o0 w) fun r_20 w_18 => if r_20 = 0 then (am_x (some (w_18.1 1 2, w_18))) else (am_b2 (f_X10_nextSign w_18) fun r_24 w_22 => if r_24 = 0 then (am_x (some ((-1 : Int32), w_22))) else (if r_24 = (59 : Int32) then (if (w_22.1 o0 2) = (16 : Int32) then (am_x (f_X8_readFrom_57 o0 w_22)) else (am_v (am_pi w_22 1 2 ((w_22.1 1 2) + (1 : Int32))) fun (w_29 : am_S) => am_v (x2 + (1 : Int32)) fun (x2_30 : Int32) => some (.inr (x2_30, w_29)))) else (am_x (f_X8_readFrom_57 o0 w_22)))))
def f_X8_readFrom_12 (o0 : Nat) (x2 : Int32) (w : am_S) : Option (Int32 × am_S) :=
  am_loop (fun (st : (Int32 × am_S)) => f_X8_readFrom_12b o0 st.1 st.2) am_fuel (x2, w)
def f_X8_readFrom (o0 : Nat) (w : am_S) : Option (Int32 × am_S) :=
  am_v (am_pi w o0 2 (0 : Int32)) fun (w_34 : am_S) => am_v (am_pi w_34 1 2 (0 : Int32)) fun (w_35 : am_S) => f_X8_readFrom_12 o0 (0 : Int32) w_35
set_option maxRecDepth 100000 in
set_option maxHeartbeats 4000000 in
theorem k_X8_readFrom {G : am_G} {l : Launch} {o0 : Nat} (ho0 : am_f8 o0) {w : am_S} {rr : Int32} {ww : am_S} (hf : f_X8_readFrom o0 w = some (rr, ww)) : am_Mi G l yX8_readFrom (Cond.code yX8_readFrom cX8_readFrom 4 (some .int) :: am_T) { frames := 5, cells := 0, slots := 0, locals := 320 } [.ref (G.1 + o0), .ref (G.1 + 1)] w rr ww := by
  refine Met.ofW (cc := cX8_readFrom) (maxL := 4) (ret := (some .int)) (by decide) rfl ?_
  intro p e s m args below meth c s₁ B hml hv
  obtain ⟨rfl, hx, hb, hr, hts, hown, hlocks, hK, hE, hH⟩ := am_begin B hv
  have hown : s.vm.findClass RX8 = some m.cls := hown
  show W p l e { frames := 5, cells := 0, slots := 0, locals := 320 } s m _ below meth c s.heap [] 0 0 _ _
  have P57 : ∀ (w : am_S) (H : Heap) (locs : List Loc) (ls : Array Slot), f_X8_readFrom_57 o0 w = some (rr, ww) → am_H G w s H locs → lv_has ls 4 [(1, .ref (G.1 + 1))] → W p l e { frames := 5, cells := 0, slots := 0, locals := 320 } s m [.ref (G.1 + o0), .ref (G.1 + 1)].toArray below meth c H locs 0 0 (MQ below (va_Qi (fun (x : Int32) (u : am_S) => x = rr ∧ u = ww) (am_U G) (am_A G)) [.ref (G.1 + o0), .ref (G.1 + 1)].toArray s 0 0 (am_A G)) (F0 m 57 ls []) := by
    intro w H locs ls hf hH hl
    unfold f_X8_readFrom_57 at hf
    refine lv_aload_n hx hb dX8_readFrom_57 rfl (lv_at hl 0 rfl) ?_
    refine am_get hx hb hts hK hown hH (am_o10 (p := 1) (by decide +kernel)) rfl am_inX10 2 (by decide) am_q49 (v := .int (w.1 1 2)) rfl dX8_readFrom_58 ?_
    exact am_reti hx hb hr hlocks hH hf dX8_readFrom_61
  have P12 : ∀ (n1 : Nat) (x2 : Int32) (w : am_S) (H : Heap) (locs : List Loc) (ls : Array Slot), am_loop (fun (st : (Int32 × am_S)) => f_X8_readFrom_12b o0 st.1 st.2) n1 (x2, w) = some (rr, ww) → am_H G w s H locs → lv_has ls 4 [(0, .ref (G.1 + o0)), (1, .ref (G.1 + 1)), (2, .int x2)] → W p l e { frames := 5, cells := 0, slots := 0, locals := 320 } s m [.ref (G.1 + o0), .ref (G.1 + 1)].toArray below meth c H locs 0 0 (MQ below (va_Qi (fun (x : Int32) (u : am_S) => x = rr ∧ u = ww) (am_U G) (am_A G)) [.ref (G.1 + o0), .ref (G.1 + 1)].toArray s 0 0 (am_A G)) (F0 m 12 ls []) := by
    intro n1
    induction n1 with
    | zero =>
      intro x2 w H locs ls hf hH hl
      exact (am_loop_zero hf).elim
    | succ n1 ih1 =>
      intro x2 w H locs ls hf hH hl
      obtain ⟨z1, hf, hk1⟩ := am_loop_succ hf
      have hf : f_X8_readFrom_12b o0 x2 w = some z1 := hf
      unfold f_X8_readFrom_12b at hf
      refine lv_iload_n hx hb dX8_readFrom_12 rfl (lv_at hl 2 rfl) ?_
      refine lv_bipush (v := 16) hx hb dX8_readFrom_13 (by decide) ?_
      refine lv_icmp_ge (tgt := 78) hx hb dX8_readFrom_15 (by decide) (fun hc_16 => ?_) (fun hc_16 => ?_)
      · have hf := (if_pos hc_16).symm.trans hf
        obtain ⟨y_17, hf, hzy_17⟩ := am_x_some hf
        rw [hzy_17] at hk1
        have hf := hf.trans (congrArg some (show y_17 = (rr, ww) from hk1))
        refine lv_aload_n hx hb dX8_readFrom_78 rfl (lv_at hl 1 rfl) ?_
        refine am_get hx hb hts hK hown hH (am_o10 (p := 1) (by decide +kernel)) rfl am_inX10 2 (by decide) am_q49 (v := .int (w.1 1 2)) rfl dX8_readFrom_79 ?_
        exact am_reti hx hb hr hlocks hH hf dX8_readFrom_82
      · have hf := (if_neg hc_16).symm.trans hf
        refine lv_aload_n hx hb dX8_readFrom_18 rfl (lv_at hl 0 rfl) ?_
        refine lv_aload_n hx hb dX8_readFrom_19 rfl (lv_at hl 1 rfl) ?_
        obtain ⟨r_20, w_18, hq_19, hf⟩ := am_b2_some hf
        refine am_calli (r := r_20) (w' := w_18) (am_runV (n := 1) (As := [.ref (G.1 + 1)]) (rest := []) ⟨hx, hb, hml, hown, hts⟩ hK hE hH (k_X8_readStep ho0 hq_19) (am_gV am_q571 am_q573 am_qs8 am_q4 am_q574) (am_o8 ho0.1) rfl ⟨rfl, rfl⟩ (by decide +kernel) ⟨Nat.le_of_ble_eq_true rfl, Nat.le_of_ble_eq_true rfl⟩ rfl hl.1 rfl (Nat.le_of_ble_eq_true rfl) ⟨Nat.zero_le _, Nat.zero_le _⟩ dX8_readFrom_20) hH (fun H locs hH => ?_)
        refine lv_if_ne (tgt := 31) hx hb dX8_readFrom_23 (by decide) (fun hc_21 => ?_) (fun hc_21 => ?_)
        · have hf := (if_neg hc_21).symm.trans hf
          refine lv_aload_n hx hb dX8_readFrom_31 rfl (lv_at hl 1 rfl) ?_
          obtain ⟨r_24, w_22, hq_23, hf⟩ := am_b2_some hf
          refine am_calli (r := r_24) (w' := w_22) (am_runV (n := 0) (As := []) (rest := []) ⟨hx, hb, hml, hown, hts⟩ hK hE hH (k_X10_nextSign hq_23) (am_gV am_q575 am_q430 am_q431 am_q2 am_q432) (am_o10 (p := 1) (by decide +kernel)) rfl ⟨rfl, rfl⟩ (by decide +kernel) ⟨Nat.le_of_ble_eq_true rfl, Nat.le_of_ble_eq_true rfl⟩ rfl hl.1 rfl (Nat.le_of_ble_eq_true rfl) ⟨Nat.zero_le _, Nat.zero_le _⟩ dX8_readFrom_32) hH (fun H locs hH => ?_)
          refine lv_istore_n (lv' := [(3, .int r_24), (0, .ref (G.1 + o0)), (1, .ref (G.1 + 1)), (2, .int x2)]) hx hb dX8_readFrom_35 rfl hl (by decide) rfl (fun ls hl => ?_)
          refine lv_iload_n hx hb dX8_readFrom_36 rfl (lv_at hl 0 rfl) ?_
          refine lv_if_ne (tgt := 42) hx hb dX8_readFrom_37 (by decide) (fun hc_25 => ?_) (fun hc_25 => ?_)
          · have hf := (if_neg hc_25).symm.trans hf
            refine lv_iload_n hx hb dX8_readFrom_42 rfl (lv_at hl 0 rfl) ?_
            refine lv_bipush (v := 59) hx hb dX8_readFrom_43 (by decide) ?_
            refine lv_icmp_ne (tgt := 57) hx hb dX8_readFrom_45 (by decide) (fun hc_26 => ?_) (fun hc_26 => ?_)
            · have hf := (if_neg hc_26).symm.trans hf
              obtain ⟨y_27, hf, hzy_27⟩ := am_x_some hf
              rw [hzy_27] at hk1
              have hf := hf.trans (congrArg some (show y_27 = (rr, ww) from hk1))
              exact P57 w_22 H locs ls hf hH (lv_sub hl [2] rfl)
            · have hf := (if_pos hc_26).symm.trans hf
              refine lv_aload_n hx hb dX8_readFrom_48 rfl (lv_at hl 1 rfl) ?_
              refine am_get hx hb hts hK hown hH (am_o8 ho0.1) rfl am_inX8 2 (by decide) am_q157 (v := .int (w_22.1 o0 2)) rfl dX8_readFrom_49 ?_
              refine lv_bipush (v := 16) hx hb dX8_readFrom_52 (by decide) ?_
              refine lv_icmp_ne (tgt := 62) hx hb dX8_readFrom_54 (by decide) (fun hc_28 => ?_) (fun hc_28 => ?_)
              · have hf := (if_neg hc_28).symm.trans hf
                refine lv_aload_n hx hb dX8_readFrom_62 rfl (lv_at hl 2 rfl) ?_
                refine lv_dup hx hb dX8_readFrom_63 rfl ?_
                refine am_get hx hb hts hK hown hH (am_o10 (p := 1) (by decide +kernel)) rfl am_inX10 2 (by decide) am_q49 (v := .int (w_22.1 1 2)) rfl dX8_readFrom_64 ?_
                refine lv_iconst (v := 1) hx hb dX8_readFrom_67 (by decide) ?_
                refine lv_iadd hx hb dX8_readFrom_68 ?_
                obtain ⟨w_29, hw_29, hf⟩ := am_v_some hf
                refine am_puti hx hb hts hK hown hH (am_o10 (p := 1) (by decide +kernel)) rfl am_inX10 tyX10 tyX10_ok nmX10 2 (by decide) am_q49 rfl rfl rfl (fun _ _ => Nat.le_of_ble_eq_true rfl) (fun _ _ _ => rfl) dX8_readFrom_69 (fun H locs hH => ?_)
                rw [← hw_29] at hH
                obtain ⟨x2_30, hx2_30, hf⟩ := am_v_some hf
                refine lv_iinc (v := x2_30) (lv' := [(2, .int x2_30), (3, .int r_24), (0, .ref (G.1 + o0)), (1, .ref (G.1 + 1))]) hx hb dX8_readFrom_72 hl (k := 3) rfl (by rw [hx2_30]; rfl) (by decide) rfl (fun ls hl => ?_)
                refine lv_goto (tgt := 12) hx hb dX8_readFrom_75 (by decide) ?_
                obtain rfl := Option.some.inj hf
                exact ih1 x2_30 w_29 H locs ls hk1 hH (lv_sub hl [2, 3, 0] rfl)
              · have hf := (if_pos hc_28).symm.trans hf
                obtain ⟨y_31, hf, hzy_31⟩ := am_x_some hf
                rw [hzy_31] at hk1
                have hf := hf.trans (congrArg some (show y_31 = (rr, ww) from hk1))
                exact P57 w_22 H locs ls hf hH (lv_sub hl [2] rfl)
          · have hf := (if_pos hc_25).symm.trans hf
            obtain ⟨y_32, hf, hzy_32⟩ := am_x_some hf
            rw [hzy_32] at hk1
            have hf := hf.trans (congrArg some (show y_32 = (rr, ww) from hk1))
            refine lv_iconst (v := -1) hx hb dX8_readFrom_40 (by decide) ?_
            exact am_reti hx hb hr hlocks hH hf dX8_readFrom_41
        · have hf := (if_pos hc_21).symm.trans hf
          obtain ⟨y_33, hf, hzy_33⟩ := am_x_some hf
          rw [hzy_33] at hk1
          have hf := hf.trans (congrArg some (show y_33 = (rr, ww) from hk1))
          refine lv_aload_n hx hb dX8_readFrom_26 rfl (lv_at hl 1 rfl) ?_
          refine am_get hx hb hts hK hown hH (am_o10 (p := 1) (by decide +kernel)) rfl am_inX10 2 (by decide) am_q49 (v := .int (w_18.1 1 2)) rfl dX8_readFrom_27 ?_
          exact am_reti hx hb hr hlocks hH hf dX8_readFrom_30
  refine am_enter (lv := [(0, .ref (G.1 + o0)), (1, .ref (G.1 + 1))]) (Nat.le_of_ble_eq_true rfl) rfl (fun ls hl => ?_)
  unfold f_X8_readFrom at hf
  refine am_start hH (fun H locs hH => ?_)
  refine lv_aload_n hx hb dX8_readFrom_0 rfl (lv_at hl 0 rfl) ?_
  refine lv_iconst (v := 0) hx hb dX8_readFrom_1 (by decide) ?_
  obtain ⟨w_34, hw_34, hf⟩ := am_v_some hf
  refine am_puti hx hb hts hK hown hH (am_o8 ho0.1) rfl am_inX8 tyX8 tyX8_ok nmX8 2 (by decide) am_q157 rfl rfl rfl (fun _ _ => Nat.le_of_ble_eq_true rfl) (fun _ _ _ => rfl) dX8_readFrom_2 (fun H locs hH => ?_)
  rw [← hw_34] at hH
  refine lv_aload_n hx hb dX8_readFrom_5 rfl (lv_at hl 1 rfl) ?_
  refine lv_iconst (v := 0) hx hb dX8_readFrom_6 (by decide) ?_
  obtain ⟨w_35, hw_35, hf⟩ := am_v_some hf
  refine am_puti hx hb hts hK hown hH (am_o10 (p := 1) (by decide +kernel)) rfl am_inX10 tyX10 tyX10_ok nmX10 2 (by decide) am_q49 rfl rfl rfl (fun _ _ => Nat.le_of_ble_eq_true rfl) (fun _ _ _ => rfl) dX8_readFrom_7 (fun H locs hH => ?_)
  rw [← hw_35] at hH
  refine lv_iconst (v := 0) hx hb dX8_readFrom_10 (by decide) ?_
  refine lv_istore_n (lv' := [(2, .int (0 : Int32)), (0, .ref (G.1 + o0)), (1, .ref (G.1 + 1))]) hx hb dX8_readFrom_11 rfl hl (by decide) rfl (fun ls hl => ?_)
  exact P12 am_fuel (0 : Int32) w_35 H locs ls hf hH (lv_sub hl [1, 2, 0] rfl)

def f_X10_add_50 (a1 : Int32) (x2 : Int32) (w : am_S) : Option (am_S ⊕ (Int32 × am_S)) :=
  am_v (x2 + (-8 : Int32)) fun (x2_9 : Int32) => some (.inr (x2_9, w))
def f_X10_add_3b (a1 : Int32) (x2 : Int32) (w : am_S) : Option (am_S ⊕ (Int32 × am_S)) :=
  if x2 < 0 then (am_x (some w)) else (am_v ((am_iushr a1 x2) &&& (255 : Int32)) fun (x3_12 : Int32) => if x3_12 = 0 then (f_X10_add_50 a1 x2 w) else (if (240 : Int32) ≤ (w.1 1 1) then (f_X10_add_50 a1 x2 w) else (am_chk (w.1 1 1) 240 (am_v (am_pi w 2 (w.1 1 1).toNatClampNeg (vp_nar .char ((x3_12.toUInt32 % 65536).toInt32))) fun (w_16 : am_S) => am_v (am_pi w_16 1 1 ((w_16.1 1 1) + (1 : Int32))) fun (w_17 : am_S) => f_X10_add_50 a1 x2 w_17))))
def f_X10_add_3 (a1 : Int32) (x2 : Int32) (w : am_S) : Option am_S :=
  am_loop (fun (st : (Int32 × am_S)) => f_X10_add_3b a1 st.1 st.2) am_fuel (x2, w)
def f_X10_add (a1 : Int32) (w : am_S) : Option am_S :=
  f_X10_add_3 a1 (24 : Int32) w
set_option maxRecDepth 100000 in
set_option maxHeartbeats 4000000 in
theorem k_X10_add {G : am_G} {l : Launch} {a1 : Int32}  {w : am_S} {ww : am_S} (hf : f_X10_add a1 w = some ww) : am_Mv G l yX10_add (Cond.code yX10_add cX10_add 4 none :: am_T) { frames := 0, cells := 0, slots := 0, locals := 0 } [.ref (G.1 + 1), .int a1] w ww := by
  refine Met.ofW (cc := cX10_add) (maxL := 4) (ret := none) (by decide) rfl ?_
  intro p e s m args below meth c s₁ B hml hv
  obtain ⟨rfl, hx, hb, hr, hts, hown, hlocks, hK, hE, hH⟩ := am_begin B hv
  have hown : s.vm.findClass RX10 = some m.cls := hown
  show W p l e { frames := 0, cells := 0, slots := 0, locals := 0 } s m _ below meth c s.heap [] 0 0 _ _
  have P3 : ∀ (n1 : Nat) (x2 : Int32) (w : am_S) (H : Heap) (locs : List Loc) (ls : Array Slot), am_loop (fun (st : (Int32 × am_S)) => f_X10_add_3b a1 st.1 st.2) n1 (x2, w) = some ww → am_H G w s H locs → lv_has ls 4 [(0, .ref (G.1 + 1)), (1, .int a1), (2, .int x2)] → W p l e { frames := 0, cells := 0, slots := 0, locals := 0 } s m [.ref (G.1 + 1), .int a1].toArray below meth c H locs 0 0 (MQ below (va_Qv (fun (u : am_S) => u = ww) (am_U G) (am_A G)) [.ref (G.1 + 1), .int a1].toArray s 0 0 (am_A G)) (F0 m 3 ls []) := by
    intro n1
    induction n1 with
    | zero =>
      intro x2 w H locs ls hf hH hl
      exact (am_loop_zero hf).elim
    | succ n1 ih1 =>
      intro x2 w H locs ls hf hH hl
      obtain ⟨z1, hf, hk1⟩ := am_loop_succ hf
      have hf : f_X10_add_3b a1 x2 w = some z1 := hf
      have P50 : ∀ (x2 : Int32) (w : am_S) (z1 : (am_S ⊕ (Int32 × am_S))) (H : Heap) (locs : List Loc) (ls : Array Slot), f_X10_add_50 a1 x2 w = some z1 → am_lk (fun (st : (Int32 × am_S)) => f_X10_add_3b a1 st.1 st.2) n1 ww z1 → am_H G w s H locs → lv_has ls 4 [(0, .ref (G.1 + 1)), (1, .int a1), (2, .int x2)] → W p l e { frames := 0, cells := 0, slots := 0, locals := 0 } s m [.ref (G.1 + 1), .int a1].toArray below meth c H locs 0 0 (MQ below (va_Qv (fun (u : am_S) => u = ww) (am_U G) (am_A G)) [.ref (G.1 + 1), .int a1].toArray s 0 0 (am_A G)) (F0 m 50 ls []) := by
        intro x2 w z1 H locs ls hf hk1 hH hl
        unfold f_X10_add_50 at hf
        obtain ⟨x2_9, hx2_9, hf⟩ := am_v_some hf
        refine lv_iinc (v := x2_9) (lv' := [(2, .int x2_9), (0, .ref (G.1 + 1)), (1, .int a1)]) hx hb dX10_add_50 hl (k := 2) rfl (by rw [hx2_9]; rfl) (by decide) rfl (fun ls hl => ?_)
        refine lv_goto (tgt := 3) hx hb dX10_add_53 (by decide) ?_
        obtain rfl := Option.some.inj hf
        exact ih1 x2_9 w H locs ls hk1 hH (lv_sub hl [1, 2, 0] rfl)
      unfold f_X10_add_3b at hf
      refine lv_iload_n hx hb dX10_add_3 rfl (lv_at hl 2 rfl) ?_
      refine lv_if_lt (tgt := 56) hx hb dX10_add_4 (by decide) (fun hc_10 => ?_) (fun hc_10 => ?_)
      · have hf := (if_pos hc_10).symm.trans hf
        obtain ⟨y_11, hf, hzy_11⟩ := am_x_some hf
        rw [hzy_11] at hk1
        have hf := hf.trans (congrArg some (show y_11 = ww from hk1))
        exact am_retv hx hb hr hlocks hH hf dX10_add_56
      · have hf := (if_neg hc_10).symm.trans hf
        refine lv_iload_n hx hb dX10_add_7 rfl (lv_at hl 1 rfl) ?_
        refine lv_iload_n hx hb dX10_add_8 rfl (lv_at hl 2 rfl) ?_
        refine lv_iushr (v := am_iushr a1 x2) hx hb dX10_add_9 rfl ?_
        refine lv_sipush (v := 255) hx hb dX10_add_10 (by decide) ?_
        refine lv_iand hx hb dX10_add_13 ?_
        obtain ⟨x3_12, hx3_12, hf⟩ := am_v_some hf
        refine am_topi hx3_12 ?_
        refine lv_istore_n (lv' := [(3, .int x3_12), (0, .ref (G.1 + 1)), (1, .int a1), (2, .int x2)]) hx hb dX10_add_14 rfl hl (by decide) rfl (fun ls hl => ?_)
        refine lv_iload_n hx hb dX10_add_15 rfl (lv_at hl 0 rfl) ?_
        refine lv_if_eq (tgt := 50) hx hb dX10_add_16 (by decide) (fun hc_13 => ?_) (fun hc_13 => ?_)
        · have hf := (if_pos hc_13).symm.trans hf
          exact P50 x2 w z1 H locs ls hf hk1 hH (lv_sub hl [1, 2, 3] rfl)
        · have hf := (if_neg hc_13).symm.trans hf
          refine lv_aload_n hx hb dX10_add_19 rfl (lv_at hl 1 rfl) ?_
          refine am_get hx hb hts hK hown hH (am_o10 (p := 1) (by decide +kernel)) rfl am_inX10 1 (by decide) am_q47 (v := .int (w.1 1 1)) rfl dX10_add_20 ?_
          refine lv_sipush (v := 240) hx hb dX10_add_23 (by decide) ?_
          refine lv_icmp_ge (tgt := 50) hx hb dX10_add_26 (by decide) (fun hc_14 => ?_) (fun hc_14 => ?_)
          · have hf := (if_pos hc_14).symm.trans hf
            exact P50 x2 w z1 H locs ls hf hk1 hH (lv_sub hl [1, 2, 3] rfl)
          · have hf := (if_neg hc_14).symm.trans hf
            refine lv_aload_n hx hb dX10_add_29 rfl (lv_at hl 1 rfl) ?_
            refine am_get hx hb hts hK hown hH (am_o10 (p := 1) (by decide +kernel)) rfl am_inX10 0 (by decide) am_q45 (v := .ref (G.1 + 2)) rfl dX10_add_30 ?_
            refine lv_aload_n hx hb dX10_add_33 rfl (lv_at hl 1 rfl) ?_
            refine am_get hx hb hts hK hown hH (am_o10 (p := 1) (by decide +kernel)) rfl am_inX10 1 (by decide) am_q47 (v := .int (w.1 1 1)) rfl dX10_add_34 ?_
            refine lv_iload_n hx hb dX10_add_37 rfl (lv_at hl 0 rfl) ?_
            refine lv_i2c hx hb dX10_add_38 rfl ?_
            obtain ⟨hi_15, hf⟩ := am_chk_some hf
            obtain ⟨w_16, hw_16, hf⟩ := am_v_some hf
            refine am_cast hx hb hK hH (am_ac_of (N := 240) (by decide +kernel)) hi_15 dX10_add_39 (fun H locs hH => ?_)
            rw [← hw_16] at hH
            refine lv_aload_n hx hb dX10_add_40 rfl (lv_at hl 1 rfl) ?_
            refine lv_dup hx hb dX10_add_41 rfl ?_
            refine am_get hx hb hts hK hown hH (am_o10 (p := 1) (by decide +kernel)) rfl am_inX10 1 (by decide) am_q47 (v := .int (w_16.1 1 1)) rfl dX10_add_42 ?_
            refine lv_iconst (v := 1) hx hb dX10_add_45 (by decide) ?_
            refine lv_iadd hx hb dX10_add_46 ?_
            obtain ⟨w_17, hw_17, hf⟩ := am_v_some hf
            refine am_puti hx hb hts hK hown hH (am_o10 (p := 1) (by decide +kernel)) rfl am_inX10 tyX10 tyX10_ok nmX10 1 (by decide) am_q47 rfl rfl rfl (fun _ _ => Nat.le_of_ble_eq_true rfl) (fun _ _ _ => rfl) dX10_add_47 (fun H locs hH => ?_)
            rw [← hw_17] at hH
            exact P50 x2 w_17 z1 H locs ls hf hk1 hH (lv_sub hl [1, 2, 3] rfl)
  refine am_enter (lv := [(0, .ref (G.1 + 1)), (1, .int a1)]) (Nat.le_of_ble_eq_true rfl) rfl (fun ls hl => ?_)
  unfold f_X10_add at hf
  refine am_start hH (fun H locs hH => ?_)
  refine lv_bipush (v := 24) hx hb dX10_add_0 (by decide) ?_
  refine lv_istore_n (lv' := [(2, .int (24 : Int32)), (0, .ref (G.1 + 1)), (1, .int a1)]) hx hb dX10_add_2 rfl hl (by decide) rfl (fun ls hl => ?_)
  exact P3 am_fuel (24 : Int32) w H locs ls hf hH (lv_sub hl [1, 2, 0] rfl)

def f_J9_floorMod_7cf53_18 (a0 : Int32) (a1 : Int32) (x2 : Int32) (w : am_S) : Option (Int32 × am_S) :=
  some (x2, w)
def f_J9_floorMod_7cf53 (a0 : Int32) (a1 : Int32) (w : am_S) : Option (Int32 × am_S) :=
  am_nz a1 (am_v (a0 - a0 / a1 * a1) fun (x2_6 : Int32) => if 0 ≤ (a0 ^^^ a1) then (f_J9_floorMod_7cf53_18 a0 a1 x2_6 w) else (if x2_6 = 0 then (f_J9_floorMod_7cf53_18 a0 a1 x2_6 w) else (some (x2_6 + a1, w))))
set_option maxRecDepth 100000 in
set_option maxHeartbeats 4000000 in
theorem k_J9_floorMod_7cf53 {G : am_G} {l : Launch} {a0 : Int32} {a1 : Int32}  {w : am_S} {rr : Int32} {ww : am_S} (hf : f_J9_floorMod_7cf53 a0 a1 w = some (rr, ww)) : am_Mi G l yJ9_floorMod_7cf53 (Cond.code yJ9_floorMod_7cf53 cJ9_floorMod_7cf53 3 (some .int) :: am_T) { frames := 0, cells := 0, slots := 0, locals := 0 } [.int a0, .int a1] w rr ww := by
  refine va_MetF (cc := cJ9_floorMod_7cf53) (maxL := 3) (ret := (some .int)) (by decide +kernel) rfl ?_
  intro p e s m args below meth c s₁ B hml hv
  obtain ⟨rfl, hx, hb, hr, hts, hown, hlocks, hK, hE, hH⟩ := am_begin B hv
  have hown : s.vm.findClass RJ9 = some m.cls := hown
  show W p l e { frames := 0, cells := 0, slots := 0, locals := 0 } s m _ below meth c s.heap [] 0 0 _ _
  have P18 : ∀ (x2 : Int32) (w : am_S) (H : Heap) (locs : List Loc) (ls : Array Slot), f_J9_floorMod_7cf53_18 a0 a1 x2 w = some (rr, ww) → am_H G w s H locs → lv_has ls 3 [(2, .int x2)] → W p l e { frames := 0, cells := 0, slots := 0, locals := 0 } s m [.int a0, .int a1].toArray below meth c H locs 0 0 (MQ below (va_Qi (fun (x : Int32) (u : am_S) => x = rr ∧ u = ww) (am_U G) (am_A G)) [.int a0, .int a1].toArray s 0 0 (am_A G)) (F0 m 18 ls []) := by
    intro x2 w H locs ls hf hH hl
    unfold f_J9_floorMod_7cf53_18 at hf
    refine lv_iload_n hx hb dJ9_floorMod_7cf53_18 rfl (lv_at hl 0 rfl) ?_
    exact am_reti hx hb hr hlocks hH hf dJ9_floorMod_7cf53_19
  refine am_enter (lv := [(0, .int a0), (1, .int a1)]) (Nat.le_of_ble_eq_true rfl) rfl (fun ls hl => ?_)
  unfold f_J9_floorMod_7cf53 at hf
  refine am_start hH (fun H locs hH => ?_)
  refine lv_iload_n hx hb dJ9_floorMod_7cf53_0 rfl (lv_at hl 0 rfl) ?_
  refine lv_iload_n hx hb dJ9_floorMod_7cf53_1 rfl (lv_at hl 1 rfl) ?_
  obtain ⟨hz_5, hf⟩ := am_nz_some hf
  refine lv_irem hx hb dJ9_floorMod_7cf53_2 hz_5 ?_
  obtain ⟨x2_6, hx2_6, hf⟩ := am_v_some hf
  refine am_topi hx2_6 ?_
  refine lv_istore_n (lv' := [(2, .int x2_6), (0, .int a0), (1, .int a1)]) hx hb dJ9_floorMod_7cf53_3 rfl hl (by decide) rfl (fun ls hl => ?_)
  refine lv_iload_n hx hb dJ9_floorMod_7cf53_4 rfl (lv_at hl 1 rfl) ?_
  refine lv_iload_n hx hb dJ9_floorMod_7cf53_5 rfl (lv_at hl 2 rfl) ?_
  refine lv_ixor hx hb dJ9_floorMod_7cf53_6 ?_
  refine lv_if_ge (tgt := 18) hx hb dJ9_floorMod_7cf53_7 (by decide) (fun hc_7 => ?_) (fun hc_7 => ?_)
  · have hf := (if_pos hc_7).symm.trans hf
    exact P18 x2_6 w H locs ls hf hH (lv_sub hl [0] rfl)
  · have hf := (if_neg hc_7).symm.trans hf
    refine lv_iload_n hx hb dJ9_floorMod_7cf53_10 rfl (lv_at hl 0 rfl) ?_
    refine lv_if_eq (tgt := 18) hx hb dJ9_floorMod_7cf53_11 (by decide) (fun hc_8 => ?_) (fun hc_8 => ?_)
    · have hf := (if_pos hc_8).symm.trans hf
      exact P18 x2_6 w H locs ls hf hH (lv_sub hl [0] rfl)
    · have hf := (if_neg hc_8).symm.trans hf
      refine lv_iload_n hx hb dJ9_floorMod_7cf53_14 rfl (lv_at hl 0 rfl) ?_
      refine lv_iload_n hx hb dJ9_floorMod_7cf53_15 rfl (lv_at hl 2 rfl) ?_
      refine lv_iadd hx hb dJ9_floorMod_7cf53_16 ?_
      exact am_reti hx hb hr hlocks hH hf dJ9_floorMod_7cf53_17

def f_X4_entry_45 (o0 : Nat) (a1 : Int32) (a2 : Int32) (s0 : Int32) (w : am_S) : Option (Int32 × am_S) :=
  some (s0, w)
def f_X4_entry (o0 : Nat) (a1 : Int32) (a2 : Int32) (w : am_S) : Option (Int32 × am_S) :=
  am_b2 (f_J9_floorMod_7cf53 (((w.1 o0 3) - (1 : Int32)) - a1) (100 : Int32) w) fun r_11 w_9 => if a2 = 0 then (am_chk r_11 100 (some (w_9.1 (o0 + 1) r_11.toNatClampNeg, w_9))) else (if a2 = (1 : Int32) then (am_chk r_11 100 (f_X4_entry_45 o0 a1 a2 (w_9.1 (o0 + 2) r_11.toNatClampNeg) w_9)) else (am_chk r_11 100 (f_X4_entry_45 o0 a1 a2 (w_9.1 (o0 + 3) r_11.toNatClampNeg) w_9)))
set_option maxRecDepth 100000 in
set_option maxHeartbeats 4000000 in
theorem k_X4_entry {G : am_G} {l : Launch} {o0 : Nat} {a1 : Int32} {a2 : Int32} (ho0 : am_f4 o0) {w : am_S} {rr : Int32} {ww : am_S} (hf : f_X4_entry o0 a1 a2 w = some (rr, ww)) : am_Mi G l yX4_entry (Cond.code yX4_entry cX4_entry 4 (some .int) :: am_T) { frames := 1, cells := 0, slots := 0, locals := 64 } [.ref (G.1 + o0), .int a1, .int a2] w rr ww := by
  refine Met.ofW (cc := cX4_entry) (maxL := 4) (ret := (some .int)) (by decide) rfl ?_
  intro p e s m args below meth c s₁ B hml hv
  obtain ⟨rfl, hx, hb, hr, hts, hown, hlocks, hK, hE, hH⟩ := am_begin B hv
  have hown : s.vm.findClass RX4 = some m.cls := hown
  show W p l e { frames := 1, cells := 0, slots := 0, locals := 64 } s m _ below meth c s.heap [] 0 0 _ _
  have P45 : ∀ (s0 : Int32) (w : am_S) (H : Heap) (locs : List Loc) (ls : Array Slot), f_X4_entry_45 o0 a1 a2 s0 w = some (rr, ww) → am_H G w s H locs → lv_has ls 4 [] → W p l e { frames := 1, cells := 0, slots := 0, locals := 64 } s m [.ref (G.1 + o0), .int a1, .int a2].toArray below meth c H locs 0 0 (MQ below (va_Qi (fun (x : Int32) (u : am_S) => x = rr ∧ u = ww) (am_U G) (am_A G)) [.ref (G.1 + o0), .int a1, .int a2].toArray s 0 0 (am_A G)) (F0 m 45 ls [.int s0]) := by
    intro s0 w H locs ls hf hH hl
    unfold f_X4_entry_45 at hf
    exact am_reti hx hb hr hlocks hH hf dX4_entry_45
  refine am_enter (lv := [(0, .ref (G.1 + o0)), (1, .int a1), (2, .int a2)]) (Nat.le_of_ble_eq_true rfl) rfl (fun ls hl => ?_)
  unfold f_X4_entry at hf
  refine am_start hH (fun H locs hH => ?_)
  refine lv_aload_n hx hb dX4_entry_0 rfl (lv_at hl 0 rfl) ?_
  refine am_get hx hb hts hK hown hH (am_o4 ho0.1) rfl am_inX4 3 (by decide) am_q212 (v := .int (w.1 o0 3)) rfl dX4_entry_1 ?_
  refine lv_iconst (v := 1) hx hb dX4_entry_4 (by decide) ?_
  refine lv_isub hx hb dX4_entry_5 ?_
  refine lv_iload_n hx hb dX4_entry_6 rfl (lv_at hl 1 rfl) ?_
  refine lv_isub hx hb dX4_entry_7 ?_
  refine lv_bipush (v := 100) hx hb dX4_entry_8 (by decide) ?_
  obtain ⟨r_11, w_9, hq_10, hf⟩ := am_b2_some hf
  refine am_calli (r := r_11) (w' := w_9) (am_runS (n := 2) (As := [.int (((w.1 o0 3) - (1 : Int32)) - a1), .int (100 : Int32)]) (rest := []) ⟨hx, hb, hml, hown, hts⟩ hK hE hH (k_J9_floorMod_7cf53 hq_10) (am_gS am_q936 am_q937 am_q18 am_q938) ⟨rfl, rfl⟩ (by decide +kernel) ⟨Nat.le_of_ble_eq_true rfl, Nat.le_of_ble_eq_true rfl⟩ rfl hl.1 rfl (Nat.le_of_ble_eq_true rfl) ⟨Nat.zero_le _, Nat.zero_le _⟩ dX4_entry_10) hH (fun H locs hH => ?_)
  refine lv_istore_n (lv' := [(3, .int r_11), (0, .ref (G.1 + o0)), (1, .int a1), (2, .int a2)]) hx hb dX4_entry_13 rfl hl (by decide) rfl (fun ls hl => ?_)
  refine lv_iload_n hx hb dX4_entry_14 rfl (lv_at hl 3 rfl) ?_
  refine lv_if_ne (tgt := 25) hx hb dX4_entry_15 (by decide) (fun hc_12 => ?_) (fun hc_12 => ?_)
  · have hf := (if_neg hc_12).symm.trans hf
    refine lv_iload_n hx hb dX4_entry_25 rfl (lv_at hl 3 rfl) ?_
    refine lv_iconst (v := 1) hx hb dX4_entry_26 (by decide) ?_
    refine lv_icmp_ne (tgt := 39) hx hb dX4_entry_27 (by decide) (fun hc_13 => ?_) (fun hc_13 => ?_)
    · have hf := (if_neg hc_13).symm.trans hf
      refine lv_aload_n hx hb dX4_entry_39 rfl (lv_at hl 1 rfl) ?_
      refine am_get hx hb hts hK hown hH (am_o4 ho0.1) rfl am_inX4 2 (by decide) am_q211 (v := .ref (G.1 + (o0 + 3))) rfl dX4_entry_40 ?_
      refine lv_iload_n hx hb dX4_entry_43 rfl (lv_at hl 0 rfl) ?_
      obtain ⟨hi_14, hf⟩ := am_chk_some hf
      refine am_iald hx hb hK hH (am_ai_of (N := 100) ho0.2.2.2) hi_14 dX4_entry_44 ?_
      exact P45 (w_9.1 (o0 + 3) r_11.toNatClampNeg) w_9 H locs ls hf hH (lv_sub hl [] rfl)
    · have hf := (if_pos hc_13).symm.trans hf
      refine lv_aload_n hx hb dX4_entry_30 rfl (lv_at hl 1 rfl) ?_
      refine am_get hx hb hts hK hown hH (am_o4 ho0.1) rfl am_inX4 1 (by decide) am_q210 (v := .ref (G.1 + (o0 + 2))) rfl dX4_entry_31 ?_
      refine lv_iload_n hx hb dX4_entry_34 rfl (lv_at hl 0 rfl) ?_
      obtain ⟨hi_15, hf⟩ := am_chk_some hf
      refine am_iald hx hb hK hH (am_ai_of (N := 100) ho0.2.2.1) hi_15 dX4_entry_35 ?_
      refine lv_goto (tgt := 45) hx hb dX4_entry_36 (by decide) ?_
      exact P45 (w_9.1 (o0 + 2) r_11.toNatClampNeg) w_9 H locs ls hf hH (lv_sub hl [] rfl)
  · have hf := (if_pos hc_12).symm.trans hf
    refine lv_aload_n hx hb dX4_entry_18 rfl (lv_at hl 1 rfl) ?_
    refine am_get hx hb hts hK hown hH (am_o4 ho0.1) rfl am_inX4 0 (by decide) am_q209 (v := .ref (G.1 + (o0 + 1))) rfl dX4_entry_19 ?_
    refine lv_iload_n hx hb dX4_entry_22 rfl (lv_at hl 0 rfl) ?_
    obtain ⟨hi_16, hf⟩ := am_chk_some hf
    refine am_iald hx hb hK hH (am_ai_of (N := 100) ho0.2.1) hi_16 dX4_entry_23 ?_
    exact am_reti hx hb hr hlocks hH hf dX4_entry_24
