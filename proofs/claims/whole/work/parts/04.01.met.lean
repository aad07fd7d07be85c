/-! functions and contracts of methods, by program (wip/whole/gen.py) -/
def f_X2_refusalOfCapture_10 (o1 : Nat) (a2 : Int32) (w : am_S) : Option (Int32 × am_S) :=
  some ((1 : Int32), w)
def f_X2_refusalOfCapture_25 (o1 : Nat) (a2 : Int32) (s0 : Int32) (w : am_S) : Option (Int32 × am_S) :=
  some (s0, w)
def f_X2_refusalOfCapture (o1 : Nat) (a2 : Int32) (w : am_S) : Option (Int32 × am_S) :=
  if a2 < 0 then (f_X2_refusalOfCapture_10 o1 a2 w) else (if a2 ≤ (99 : Int32) then (if (w.1 o1 4) = a2 then (f_X2_refusalOfCapture_25 o1 a2 (2 : Int32) w) else (f_X2_refusalOfCapture_25 o1 a2 (-1 : Int32) w)) else (f_X2_refusalOfCapture_10 o1 a2 w))
set_option maxRecDepth 100000 in
set_option maxHeartbeats 4000000 in
theorem k_X2_refusalOfCapture {G : am_G} {l : Launch} {o1 : Nat} {a2 : Int32} (ho1 : am_f9 o1) {w : am_S} {rr : Int32} {ww : am_S} (hf : f_X2_refusalOfCapture o1 a2 w = some (rr, ww)) : am_Mi G l yX2_refusalOfCapture (Cond.code yX2_refusalOfCapture cX2_refusalOfCapture 3 (some .int) :: am_T) { frames := 0, cells := 0, slots := 0, locals := 0 } [.ref (G.1 + 255), .ref (G.1 + o1), .int a2] w rr ww := by
  refine Met.ofW (cc := cX2_refusalOfCapture) (maxL := 3) (ret := (some .int)) (by decide) rfl ?_
  intro p e s m args below meth c s₁ B hml hv
  obtain ⟨rfl, hx, hb, hr, hts, hown, hlocks, hK, hE, hH⟩ := am_begin B hv
  have hown : s.vm.findClass RX2 = some m.cls := hown
  show W p l e { frames := 0, cells := 0, slots := 0, locals := 0 } s m _ below meth c s.heap [] 0 0 _ _
  have P10 : ∀ (w : am_S) (H : Heap) (locs : List Loc) (ls : Array Slot), f_X2_refusalOfCapture_10 o1 a2 w = some (rr, ww) → am_H G w s H locs → lv_has ls 3 [] → W p l e { frames := 0, cells := 0, slots := 0, locals := 0 } s m [.ref (G.1 + 255), .ref (G.1 + o1), .int a2].toArray below meth c H locs 0 0 (MQ below (va_Qi (fun (x : Int32) (u : am_S) => x = rr ∧ u = ww) (am_U G) (am_A G)) [.ref (G.1 + 255), .ref (G.1 + o1), .int a2].toArray s 0 0 (am_A G)) (F0 m 10 ls []) := by
    intro w H locs ls hf hH hl
    unfold f_X2_refusalOfCapture_10 at hf
    refine lv_iconst (v := 1) hx hb dX2_refusalOfCapture_10 (by decide) ?_
    exact am_reti hx hb hr hlocks hH hf dX2_refusalOfCapture_11
  have P25 : ∀ (s0 : Int32) (w : am_S) (H : Heap) (locs : List Loc) (ls : Array Slot), f_X2_refusalOfCapture_25 o1 a2 s0 w = some (rr, ww) → am_H G w s H locs → lv_has ls 3 [] → W p l e { frames := 0, cells := 0, slots := 0, locals := 0 } s m [.ref (G.1 + 255), .ref (G.1 + o1), .int a2].toArray below meth c H locs 0 0 (MQ below (va_Qi (fun (x : Int32) (u : am_S) => x = rr ∧ u = ww) (am_U G) (am_A G)) [.ref (G.1 + 255), .ref (G.1 + o1), .int a2].toArray s 0 0 (am_A G)) (F0 m 25 ls [.int s0]) := by
    intro s0 w H locs ls hf hH hl
    unfold f_X2_refusalOfCapture_25 at hf
    exact am_reti hx hb hr hlocks hH hf dX2_refusalOfCapture_25
  refine am_enter (lv := [(0, .ref (G.1 + 255)), (1, .ref (G.1 + o1)), (2, .int a2)]) (Nat.le_of_ble_eq_true rfl) rfl (fun ls hl => ?_)
  unfold f_X2_refusalOfCapture at hf
  refine am_start hH (fun H locs hH => ?_)
  refine lv_iload_n hx hb dX2_refusalOfCapture_0 rfl (lv_at hl 2 rfl) ?_
  refine lv_if_lt (tgt := 10) hx hb dX2_refusalOfCapture_1 (by decide) (fun hc_4 => ?_) (fun hc_4 => ?_)
  · have hf := (if_pos hc_4).symm.trans hf
    exact P10 w H locs ls hf hH (lv_sub hl [] rfl)
  · have hf := (if_neg hc_4).symm.trans hf
    refine lv_iload_n hx hb dX2_refusalOfCapture_4 rfl (lv_at hl 2 rfl) ?_
    refine lv_bipush (v := 99) hx hb dX2_refusalOfCapture_5 (by decide) ?_
    refine lv_icmp_le (tgt := 12) hx hb dX2_refusalOfCapture_7 (by decide) (fun hc_5 => ?_) (fun hc_5 => ?_)
    · have hf := (if_pos hc_5).symm.trans hf
      refine lv_aload_n hx hb dX2_refusalOfCapture_12 rfl (lv_at hl 1 rfl) ?_
      refine am_get hx hb hts hK hown hH (am_o9 ho1.1) rfl am_inX9 4 (by decide) am_q189 (v := .int (w.1 o1 4)) rfl dX2_refusalOfCapture_13 ?_
      refine lv_iload_n hx hb dX2_refusalOfCapture_16 rfl (lv_at hl 2 rfl) ?_
      refine lv_icmp_ne (tgt := 24) hx hb dX2_refusalOfCapture_17 (by decide) (fun hc_6 => ?_) (fun hc_6 => ?_)
      · have hf := (if_neg hc_6).symm.trans hf
        refine lv_iconst (v := -1) hx hb dX2_refusalOfCapture_24 (by decide) ?_
        exact P25 (-1 : Int32) w H locs ls hf hH (lv_sub hl [] rfl)
      · have hf := (if_pos hc_6).symm.trans hf
        refine lv_iconst (v := 2) hx hb dX2_refusalOfCapture_20 (by decide) ?_
        refine lv_goto (tgt := 25) hx hb dX2_refusalOfCapture_21 (by decide) ?_
        exact P25 (2 : Int32) w H locs ls hf hH (lv_sub hl [] rfl)
    · have hf := (if_neg hc_5).symm.trans hf
      exact P10 w H locs ls hf hH (lv_sub hl [] rfl)

def f_X2_refusalOfFile_17 (o1 : Nat) (a2 : Int32) (a3 : Int32) (w : am_S) : Option (Int32 × am_S) :=
  some ((0 : Int32), w)
def f_X2_refusalOfFile_58 (o1 : Nat) (a2 : Int32) (a3 : Int32) (s0 : Int32) (w : am_S) : Option (Int32 × am_S) :=
  some (s0, w)
def f_X2_refusalOfFile_53 (o1 : Nat) (a2 : Int32) (a3 : Int32) (w : am_S) : Option (Int32 × am_S) :=
  f_X2_refusalOfFile_58 o1 a2 a3 (3 : Int32) w
def f_X2_refusalOfFile (o1 : Nat) (a2 : Int32) (a3 : Int32) (w : am_S) : Option (Int32 × am_S) :=
  if a2 < 0 then (f_X2_refusalOfFile_17 o1 a2 a3 w) else (if (3 : Int32) ≤ a2 then (f_X2_refusalOfFile_17 o1 a2 a3 w) else (am_b2 (f_X2_noUser a3 w) fun r_17 w_15 => if r_17 = 0 then (am_chk a3 10 (if (w_15.1 (o1 + 1) a3.toNatClampNeg) = 0 then (some ((2 : Int32), w_15)) else (am_chk a3 10 (if (w_15.1 (o1 + 1) a3.toNatClampNeg) = (a2 + (1 : Int32)) then (am_chk a2 3 (if (w_15.1 (o1 + 4) a2.toNatClampNeg) < (10 : Int32) then (f_X2_refusalOfFile_58 o1 a2 a3 (-1 : Int32) w_15) else (f_X2_refusalOfFile_53 o1 a2 a3 w_15))) else (f_X2_refusalOfFile_53 o1 a2 a3 w_15))))) else (f_X2_refusalOfFile_17 o1 a2 a3 w_15)))
set_option maxRecDepth 100000 in
set_option maxHeartbeats 4000000 in
theorem k_X2_refusalOfFile {G : am_G} {l : Launch} {o1 : Nat} {a2 : Int32} {a3 : Int32} (ho1 : am_f9 o1) {w : am_S} {rr : Int32} {ww : am_S} (hf : f_X2_refusalOfFile o1 a2 a3 w = some (rr, ww)) : am_Mi G l yX2_refusalOfFile (Cond.code yX2_refusalOfFile cX2_refusalOfFile 4 (some .int) :: am_T) { frames := 1, cells := 0, slots := 0, locals := 64 } [.ref (G.1 + 255), .ref (G.1 + o1), .int a2, .int a3] w rr ww := by
  refine Met.ofW (cc := cX2_refusalOfFile) (maxL := 4) (ret := (some .int)) (by decide) rfl ?_
  intro p e s m args below meth c s₁ B hml hv
  obtain ⟨rfl, hx, hb, hr, hts, hown, hlocks, hK, hE, hH⟩ := am_begin B hv
  have hown : s.vm.findClass RX2 = some m.cls := hown
  show W p l e { frames := 1, cells := 0, slots := 0, locals := 64 } s m _ below meth c s.heap [] 0 0 _ _
  have P17 : ∀ (w : am_S) (H : Heap) (locs : List Loc) (ls : Array Slot), f_X2_refusalOfFile_17 o1 a2 a3 w = some (rr, ww) → am_H G w s H locs → lv_has ls 4 [] → W p l e { frames := 1, cells := 0, slots := 0, locals := 64 } s m [.ref (G.1 + 255), .ref (G.1 + o1), .int a2, .int a3].toArray below meth c H locs 0 0 (MQ below (va_Qi (fun (x : Int32) (u : am_S) => x = rr ∧ u = ww) (am_U G) (am_A G)) [.ref (G.1 + 255), .ref (G.1 + o1), .int a2, .int a3].toArray s 0 0 (am_A G)) (F0 m 17 ls []) := by
    intro w H locs ls hf hH hl
    unfold f_X2_refusalOfFile_17 at hf
    refine lv_iconst (v := 0) hx hb dX2_refusalOfFile_17 (by decide) ?_
    exact am_reti hx hb hr hlocks hH hf dX2_refusalOfFile_18
  have P58 : ∀ (s0 : Int32) (w : am_S) (H : Heap) (locs : List Loc) (ls : Array Slot), f_X2_refusalOfFile_58 o1 a2 a3 s0 w = some (rr, ww) → am_H G w s H locs → lv_has ls 4 [] → W p l e { frames := 1, cells := 0, slots := 0, locals := 64 } s m [.ref (G.1 + 255), .ref (G.1 + o1), .int a2, .int a3].toArray below meth c H locs 0 0 (MQ below (va_Qi (fun (x : Int32) (u : am_S) => x = rr ∧ u = ww) (am_U G) (am_A G)) [.ref (G.1 + 255), .ref (G.1 + o1), .int a2, .int a3].toArray s 0 0 (am_A G)) (F0 m 58 ls [.int s0]) := by
    intro s0 w H locs ls hf hH hl
    unfold f_X2_refusalOfFile_58 at hf
    exact am_reti hx hb hr hlocks hH hf dX2_refusalOfFile_58
  have P53 : ∀ (w : am_S) (H : Heap) (locs : List Loc) (ls : Array Slot), f_X2_refusalOfFile_53 o1 a2 a3 w = some (rr, ww) → am_H G w s H locs → lv_has ls 4 [] → W p l e { frames := 1, cells := 0, slots := 0, locals := 64 } s m [.ref (G.1 + 255), .ref (G.1 + o1), .int a2, .int a3].toArray below meth c H locs 0 0 (MQ below (va_Qi (fun (x : Int32) (u : am_S) => x = rr ∧ u = ww) (am_U G) (am_A G)) [.ref (G.1 + 255), .ref (G.1 + o1), .int a2, .int a3].toArray s 0 0 (am_A G)) (F0 m 53 ls []) := by
    intro w H locs ls hf hH hl
    unfold f_X2_refusalOfFile_53 at hf
    refine lv_iconst (v := 3) hx hb dX2_refusalOfFile_53 (by decide) ?_
    refine lv_goto (tgt := 58) hx hb dX2_refusalOfFile_54 (by decide) ?_
    exact P58 (3 : Int32) w H locs ls hf hH (lv_sub hl [] rfl)
  refine am_enter (lv := [(0, .ref (G.1 + 255)), (1, .ref (G.1 + o1)), (2, .int a2), (3, .int a3)]) (Nat.le_of_ble_eq_true rfl) rfl (fun ls hl => ?_)
  unfold f_X2_refusalOfFile at hf
  refine am_start hH (fun H locs hH => ?_)
  refine lv_iload_n hx hb dX2_refusalOfFile_0 rfl (lv_at hl 2 rfl) ?_
  refine lv_if_lt (tgt := 17) hx hb dX2_refusalOfFile_1 (by decide) (fun hc_13 => ?_) (fun hc_13 => ?_)
  · have hf := (if_pos hc_13).symm.trans hf
    exact P17 w H locs ls hf hH (lv_sub hl [] rfl)
  · have hf := (if_neg hc_13).symm.trans hf
    refine lv_iload_n hx hb dX2_refusalOfFile_4 rfl (lv_at hl 2 rfl) ?_
    refine lv_iconst (v := 3) hx hb dX2_refusalOfFile_5 (by decide) ?_
    refine lv_icmp_ge (tgt := 17) hx hb dX2_refusalOfFile_6 (by decide) (fun hc_14 => ?_) (fun hc_14 => ?_)
    · have hf := (if_pos hc_14).symm.trans hf
      exact P17 w H locs ls hf hH (lv_sub hl [] rfl)
    · have hf := (if_neg hc_14).symm.trans hf
      refine lv_aload_n hx hb dX2_refusalOfFile_9 rfl (lv_at hl 0 rfl) ?_
      refine lv_iload_n hx hb dX2_refusalOfFile_10 rfl (lv_at hl 3 rfl) ?_
      obtain ⟨r_17, w_15, hq_16, hf⟩ := am_b2_some hf
      refine am_calli (r := r_17) (w' := w_15) (am_runV (n := 1) (As := [.int a3]) (rest := []) ⟨hx, hb, hml, hown, hts⟩ hK hE hH (k_X2_noUser hq_16) (am_gV am_q752 am_q754 am_qs20 am_q10 am_q755) (am_o2 (p := 255) (by decide +kernel)) rfl ⟨rfl, rfl⟩ (by decide +kernel) ⟨Nat.le_of_ble_eq_true rfl, Nat.le_of_ble_eq_true rfl⟩ rfl hl.1 rfl (Nat.le_of_ble_eq_true rfl) ⟨Nat.zero_le _, Nat.zero_le _⟩ dX2_refusalOfFile_11) hH (fun H locs hH => ?_)
      refine lv_if_eq (tgt := 19) hx hb dX2_refusalOfFile_14 (by decide) (fun hc_18 => ?_) (fun hc_18 => ?_)
      · have hf := (if_pos hc_18).symm.trans hf
        refine lv_aload_n hx hb dX2_refusalOfFile_19 rfl (lv_at hl 1 rfl) ?_
        refine am_get hx hb hts hK hown hH (am_o9 ho1.1) rfl am_inX9 0 (by decide) am_q175 (v := .ref (G.1 + (o1 + 1))) rfl dX2_refusalOfFile_20 ?_
        refine lv_iload_n hx hb dX2_refusalOfFile_23 rfl (lv_at hl 3 rfl) ?_
        obtain ⟨hi_19, hf⟩ := am_chk_some hf
        refine am_iald hx hb hK hH (am_ai_of (N := 10) ho1.2.1) hi_19 dX2_refusalOfFile_24 ?_
        refine lv_if_ne (tgt := 30) hx hb dX2_refusalOfFile_25 (by decide) (fun hc_20 => ?_) (fun hc_20 => ?_)
        · have hf := (if_neg hc_20).symm.trans hf
          refine lv_aload_n hx hb dX2_refusalOfFile_30 rfl (lv_at hl 1 rfl) ?_
          refine am_get hx hb hts hK hown hH (am_o9 ho1.1) rfl am_inX9 0 (by decide) am_q175 (v := .ref (G.1 + (o1 + 1))) rfl dX2_refusalOfFile_31 ?_
          refine lv_iload_n hx hb dX2_refusalOfFile_34 rfl (lv_at hl 3 rfl) ?_
          obtain ⟨hi_21, hf⟩ := am_chk_some hf
          refine am_iald hx hb hK hH (am_ai_of (N := 10) ho1.2.1) hi_21 dX2_refusalOfFile_35 ?_
          refine lv_iload_n hx hb dX2_refusalOfFile_36 rfl (lv_at hl 2 rfl) ?_
          refine lv_iconst (v := 1) hx hb dX2_refusalOfFile_37 (by decide) ?_
          refine lv_iadd hx hb dX2_refusalOfFile_38 ?_
          refine lv_icmp_ne (tgt := 53) hx hb dX2_refusalOfFile_39 (by decide) (fun hc_22 => ?_) (fun hc_22 => ?_)
          · have hf := (if_neg hc_22).symm.trans hf
            exact P53 w_15 H locs ls hf hH (lv_sub hl [] rfl)
          · have hf := (if_pos hc_22).symm.trans hf
            refine lv_aload_n hx hb dX2_refusalOfFile_42 rfl (lv_at hl 1 rfl) ?_
            refine am_get hx hb hts hK hown hH (am_o9 ho1.1) rfl am_inX9 3 (by decide) am_q185 (v := .ref (G.1 + (o1 + 4))) rfl dX2_refusalOfFile_43 ?_
            refine lv_iload_n hx hb dX2_refusalOfFile_46 rfl (lv_at hl 2 rfl) ?_
            obtain ⟨hi_23, hf⟩ := am_chk_some hf
            refine am_iald hx hb hK hH (am_ai_of (N := 3) ho1.2.2.2.2) hi_23 dX2_refusalOfFile_47 ?_
            refine lv_bipush (v := 10) hx hb dX2_refusalOfFile_48 (by decide) ?_
            refine lv_icmp_lt (tgt := 57) hx hb dX2_refusalOfFile_50 (by decide) (fun hc_24 => ?_) (fun hc_24 => ?_)
            · have hf := (if_pos hc_24).symm.trans hf
              refine lv_iconst (v := -1) hx hb dX2_refusalOfFile_57 (by decide) ?_
              exact P58 (-1 : Int32) w_15 H locs ls hf hH (lv_sub hl [] rfl)
            · have hf := (if_neg hc_24).symm.trans hf
              exact P53 w_15 H locs ls hf hH (lv_sub hl [] rfl)
        · have hf := (if_pos hc_20).symm.trans hf
          refine lv_iconst (v := 2) hx hb dX2_refusalOfFile_28 (by decide) ?_
          exact am_reti hx hb hr hlocks hH hf dX2_refusalOfFile_29
      · have hf := (if_neg hc_18).symm.trans hf
        exact P17 w_15 H locs ls hf hH (lv_sub hl [] rfl)

def f_X2_refusalOf_107 (o1 : Nat) (a2 : Int32) (a3 : Int32) (a4 : Int32) (w : am_S) : Option (Int32 × am_S) :=
  am_b2 (f_X2_refusalOfUserAct o1 a2 a3 a4 w) fun r_27 w_25 => some (r_27, w_25)
def f_X2_refusalOf_90 (o1 : Nat) (a2 : Int32) (a3 : Int32) (a4 : Int32) (s0 : Int32) (w : am_S) : Option (Int32 × am_S) :=
  some (s0, w)
def f_X2_refusalOf_60 (o1 : Nat) (a2 : Int32) (a3 : Int32) (a4 : Int32) (w : am_S) : Option (Int32 × am_S) :=
  am_b1 (f_X7_lookAt o1 w) fun w_28 => am_b2 (f_X7_clearAnywhere (w_28.1 250 6) w_28) fun r_32 w_30 => if r_32 = 0 then (f_X2_refusalOf_90 o1 a2 a3 a4 (2 : Int32) w_30) else (f_X2_refusalOf_90 o1 a2 a3 a4 (-1 : Int32) w_30)
def f_X2_refusalOf (o1 : Nat) (a2 : Int32) (a3 : Int32) (a4 : Int32) (w : am_S) : Option (Int32 × am_S) :=
  if (w.1 11 11) = 0 then (some ((0 : Int32), w)) else ((if a2 = (0 : Int32) then (f_X2_refusalOf_60 o1 a2 a3 a4 w) else (if a2 = (1 : Int32) then (f_X2_refusalOf_60 o1 a2 a3 a4 w) else (if a2 = (2 : Int32) then (f_X2_refusalOf_107 o1 a2 a3 a4 w) else (if a2 = (3 : Int32) then (f_X2_refusalOf_107 o1 a2 a3 a4 w) else (if a2 = (4 : Int32) then (f_X2_refusalOf_107 o1 a2 a3 a4 w) else (if a2 = (5 : Int32) then (am_b2 (f_X2_refusalOfCapture o1 a3 w) fun r_45 w_43 => some (r_45, w_43)) else (if a2 = (6 : Int32) then (f_X2_refusalOf_107 o1 a2 a3 a4 w) else (if a2 = (7 : Int32) then (am_b2 (f_X2_refusalOfFile o1 a3 a4 w) fun r_48 w_46 => some (r_48, w_46)) else (f_X2_refusalOf_107 o1 a2 a3 a4 w))))))))))
set_option maxRecDepth 100000 in
set_option maxHeartbeats 4000000 in
theorem k_X2_refusalOf {G : am_G} {l : Launch} {o1 : Nat} {a2 : Int32} {a3 : Int32} {a4 : Int32} (ho1 : am_f9 o1) {w : am_S} {rr : Int32} {ww : am_S} (hf : f_X2_refusalOf o1 a2 a3 a4 w = some (rr, ww)) : am_Mi G l yX2_refusalOf (Cond.code yX2_refusalOf cX2_refusalOf 5 (some .int) :: am_T) { frames := 3, cells := 0, slots := 0, locals := 192 } [.ref (G.1 + 255), .ref (G.1 + o1), .int a2, .int a3, .int a4] w rr ww := by
  refine Met.ofW (cc := cX2_refusalOf) (maxL := 5) (ret := (some .int)) (by decide) rfl ?_
  intro p e s m args below meth c s₁ B hml hv
  obtain ⟨rfl, hx, hb, hr, hts, hown, hlocks, hK, hE, hH⟩ := am_begin B hv
  have hown : s.vm.findClass RX2 = some m.cls := hown
  show W p l e { frames := 3, cells := 0, slots := 0, locals := 192 } s m _ below meth c s.heap [] 0 0 _ _
  have P107 : ∀ (w : am_S) (H : Heap) (locs : List Loc) (ls : Array Slot), f_X2_refusalOf_107 o1 a2 a3 a4 w = some (rr, ww) → am_H G w s H locs → lv_has ls 5 [(0, .ref (G.1 + 255)), (1, .ref (G.1 + o1)), (2, .int a2), (3, .int a3), (4, .int a4)] → W p l e { frames := 3, cells := 0, slots := 0, locals := 192 } s m [.ref (G.1 + 255), .ref (G.1 + o1), .int a2, .int a3, .int a4].toArray below meth c H locs 0 0 (MQ below (va_Qi (fun (x : Int32) (u : am_S) => x = rr ∧ u = ww) (am_U G) (am_A G)) [.ref (G.1 + 255), .ref (G.1 + o1), .int a2, .int a3, .int a4].toArray s 0 0 (am_A G)) (F0 m 107 ls []) := by
    intro w H locs ls hf hH hl
    unfold f_X2_refusalOf_107 at hf
    refine lv_aload_n hx hb dX2_refusalOf_107 rfl (lv_at hl 0 rfl) ?_
    refine lv_aload_n hx hb dX2_refusalOf_108 rfl (lv_at hl 1 rfl) ?_
    refine lv_iload_n hx hb dX2_refusalOf_109 rfl (lv_at hl 2 rfl) ?_
    refine lv_iload_n hx hb dX2_refusalOf_110 rfl (lv_at hl 3 rfl) ?_
    refine lv_iload hx hb dX2_refusalOf_111 (lv_at hl 4 rfl) ?_
    obtain ⟨r_27, w_25, hq_26, hf⟩ := am_b2_some hf
    refine am_calli (r := r_27) (w' := w_25) (am_runV (n := 4) (As := [.ref (G.1 + o1), .int a2, .int a3, .int a4]) (rest := []) ⟨hx, hb, hml, hown, hts⟩ hK hE hH (k_X2_refusalOfUserAct ho1 hq_26) (am_gV am_q756 am_q758 am_qs21 am_q10 am_q759) (am_o2 (p := 255) (by decide +kernel)) rfl ⟨rfl, rfl⟩ (by decide +kernel) ⟨Nat.le_of_ble_eq_true rfl, Nat.le_of_ble_eq_true rfl⟩ rfl hl.1 rfl (Nat.le_of_ble_eq_true rfl) ⟨Nat.zero_le _, Nat.zero_le _⟩ dX2_refusalOf_113) hH (fun H locs hH => ?_)
    exact am_reti hx hb hr hlocks hH hf dX2_refusalOf_116
  have P90 : ∀ (s0 : Int32) (w : am_S) (H : Heap) (locs : List Loc) (ls : Array Slot), f_X2_refusalOf_90 o1 a2 a3 a4 s0 w = some (rr, ww) → am_H G w s H locs → lv_has ls 5 [] → W p l e { frames := 3, cells := 0, slots := 0, locals := 192 } s m [.ref (G.1 + 255), .ref (G.1 + o1), .int a2, .int a3, .int a4].toArray below meth c H locs 0 0 (MQ below (va_Qi (fun (x : Int32) (u : am_S) => x = rr ∧ u = ww) (am_U G) (am_A G)) [.ref (G.1 + 255), .ref (G.1 + o1), .int a2, .int a3, .int a4].toArray s 0 0 (am_A G)) (F0 m 90 ls [.int s0]) := by
    intro s0 w H locs ls hf hH hl
    unfold f_X2_refusalOf_90 at hf
    exact am_reti hx hb hr hlocks hH hf dX2_refusalOf_90
  have P60 : ∀ (w : am_S) (H : Heap) (locs : List Loc) (ls : Array Slot), f_X2_refusalOf_60 o1 a2 a3 a4 w = some (rr, ww) → am_H G w s H locs → lv_has ls 5 [(0, .ref (G.1 + 255)), (1, .ref (G.1 + o1))] → W p l e { frames := 3, cells := 0, slots := 0, locals := 192 } s m [.ref (G.1 + 255), .ref (G.1 + o1), .int a2, .int a3, .int a4].toArray below meth c H locs 0 0 (MQ below (va_Qi (fun (x : Int32) (u : am_S) => x = rr ∧ u = ww) (am_U G) (am_A G)) [.ref (G.1 + 255), .ref (G.1 + o1), .int a2, .int a3, .int a4].toArray s 0 0 (am_A G)) (F0 m 60 ls []) := by
    intro w H locs ls hf hH hl
    unfold f_X2_refusalOf_60 at hf
    refine lv_aload_n hx hb dX2_refusalOf_60 rfl (lv_at hl 0 rfl) ?_
    refine am_get hx hb hts hK hown hH (am_o2 (p := 255) (by decide +kernel)) rfl am_inX2 1 (by decide) am_q299 (v := .ref (G.1 + 250)) rfl dX2_refusalOf_61 ?_
    refine lv_aload_n hx hb dX2_refusalOf_64 rfl (lv_at hl 1 rfl) ?_
    obtain ⟨w_28, hq_29, hf⟩ := am_b1_some hf
    refine am_callv (w' := w_28) (am_runV (n := 1) (As := [.ref (G.1 + o1)]) (rest := []) ⟨hx, hb, hml, hown, hts⟩ hK hE hH (k_X7_lookAt ho1 hq_29) (am_gV am_q737 am_q671 am_q672 am_q9 am_q673) (am_o7 (p := 250) (by decide +kernel)) rfl ⟨rfl, rfl⟩ (by decide +kernel) ⟨Nat.le_of_ble_eq_true rfl, Nat.le_of_ble_eq_true rfl⟩ rfl hl.1 rfl (Nat.le_of_ble_eq_true rfl) ⟨Nat.zero_le _, Nat.zero_le _⟩ dX2_refusalOf_65) hH (fun H locs hH => ?_)
    refine lv_aload_n hx hb dX2_refusalOf_68 rfl (lv_at hl 0 rfl) ?_
    refine am_get hx hb hts hK hown hH (am_o2 (p := 255) (by decide +kernel)) rfl am_inX2 1 (by decide) am_q299 (v := .ref (G.1 + 250)) rfl dX2_refusalOf_69 ?_
    refine lv_aload_n hx hb dX2_refusalOf_72 rfl (lv_at hl 0 rfl) ?_
    refine am_get hx hb hts hK hown hH (am_o2 (p := 255) (by decide +kernel)) rfl am_inX2 1 (by decide) am_q299 (v := .ref (G.1 + 250)) rfl dX2_refusalOf_73 ?_
    refine am_get hx hb hts hK hown hH (am_o7 (p := 250) (by decide +kernel)) rfl am_inX7 6 (by decide) am_q272 (v := .int (w_28.1 250 6)) rfl dX2_refusalOf_76 ?_
    obtain ⟨r_32, w_30, hq_31, hf⟩ := am_b2_some hf
    refine am_calli (r := r_32) (w' := w_30) (am_runV (n := 1) (As := [.int (w_28.1 250 6)]) (rest := []) ⟨hx, hb, hml, hown, hts⟩ hK hE hH (k_X7_clearAnywhere hq_31) (am_gV am_q738 am_q739 am_q740 am_q9 am_q741) (am_o7 (p := 250) (by decide +kernel)) rfl ⟨rfl, rfl⟩ (by decide +kernel) ⟨Nat.le_of_ble_eq_true rfl, Nat.le_of_ble_eq_true rfl⟩ rfl hl.1 rfl (Nat.le_of_ble_eq_true rfl) ⟨Nat.zero_le _, Nat.zero_le _⟩ dX2_refusalOf_79) hH (fun H locs hH => ?_)
    refine lv_if_ne (tgt := 89) hx hb dX2_refusalOf_82 (by decide) (fun hc_33 => ?_) (fun hc_33 => ?_)
    · have hf := (if_neg hc_33).symm.trans hf
      refine lv_iconst (v := -1) hx hb dX2_refusalOf_89 (by decide) ?_
      exact P90 (-1 : Int32) w_30 H locs ls hf hH (lv_sub hl [] rfl)
    · have hf := (if_pos hc_33).symm.trans hf
      refine lv_iconst (v := 2) hx hb dX2_refusalOf_85 (by decide) ?_
      refine lv_goto (tgt := 90) hx hb dX2_refusalOf_86 (by decide) ?_
      exact P90 (2 : Int32) w_30 H locs ls hf hH (lv_sub hl [] rfl)
  refine am_enter (lv := [(0, .ref (G.1 + 255)), (1, .ref (G.1 + o1)), (2, .int a2), (3, .int a3), (4, .int a4)]) (Nat.le_of_ble_eq_true rfl) rfl (fun ls hl => ?_)
  unfold f_X2_refusalOf at hf
  refine am_start hH (fun H locs hH => ?_)
  refine lv_aload_n hx hb dX2_refusalOf_0 rfl (lv_at hl 0 rfl) ?_
  refine am_get hx hb hts hK hown hH (am_o2 (p := 255) (by decide +kernel)) rfl am_inX2 0 (by decide) am_q298 (v := .ref (G.1 + 11)) rfl dX2_refusalOf_1 ?_
  refine am_get hx hb hts hK hown hH (am_o1 (p := 11) (by decide +kernel)) rfl am_inX1 11 (by decide) am_q105 (v := .int (w.1 11 11)) rfl dX2_refusalOf_4 ?_
  refine lv_if_ne (tgt := 12) hx hb dX2_refusalOf_7 (by decide) (fun hc_34 => ?_) (fun hc_34 => ?_)
  · have hf := (if_neg hc_34).symm.trans hf
    refine lv_iload_n hx hb dX2_refusalOf_12 rfl (lv_at hl 2 rfl) ?_
    by_cases he_35 : a2 = (0 : Int32)
    · have hf := (if_pos he_35).symm.trans hf
      refine lv_tableIn (off := 47) (tgt := 60) hx hb dX2_refusalOf_13 (by rw [he_35]; decide) (by rw [he_35]; decide) (by rw [he_35]; rfl) (by decide) ?_
      exact P60 w H locs ls hf hH (lv_sub hl [0, 1] rfl)
    have hf := (if_neg he_35).symm.trans hf
    by_cases he_36 : a2 = (1 : Int32)
    · have hf := (if_pos he_36).symm.trans hf
      refine lv_tableIn (off := 47) (tgt := 60) hx hb dX2_refusalOf_13 (by rw [he_36]; decide) (by rw [he_36]; decide) (by rw [he_36]; rfl) (by decide) ?_
      exact P60 w H locs ls hf hH (lv_sub hl [0, 1] rfl)
    have hf := (if_neg he_36).symm.trans hf
    by_cases he_37 : a2 = (2 : Int32)
    · have hf := (if_pos he_37).symm.trans hf
      refine lv_tableIn (off := 94) (tgt := 107) hx hb dX2_refusalOf_13 (by rw [he_37]; decide) (by rw [he_37]; decide) (by rw [he_37]; rfl) (by decide) ?_
      exact P107 w H locs ls hf hH (lv_sub hl [0, 1, 2, 3, 4] rfl)
    have hf := (if_neg he_37).symm.trans hf
    by_cases he_38 : a2 = (3 : Int32)
    · have hf := (if_pos he_38).symm.trans hf
      refine lv_tableIn (off := 94) (tgt := 107) hx hb dX2_refusalOf_13 (by rw [he_38]; decide) (by rw [he_38]; decide) (by rw [he_38]; rfl) (by decide) ?_
      exact P107 w H locs ls hf hH (lv_sub hl [0, 1, 2, 3, 4] rfl)
    have hf := (if_neg he_38).symm.trans hf
    by_cases he_39 : a2 = (4 : Int32)
    · have hf := (if_pos he_39).symm.trans hf
      refine lv_tableIn (off := 94) (tgt := 107) hx hb dX2_refusalOf_13 (by rw [he_39]; decide) (by rw [he_39]; decide) (by rw [he_39]; rfl) (by decide) ?_
      exact P107 w H locs ls hf hH (lv_sub hl [0, 1, 2, 3, 4] rfl)
    have hf := (if_neg he_39).symm.trans hf
    by_cases he_40 : a2 = (5 : Int32)
    · have hf := (if_pos he_40).symm.trans hf
      refine lv_tableIn (off := 78) (tgt := 91) hx hb dX2_refusalOf_13 (by rw [he_40]; decide) (by rw [he_40]; decide) (by rw [he_40]; rfl) (by decide) ?_
      refine lv_aload_n hx hb dX2_refusalOf_91 rfl (lv_at hl 0 rfl) ?_
      refine lv_aload_n hx hb dX2_refusalOf_92 rfl (lv_at hl 1 rfl) ?_
      refine lv_iload_n hx hb dX2_refusalOf_93 rfl (lv_at hl 3 rfl) ?_
      obtain ⟨r_45, w_43, hq_44, hf⟩ := am_b2_some hf
      refine am_calli (r := r_45) (w' := w_43) (am_runV (n := 2) (As := [.ref (G.1 + o1), .int a3]) (rest := []) ⟨hx, hb, hml, hown, hts⟩ hK hE hH (k_X2_refusalOfCapture ho1 hq_44) (am_gV am_q744 am_q746 am_qs18 am_q10 am_q747) (am_o2 (p := 255) (by decide +kernel)) rfl ⟨rfl, rfl⟩ (by decide +kernel) ⟨Nat.le_of_ble_eq_true rfl, Nat.le_of_ble_eq_true rfl⟩ rfl hl.1 rfl (Nat.le_of_ble_eq_true rfl) ⟨Nat.zero_le _, Nat.zero_le _⟩ dX2_refusalOf_94) hH (fun H locs hH => ?_)
      exact am_reti hx hb hr hlocks hH hf dX2_refusalOf_97
    have hf := (if_neg he_40).symm.trans hf
    by_cases he_41 : a2 = (6 : Int32)
    · have hf := (if_pos he_41).symm.trans hf
      refine lv_tableIn (off := 94) (tgt := 107) hx hb dX2_refusalOf_13 (by rw [he_41]; decide) (by rw [he_41]; decide) (by rw [he_41]; rfl) (by decide) ?_
      exact P107 w H locs ls hf hH (lv_sub hl [0, 1, 2, 3, 4] rfl)
    have hf := (if_neg he_41).symm.trans hf
    by_cases he_42 : a2 = (7 : Int32)
    · have hf := (if_pos he_42).symm.trans hf
      refine lv_tableIn (off := 85) (tgt := 98) hx hb dX2_refusalOf_13 (by rw [he_42]; decide) (by rw [he_42]; decide) (by rw [he_42]; rfl) (by decide) ?_
      refine lv_aload_n hx hb dX2_refusalOf_98 rfl (lv_at hl 0 rfl) ?_
      refine lv_aload_n hx hb dX2_refusalOf_99 rfl (lv_at hl 1 rfl) ?_
      refine lv_iload_n hx hb dX2_refusalOf_100 rfl (lv_at hl 3 rfl) ?_
      refine lv_iload hx hb dX2_refusalOf_101 (lv_at hl 4 rfl) ?_
      obtain ⟨r_48, w_46, hq_47, hf⟩ := am_b2_some hf
      refine am_calli (r := r_48) (w' := w_46) (am_runV (n := 3) (As := [.ref (G.1 + o1), .int a3, .int a4]) (rest := []) ⟨hx, hb, hml, hown, hts⟩ hK hE hH (k_X2_refusalOfFile ho1 hq_47) (am_gV am_q748 am_q750 am_qs19 am_q10 am_q751) (am_o2 (p := 255) (by decide +kernel)) rfl ⟨rfl, rfl⟩ (by decide +kernel) ⟨Nat.le_of_ble_eq_true rfl, Nat.le_of_ble_eq_true rfl⟩ rfl hl.1 rfl (Nat.le_of_ble_eq_true rfl) ⟨Nat.zero_le _, Nat.zero_le _⟩ dX2_refusalOf_103) hH (fun H locs hH => ?_)
      exact am_reti hx hb hr hlocks hH hf dX2_refusalOf_106
    have hf := (if_neg he_42).symm.trans hf
    have nhe_35 := am_tne (k := 0) (0 : Int32) (by decide) he_35
    have nhe_36 := am_tne (k := 1) (1 : Int32) (by decide) he_36
    have nhe_37 := am_tne (k := 2) (2 : Int32) (by decide) he_37
    have nhe_38 := am_tne (k := 3) (3 : Int32) (by decide) he_38
    have nhe_39 := am_tne (k := 4) (4 : Int32) (by decide) he_39
    have nhe_40 := am_tne (k := 5) (5 : Int32) (by decide) he_40
    have nhe_41 := am_tne (k := 6) (6 : Int32) (by decide) he_41
    have nhe_42 := am_tne (k := 7) (7 : Int32) (by decide) he_42
    refine lv_tableOut (tgt := 107) hx hb dX2_refusalOf_13 (by omega) (by decide) ?_
    exact P107 w H locs ls hf hH (lv_sub hl [0, 1, 2, 3, 4] rfl)
  · have hf := (if_pos hc_34).symm.trans hf
    refine lv_iconst (v := 0) hx hb dX2_refusalOf_10 (by decide) ?_
    exact am_reti hx hb hr hlocks hH hf dX2_refusalOf_11

def f_J9_min_7cf53_10 (a0 : Int32) (a1 : Int32) (s0 : Int32) (w : am_S) : Option (Int32 × am_S) :=
  some (s0, w)
def f_J9_min_7cf53 (a0 : Int32) (a1 : Int32) (w : am_S) : Option (Int32 × am_S) :=
  if a1 < a0 then (f_J9_min_7cf53_10 a0 a1 a1 w) else (f_J9_min_7cf53_10 a0 a1 a0 w)
set_option maxRecDepth 100000 in
set_option maxHeartbeats 4000000 in
theorem k_J9_min_7cf53 {G : am_G} {l : Launch} {a0 : Int32} {a1 : Int32}  {w : am_S} {rr : Int32} {ww : am_S} (hf : f_J9_min_7cf53 a0 a1 w = some (rr, ww)) : am_Mi G l yJ9_min_7cf53 (Cond.code yJ9_min_7cf53 cJ9_min_7cf53 2 (some .int) :: am_T) { frames := 0, cells := 0, slots := 0, locals := 0 } [.int a0, .int a1] w rr ww := by
  refine va_MetF (cc := cJ9_min_7cf53) (maxL := 2) (ret := (some .int)) (by decide +kernel) rfl ?_
  intro p e s m args below meth c s₁ B hml hv
  obtain ⟨rfl, hx, hb, hr, hts, hown, hlocks, hK, hE, hH⟩ := am_begin B hv
  have hown : s.vm.findClass RJ9 = some m.cls := hown
  show W p l e { frames := 0, cells := 0, slots := 0, locals := 0 } s m _ below meth c s.heap [] 0 0 _ _
  have P10 : ∀ (s0 : Int32) (w : am_S) (H : Heap) (locs : List Loc) (ls : Array Slot), f_J9_min_7cf53_10 a0 a1 s0 w = some (rr, ww) → am_H G w s H locs → lv_has ls 2 [] → W p l e { frames := 0, cells := 0, slots := 0, locals := 0 } s m [.int a0, .int a1].toArray below meth c H locs 0 0 (MQ below (va_Qi (fun (x : Int32) (u : am_S) => x = rr ∧ u = ww) (am_U G) (am_A G)) [.int a0, .int a1].toArray s 0 0 (am_A G)) (F0 m 10 ls [.int s0]) := by
    intro s0 w H locs ls hf hH hl
    unfold f_J9_min_7cf53_10 at hf
    exact am_reti hx hb hr hlocks hH hf dJ9_min_7cf53_10
  refine am_enter (lv := [(0, .int a0), (1, .int a1)]) (Nat.le_of_ble_eq_true rfl) rfl (fun ls hl => ?_)
  unfold f_J9_min_7cf53 at hf
  refine am_start hH (fun H locs hH => ?_)
  refine lv_iload_n hx hb dJ9_min_7cf53_0 rfl (lv_at hl 0 rfl) ?_
  refine lv_iload_n hx hb dJ9_min_7cf53_1 rfl (lv_at hl 1 rfl) ?_
  refine lv_icmp_gt (tgt := 9) hx hb dJ9_min_7cf53_2 (by decide) (fun hc_2 => ?_) (fun hc_2 => ?_)
  · have hf := (if_pos hc_2).symm.trans hf
    refine lv_iload_n hx hb dJ9_min_7cf53_9 rfl (lv_at hl 1 rfl) ?_
    exact P10 a1 w H locs ls hf hH (lv_sub hl [] rfl)
  · have hf := (if_neg hc_2).symm.trans hf
    refine lv_iload_n hx hb dJ9_min_7cf53_5 rfl (lv_at hl 0 rfl) ?_
    refine lv_goto (tgt := 10) hx hb dJ9_min_7cf53_6 (by decide) ?_
    exact P10 a0 w H locs ls hf hH (lv_sub hl [] rfl)

def f_X3_keep (o1 : Nat) (w : am_S) : Option am_S :=
  am_chk (w.1 46 1) 40 (am_b1 (f_X9_takeFrom (48 + 5 * (w.1 46 1).toNatClampNeg) o1 w) fun w_10 => am_v (am_pi w_10 46 1 (((w_10.1 46 1) + (1 : Int32)) - ((w_10.1 46 1) + (1 : Int32)) / (40 : Int32) * (40 : Int32))) fun (w_12 : am_S) => am_b2 (f_J9_min_7cf53 ((w_12.1 46 2) + (1 : Int32)) (40 : Int32) w_12) fun r_15 w_13 => am_v (am_pi w_13 46 2 r_15) fun (w_16 : am_S) => some w_16)
set_option maxRecDepth 100000 in
set_option maxHeartbeats 4000000 in
theorem k_X3_keep {G : am_G} {l : Launch} {o1 : Nat} (ho1 : am_f9 o1) {w : am_S} {ww : am_S} (hf : f_X3_keep o1 w = some ww) : am_Mv G l yX3_keep (Cond.code yX3_keep cX3_keep 2 none :: am_T) { frames := 3, cells := 0, slots := 0, locals := 192 } [.ref (G.1 + 46), .ref (G.1 + o1)] w ww := by
  refine Met.ofW (cc := cX3_keep) (maxL := 2) (ret := none) (by decide) rfl ?_
  intro p e s m args below meth c s₁ B hml hv
  obtain ⟨rfl, hx, hb, hr, hts, hown, hlocks, hK, hE, hH⟩ := am_begin B hv
  have hown : s.vm.findClass RX3 = some m.cls := hown
  show W p l e { frames := 3, cells := 0, slots := 0, locals := 192 } s m _ below meth c s.heap [] 0 0 _ _
  refine am_enter (lv := [(0, .ref (G.1 + 46)), (1, .ref (G.1 + o1))]) (Nat.le_of_ble_eq_true rfl) rfl (fun ls hl => ?_)
  unfold f_X3_keep at hf
  refine am_start hH (fun H locs hH => ?_)
  refine lv_aload_n hx hb dX3_keep_0 rfl (lv_at hl 0 rfl) ?_
  refine am_get hx hb hts hK hown hH (am_o3 (p := 46) (by decide +kernel)) rfl am_inX3 0 (by decide) am_q232 (v := .ref (G.1 + 47)) rfl dX3_keep_1 ?_
  refine lv_aload_n hx hb dX3_keep_4 rfl (lv_at hl 0 rfl) ?_
  refine am_get hx hb hts hK hown hH (am_o3 (p := 46) (by decide +kernel)) rfl am_inX3 1 (by decide) am_q233 (v := .int (w.1 46 1)) rfl dX3_keep_5 ?_
  obtain ⟨hi_9, hf⟩ := am_chk_some hf
  refine am_aald5 hx hb hK hH hi_9 dX3_keep_8 ?_
  refine lv_aload_n hx hb dX3_keep_9 rfl (lv_at hl 1 rfl) ?_
  obtain ⟨w_10, hq_11, hf⟩ := am_b1_some hf
  refine am_callv (w' := w_10) (am_runV (n := 1) (As := [.ref (G.1 + o1)]) (rest := []) ⟨hx, hb, hml, hown, hts⟩ hK hE hH (k_X9_takeFrom (am_row5 hi_9) ho1 hq_11) (am_gV am_q775 am_q776 am_q777 am_q5 am_q778) (am_o9 (am_row5 hi_9).1) rfl ⟨rfl, rfl⟩ (by decide +kernel) ⟨Nat.le_of_ble_eq_true rfl, Nat.le_of_ble_eq_true rfl⟩ rfl hl.1 rfl (Nat.le_of_ble_eq_true rfl) ⟨Nat.zero_le _, Nat.zero_le _⟩ dX3_keep_10) hH (fun H locs hH => ?_)
  refine lv_aload_n hx hb dX3_keep_13 rfl (lv_at hl 0 rfl) ?_
  refine lv_aload_n hx hb dX3_keep_14 rfl (lv_at hl 0 rfl) ?_
  refine am_get hx hb hts hK hown hH (am_o3 (p := 46) (by decide +kernel)) rfl am_inX3 1 (by decide) am_q233 (v := .int (w_10.1 46 1)) rfl dX3_keep_15 ?_
  refine lv_iconst (v := 1) hx hb dX3_keep_18 (by decide) ?_
  refine lv_iadd hx hb dX3_keep_19 ?_
  refine lv_bipush (v := 40) hx hb dX3_keep_20 (by decide) ?_
  refine lv_irem hx hb dX3_keep_22 (by decide) ?_
  obtain ⟨w_12, hw_12, hf⟩ := am_v_some hf
  refine am_puti hx hb hts hK hown hH (am_o3 (p := 46) (by decide +kernel)) rfl am_inX3 tyX3 tyX3_ok nmX3 1 (by decide) am_q233 rfl rfl rfl (fun _ _ => Nat.le_of_ble_eq_true rfl) (fun _ _ _ => rfl) dX3_keep_23 (fun H locs hH => ?_)
  rw [← hw_12] at hH
  refine lv_aload_n hx hb dX3_keep_26 rfl (lv_at hl 0 rfl) ?_
  refine lv_aload_n hx hb dX3_keep_27 rfl (lv_at hl 0 rfl) ?_
  refine am_get hx hb hts hK hown hH (am_o3 (p := 46) (by decide +kernel)) rfl am_inX3 2 (by decide) am_q234 (v := .int (w_12.1 46 2)) rfl dX3_keep_28 ?_
  refine lv_iconst (v := 1) hx hb dX3_keep_31 (by decide) ?_
  refine lv_iadd hx hb dX3_keep_32 ?_
  refine lv_bipush (v := 40) hx hb dX3_keep_33 (by decide) ?_
  obtain ⟨r_15, w_13, hq_14, hf⟩ := am_b2_some hf
  refine am_calli (r := r_15) (w' := w_13) (am_runS (n := 2) (As := [.int ((w_12.1 46 2) + (1 : Int32)), .int (40 : Int32)]) (rest := [.ref (G.1 + 46)]) ⟨hx, hb, hml, hown, hts⟩ hK hE hH (k_J9_min_7cf53 hq_14) (am_gS am_q780 am_q478 am_q18 am_q479) ⟨rfl, rfl⟩ (by decide +kernel) ⟨Nat.le_of_ble_eq_true rfl, Nat.le_of_ble_eq_true rfl⟩ rfl hl.1 rfl (Nat.le_of_ble_eq_true rfl) ⟨Nat.zero_le _, Nat.zero_le _⟩ dX3_keep_35) hH (fun H locs hH => ?_)
  obtain ⟨w_16, hw_16, hf⟩ := am_v_some hf
  refine am_puti hx hb hts hK hown hH (am_o3 (p := 46) (by decide +kernel)) rfl am_inX3 tyX3 tyX3_ok nmX3 2 (by decide) am_q234 rfl rfl rfl (fun _ _ => Nat.le_of_ble_eq_true rfl) (fun _ _ _ => rfl) dX3_keep_38 (fun H locs hH => ?_)
  rw [← hw_16] at hH
  exact am_retv hx hb hr hlocks hH hf dX3_keep_41

def f_J6_numberOfTrailingZeros_0f7a4_74 (a0 : Int32) (x0 : Int32) (x1 : Int32) (w : am_S) : Option (Int32 × am_S) :=
  some (x1 + (am_iushr x0 (1 : Int32)), w)
def f_J6_numberOfTrailingZeros_0f7a4_62 (a0 : Int32) (x0 : Int32) (x1 : Int32) (w : am_S) : Option (Int32 × am_S) :=
  if x0 ≤ (4 : Int32) then (f_J6_numberOfTrailingZeros_0f7a4_74 a0 x0 x1 w) else (am_v (x1 + (2 : Int32)) fun (x1_16 : Int32) => am_v (am_iushr x0 (2 : Int32)) fun (x0_17 : Int32) => f_J6_numberOfTrailingZeros_0f7a4_74 a0 x0_17 x1_16 w)
def f_J6_numberOfTrailingZeros_0f7a4_49 (a0 : Int32) (x0 : Int32) (x1 : Int32) (w : am_S) : Option (Int32 × am_S) :=
  if x0 ≤ (16 : Int32) then (f_J6_numberOfTrailingZeros_0f7a4_62 a0 x0 x1 w) else (am_v (x1 + (4 : Int32)) fun (x1_19 : Int32) => am_v (am_iushr x0 (4 : Int32)) fun (x0_20 : Int32) => f_J6_numberOfTrailingZeros_0f7a4_62 a0 x0_20 x1_19 w)
def f_J6_numberOfTrailingZeros_0f7a4_34 (a0 : Int32) (x0 : Int32) (x1 : Int32) (w : am_S) : Option (Int32 × am_S) :=
  if x0 ≤ (256 : Int32) then (f_J6_numberOfTrailingZeros_0f7a4_49 a0 x0 x1 w) else (am_v (x1 + (8 : Int32)) fun (x1_22 : Int32) => am_v (am_iushr x0 (8 : Int32)) fun (x0_23 : Int32) => f_J6_numberOfTrailingZeros_0f7a4_49 a0 x0_23 x1_22 w)
def f_J6_numberOfTrailingZeros_0f7a4 (a0 : Int32) (w : am_S) : Option (Int32 × am_S) :=
  am_v ((a0 ^^^ (-1 : Int32)) &&& (a0 - (1 : Int32))) fun (x0_24 : Int32) => if 0 < x0_24 then (if x0_24 ≤ (65536 : Int32) then (f_J6_numberOfTrailingZeros_0f7a4_34 a0 x0_24 (1 : Int32) w) else (am_v ((1 : Int32) + (16 : Int32)) fun (x1_27 : Int32) => am_v (am_iushr x0_24 (16 : Int32)) fun (x0_28 : Int32) => f_J6_numberOfTrailingZeros_0f7a4_34 a0 x0_28 x1_27 w)) else (some (x0_24 &&& (32 : Int32), w))
set_option maxRecDepth 100000 in
set_option maxHeartbeats 4000000 in
theorem k_J6_numberOfTrailingZeros_0f7a4 {G : am_G} {l : Launch} {a0 : Int32}  {w : am_S} {rr : Int32} {ww : am_S} (hf : f_J6_numberOfTrailingZeros_0f7a4 a0 w = some (rr, ww)) : am_Mi G l yJ6_numberOfTrailingZeros_0f7a4 (Cond.code yJ6_numberOfTrailingZeros_0f7a4 cJ6_numberOfTrailingZeros_0f7a4 2 (some .int) :: am_T) { frames := 0, cells := 0, slots := 0, locals := 0 } [.int a0] w rr ww := by
  refine Met.ofW (cc := cJ6_numberOfTrailingZeros_0f7a4) (maxL := 2) (ret := (some .int)) (by decide) rfl ?_
  intro p e s m args below meth c s₁ B hml hv
  obtain ⟨rfl, hx, hb, hr, hts, hown, hlocks, hK, hE, hH⟩ := am_begin B hv
  have hown : s.vm.findClass RJ6 = some m.cls := hown
  show W p l e { frames := 0, cells := 0, slots := 0, locals := 0 } s m _ below meth c s.heap [] 0 0 _ _
  have P74 : ∀ (x0 : Int32) (x1 : Int32) (w : am_S) (H : Heap) (locs : List Loc) (ls : Array Slot), f_J6_numberOfTrailingZeros_0f7a4_74 a0 x0 x1 w = some (rr, ww) → am_H G w s H locs → lv_has ls 2 [(0, .int x0), (1, .int x1)] → W p l e { frames := 0, cells := 0, slots := 0, locals := 0 } s m [.int a0].toArray below meth c H locs 0 0 (MQ below (va_Qi (fun (x : Int32) (u : am_S) => x = rr ∧ u = ww) (am_U G) (am_A G)) [.int a0].toArray s 0 0 (am_A G)) (F0 m 74 ls []) := by
    intro x0 x1 w H locs ls hf hH hl
    unfold f_J6_numberOfTrailingZeros_0f7a4_74 at hf
    refine lv_iload_n hx hb dJ6_numberOfTrailingZeros_0f7a4_74 rfl (lv_at hl 1 rfl) ?_
    refine lv_iload_n hx hb dJ6_numberOfTrailingZeros_0f7a4_75 rfl (lv_at hl 0 rfl) ?_
    refine lv_iconst (v := 1) hx hb dJ6_numberOfTrailingZeros_0f7a4_76 (by decide) ?_
    refine lv_iushr (v := am_iushr x0 (1 : Int32)) hx hb dJ6_numberOfTrailingZeros_0f7a4_77 rfl ?_
    refine lv_iadd hx hb dJ6_numberOfTrailingZeros_0f7a4_78 ?_
    exact am_reti hx hb hr hlocks hH hf dJ6_numberOfTrailingZeros_0f7a4_79
  have P62 : ∀ (x0 : Int32) (x1 : Int32) (w : am_S) (H : Heap) (locs : List Loc) (ls : Array Slot), f_J6_numberOfTrailingZeros_0f7a4_62 a0 x0 x1 w = some (rr, ww) → am_H G w s H locs → lv_has ls 2 [(0, .int x0), (1, .int x1)] → W p l e { frames := 0, cells := 0, slots := 0, locals := 0 } s m [.int a0].toArray below meth c H locs 0 0 (MQ below (va_Qi (fun (x : Int32) (u : am_S) => x = rr ∧ u = ww) (am_U G) (am_A G)) [.int a0].toArray s 0 0 (am_A G)) (F0 m 62 ls []) := by
    intro x0 x1 w H locs ls hf hH hl
    unfold f_J6_numberOfTrailingZeros_0f7a4_62 at hf
    refine lv_iload_n hx hb dJ6_numberOfTrailingZeros_0f7a4_62 rfl (lv_at hl 0 rfl) ?_
    refine lv_iconst (v := 4) hx hb dJ6_numberOfTrailingZeros_0f7a4_63 (by decide) ?_
    refine lv_icmp_le (tgt := 74) hx hb dJ6_numberOfTrailingZeros_0f7a4_64 (by decide) (fun hc_15 => ?_) (fun hc_15 => ?_)
    · have hf := (if_pos hc_15).symm.trans hf
      exact P74 x0 x1 w H locs ls hf hH (lv_sub hl [0, 1] rfl)
    · have hf := (if_neg hc_15).symm.trans hf
      obtain ⟨x1_16, hx1_16, hf⟩ := am_v_some hf
      refine lv_iinc (v := x1_16) (lv' := [(1, .int x1_16), (0, .int x0)]) hx hb dJ6_numberOfTrailingZeros_0f7a4_67 hl (k := 1) rfl (by rw [hx1_16]; rfl) (by decide) rfl (fun ls hl => ?_)
      refine lv_iload_n hx hb dJ6_numberOfTrailingZeros_0f7a4_70 rfl (lv_at hl 1 rfl) ?_
      refine lv_iconst (v := 2) hx hb dJ6_numberOfTrailingZeros_0f7a4_71 (by decide) ?_
      refine lv_iushr (v := am_iushr x0 (2 : Int32)) hx hb dJ6_numberOfTrailingZeros_0f7a4_72 rfl ?_
      obtain ⟨x0_17, hx0_17, hf⟩ := am_v_some hf
      refine am_topi hx0_17 ?_
      refine lv_istore_n (lv' := [(0, .int x0_17), (1, .int x1_16)]) hx hb dJ6_numberOfTrailingZeros_0f7a4_73 rfl hl (by decide) rfl (fun ls hl => ?_)
      exact P74 x0_17 x1_16 w H locs ls hf hH (lv_sub hl [0, 1] rfl)
  have P49 : ∀ (x0 : Int32) (x1 : Int32) (w : am_S) (H : Heap) (locs : List Loc) (ls : Array Slot), f_J6_numberOfTrailingZeros_0f7a4_49 a0 x0 x1 w = some (rr, ww) → am_H G w s H locs → lv_has ls 2 [(0, .int x0), (1, .int x1)] → W p l e { frames := 0, cells := 0, slots := 0, locals := 0 } s m [.int a0].toArray below meth c H locs 0 0 (MQ below (va_Qi (fun (x : Int32) (u : am_S) => x = rr ∧ u = ww) (am_U G) (am_A G)) [.int a0].toArray s 0 0 (am_A G)) (F0 m 49 ls []) := by
    intro x0 x1 w H locs ls hf hH hl
    unfold f_J6_numberOfTrailingZeros_0f7a4_49 at hf
    refine lv_iload_n hx hb dJ6_numberOfTrailingZeros_0f7a4_49 rfl (lv_at hl 0 rfl) ?_
    refine lv_bipush (v := 16) hx hb dJ6_numberOfTrailingZeros_0f7a4_50 (by decide) ?_
    refine lv_icmp_le (tgt := 62) hx hb dJ6_numberOfTrailingZeros_0f7a4_52 (by decide) (fun hc_18 => ?_) (fun hc_18 => ?_)
    · have hf := (if_pos hc_18).symm.trans hf
      exact P62 x0 x1 w H locs ls hf hH (lv_sub hl [0, 1] rfl)
    · have hf := (if_neg hc_18).symm.trans hf
      obtain ⟨x1_19, hx1_19, hf⟩ := am_v_some hf
      refine lv_iinc (v := x1_19) (lv' := [(1, .int x1_19), (0, .int x0)]) hx hb dJ6_numberOfTrailingZeros_0f7a4_55 hl (k := 1) rfl (by rw [hx1_19]; rfl) (by decide) rfl (fun ls hl => ?_)
      refine lv_iload_n hx hb dJ6_numberOfTrailingZeros_0f7a4_58 rfl (lv_at hl 1 rfl) ?_
      refine lv_iconst (v := 4) hx hb dJ6_numberOfTrailingZeros_0f7a4_59 (by decide) ?_
      refine lv_iushr (v := am_iushr x0 (4 : Int32)) hx hb dJ6_numberOfTrailingZeros_0f7a4_60 rfl ?_
      obtain ⟨x0_20, hx0_20, hf⟩ := am_v_some hf
      refine am_topi hx0_20 ?_
      refine lv_istore_n (lv' := [(0, .int x0_20), (1, .int x1_19)]) hx hb dJ6_numberOfTrailingZeros_0f7a4_61 rfl hl (by decide) rfl (fun ls hl => ?_)
      exact P62 x0_20 x1_19 w H locs ls hf hH (lv_sub hl [0, 1] rfl)
  have P34 : ∀ (x0 : Int32) (x1 : Int32) (w : am_S) (H : Heap) (locs : List Loc) (ls : Array Slot), f_J6_numberOfTrailingZeros_0f7a4_34 a0 x0 x1 w = some (rr, ww) → am_H G w s H locs → lv_has ls 2 [(0, .int x0), (1, .int x1)] → W p l e { frames := 0, cells := 0, slots := 0, locals := 0 } s m [.int a0].toArray below meth c H locs 0 0 (MQ below (va_Qi (fun (x : Int32) (u : am_S) => x = rr ∧ u = ww) (am_U G) (am_A G)) [.int a0].toArray s 0 0 (am_A G)) (F0 m 34 ls []) := by
    intro x0 x1 w H locs ls hf hH hl
    unfold f_J6_numberOfTrailingZeros_0f7a4_34 at hf
    refine lv_iload_n hx hb dJ6_numberOfTrailingZeros_0f7a4_34 rfl (lv_at hl 0 rfl) ?_
    refine lv_sipush (v := 256) hx hb dJ6_numberOfTrailingZeros_0f7a4_35 (by decide) ?_
    refine lv_icmp_le (tgt := 49) hx hb dJ6_numberOfTrailingZeros_0f7a4_38 (by decide) (fun hc_21 => ?_) (fun hc_21 => ?_)
    · have hf := (if_pos hc_21).symm.trans hf
      exact P49 x0 x1 w H locs ls hf hH (lv_sub hl [0, 1] rfl)
    · have hf := (if_neg hc_21).symm.trans hf
      obtain ⟨x1_22, hx1_22, hf⟩ := am_v_some hf
      refine lv_iinc (v := x1_22) (lv' := [(1, .int x1_22), (0, .int x0)]) hx hb dJ6_numberOfTrailingZeros_0f7a4_41 hl (k := 1) rfl (by rw [hx1_22]; rfl) (by decide) rfl (fun ls hl => ?_)
      refine lv_iload_n hx hb dJ6_numberOfTrailingZeros_0f7a4_44 rfl (lv_at hl 1 rfl) ?_
      refine lv_bipush (v := 8) hx hb dJ6_numberOfTrailingZeros_0f7a4_45 (by decide) ?_
      refine lv_iushr (v := am_iushr x0 (8 : Int32)) hx hb dJ6_numberOfTrailingZeros_0f7a4_47 rfl ?_
      obtain ⟨x0_23, hx0_23, hf⟩ := am_v_some hf
      refine am_topi hx0_23 ?_
      refine lv_istore_n (lv' := [(0, .int x0_23), (1, .int x1_22)]) hx hb dJ6_numberOfTrailingZeros_0f7a4_48 rfl hl (by decide) rfl (fun ls hl => ?_)
      exact P49 x0_23 x1_22 w H locs ls hf hH (lv_sub hl [0, 1] rfl)
  refine am_enter (lv := [(0, .int a0)]) (Nat.le_of_ble_eq_true rfl) rfl (fun ls hl => ?_)
  unfold f_J6_numberOfTrailingZeros_0f7a4 at hf
  refine am_start hH (fun H locs hH => ?_)
  refine lv_iload_n hx hb dJ6_numberOfTrailingZeros_0f7a4_0 rfl (lv_at hl 0 rfl) ?_
  refine lv_iconst (v := -1) hx hb dJ6_numberOfTrailingZeros_0f7a4_1 (by decide) ?_
  refine lv_ixor hx hb dJ6_numberOfTrailingZeros_0f7a4_2 ?_
  refine lv_iload_n hx hb dJ6_numberOfTrailingZeros_0f7a4_3 rfl (lv_at hl 0 rfl) ?_
  refine lv_iconst (v := 1) hx hb dJ6_numberOfTrailingZeros_0f7a4_4 (by decide) ?_
  refine lv_isub hx hb dJ6_numberOfTrailingZeros_0f7a4_5 ?_
  refine lv_iand hx hb dJ6_numberOfTrailingZeros_0f7a4_6 ?_
  obtain ⟨x0_24, hx0_24, hf⟩ := am_v_some hf
  refine am_topi hx0_24 ?_
  refine lv_istore_n (lv' := [(0, .int x0_24)]) hx hb dJ6_numberOfTrailingZeros_0f7a4_7 rfl hl (by decide) rfl (fun ls hl => ?_)
  refine lv_iload_n hx hb dJ6_numberOfTrailingZeros_0f7a4_8 rfl (lv_at hl 0 rfl) ?_
  refine lv_if_gt (tgt := 17) hx hb dJ6_numberOfTrailingZeros_0f7a4_9 (by decide) (fun hc_25 => ?_) (fun hc_25 => ?_)
  · have hf := (if_pos hc_25).symm.trans hf
    refine lv_iconst (v := 1) hx hb dJ6_numberOfTrailingZeros_0f7a4_17 (by decide) ?_
    refine lv_istore_n (lv' := [(1, .int (1 : Int32)), (0, .int x0_24)]) hx hb dJ6_numberOfTrailingZeros_0f7a4_18 rfl hl (by decide) rfl (fun ls hl => ?_)
    refine lv_iload_n hx hb dJ6_numberOfTrailingZeros_0f7a4_19 rfl (lv_at hl 1 rfl) ?_
    refine lv_ldcw (v := 65536) hx hb hown (hts _ am_q616) dJ6_numberOfTrailingZeros_0f7a4_20 ?_
    refine lv_icmp_le (tgt := 34) hx hb dJ6_numberOfTrailingZeros_0f7a4_23 (by decide) (fun hc_26 => ?_) (fun hc_26 => ?_)
    · have hf := (if_pos hc_26).symm.trans hf
      exact P34 x0_24 (1 : Int32) w H locs ls hf hH (lv_sub hl [1, 0] rfl)
    · have hf := (if_neg hc_26).symm.trans hf
      obtain ⟨x1_27, hx1_27, hf⟩ := am_v_some hf
      refine lv_iinc (v := x1_27) (lv' := [(1, .int x1_27), (0, .int x0_24)]) hx hb dJ6_numberOfTrailingZeros_0f7a4_26 hl (k := 0) rfl (by rw [hx1_27]; rfl) (by decide) rfl (fun ls hl => ?_)
      refine lv_iload_n hx hb dJ6_numberOfTrailingZeros_0f7a4_29 rfl (lv_at hl 1 rfl) ?_
      refine lv_bipush (v := 16) hx hb dJ6_numberOfTrailingZeros_0f7a4_30 (by decide) ?_
      refine lv_iushr (v := am_iushr x0_24 (16 : Int32)) hx hb dJ6_numberOfTrailingZeros_0f7a4_32 rfl ?_
      obtain ⟨x0_28, hx0_28, hf⟩ := am_v_some hf
      refine am_topi hx0_28 ?_
      refine lv_istore_n (lv' := [(0, .int x0_28), (1, .int x1_27)]) hx hb dJ6_numberOfTrailingZeros_0f7a4_33 rfl hl (by decide) rfl (fun ls hl => ?_)
      exact P34 x0_28 x1_27 w H locs ls hf hH (lv_sub hl [0, 1] rfl)
  · have hf := (if_neg hc_25).symm.trans hf
    refine lv_iload_n hx hb dJ6_numberOfTrailingZeros_0f7a4_12 rfl (lv_at hl 0 rfl) ?_
    refine lv_bipush (v := 32) hx hb dJ6_numberOfTrailingZeros_0f7a4_13 (by decide) ?_
    refine lv_iand hx hb dJ6_numberOfTrailingZeros_0f7a4_15 ?_
    exact am_reti hx hb hr hlocks hH hf dJ6_numberOfTrailingZeros_0f7a4_16

def f_J6_bitCount_0f7a4 (a0 : Int32) (w : am_S) : Option (Int32 × am_S) :=
  am_v (a0 - ((am_iushr a0 (1 : Int32)) &&& (1431655765 : Int32))) fun (x0_6 : Int32) => am_v ((x0_6 &&& (858993459 : Int32)) + ((am_iushr x0_6 (2 : Int32)) &&& (858993459 : Int32))) fun (x0_7 : Int32) => am_v ((x0_7 + (am_iushr x0_7 (4 : Int32))) &&& (252645135 : Int32)) fun (x0_8 : Int32) => am_v (x0_8 + (am_iushr x0_8 (8 : Int32))) fun (x0_9 : Int32) => am_v (x0_9 + (am_iushr x0_9 (16 : Int32))) fun (x0_10 : Int32) => some (x0_10 &&& (63 : Int32), w)
set_option maxRecDepth 100000 in
set_option maxHeartbeats 4000000 in
theorem k_J6_bitCount_0f7a4 {G : am_G} {l : Launch} {a0 : Int32}  {w : am_S} {rr : Int32} {ww : am_S} (hf : f_J6_bitCount_0f7a4 a0 w = some (rr, ww)) : am_Mi G l yJ6_bitCount_0f7a4 (Cond.code yJ6_bitCount_0f7a4 cJ6_bitCount_0f7a4 1 (some .int) :: am_T) { frames := 0, cells := 0, slots := 0, locals := 0 } [.int a0] w rr ww := by
  refine Met.ofW (cc := cJ6_bitCount_0f7a4) (maxL := 1) (ret := (some .int)) (by decide) rfl ?_
  intro p e s m args below meth c s₁ B hml hv
  obtain ⟨rfl, hx, hb, hr, hts, hown, hlocks, hK, hE, hH⟩ := am_begin B hv
  have hown : s.vm.findClass RJ6 = some m.cls := hown
  show W p l e { frames := 0, cells := 0, slots := 0, locals := 0 } s m _ below meth c s.heap [] 0 0 _ _
  refine am_enter (lv := [(0, .int a0)]) (Nat.le_of_ble_eq_true rfl) rfl (fun ls hl => ?_)
  unfold f_J6_bitCount_0f7a4 at hf
  refine am_start hH (fun H locs hH => ?_)
  refine lv_iload_n hx hb dJ6_bitCount_0f7a4_0 rfl (lv_at hl 0 rfl) ?_
  refine lv_iload_n hx hb dJ6_bitCount_0f7a4_1 rfl (lv_at hl 0 rfl) ?_
  refine lv_iconst (v := 1) hx hb dJ6_bitCount_0f7a4_2 (by decide) ?_
  refine lv_iushr (v := am_iushr a0 (1 : Int32)) hx hb dJ6_bitCount_0f7a4_3 rfl ?_
  refine lv_ldcw (v := 1431655765) hx hb hown (hts _ am_q718) dJ6_bitCount_0f7a4_4 ?_
  refine lv_iand hx hb dJ6_bitCount_0f7a4_7 ?_
  refine lv_isub hx hb dJ6_bitCount_0f7a4_8 ?_
  obtain ⟨x0_6, hx0_6, hf⟩ := am_v_some hf
  refine am_topi hx0_6 ?_
  refine lv_istore_n (lv' := [(0, .int x0_6)]) hx hb dJ6_bitCount_0f7a4_9 rfl hl (by decide) rfl (fun ls hl => ?_)
  refine lv_iload_n hx hb dJ6_bitCount_0f7a4_10 rfl (lv_at hl 0 rfl) ?_
  refine lv_ldcw (v := 858993459) hx hb hown (hts _ am_q719) dJ6_bitCount_0f7a4_11 ?_
  refine lv_iand hx hb dJ6_bitCount_0f7a4_14 ?_
  refine lv_iload_n hx hb dJ6_bitCount_0f7a4_15 rfl (lv_at hl 0 rfl) ?_
  refine lv_iconst (v := 2) hx hb dJ6_bitCount_0f7a4_16 (by decide) ?_
  refine lv_iushr (v := am_iushr x0_6 (2 : Int32)) hx hb dJ6_bitCount_0f7a4_17 rfl ?_
  refine lv_ldcw (v := 858993459) hx hb hown (hts _ am_q719) dJ6_bitCount_0f7a4_18 ?_
  refine lv_iand hx hb dJ6_bitCount_0f7a4_21 ?_
  refine lv_iadd hx hb dJ6_bitCount_0f7a4_22 ?_
  obtain ⟨x0_7, hx0_7, hf⟩ := am_v_some hf
  refine am_topi hx0_7 ?_
  refine lv_istore_n (lv' := [(0, .int x0_7)]) hx hb dJ6_bitCount_0f7a4_23 rfl hl (by decide) rfl (fun ls hl => ?_)
  refine lv_iload_n hx hb dJ6_bitCount_0f7a4_24 rfl (lv_at hl 0 rfl) ?_
  refine lv_iload_n hx hb dJ6_bitCount_0f7a4_25 rfl (lv_at hl 0 rfl) ?_
  refine lv_iconst (v := 4) hx hb dJ6_bitCount_0f7a4_26 (by decide) ?_
  refine lv_iushr (v := am_iushr x0_7 (4 : Int32)) hx hb dJ6_bitCount_0f7a4_27 rfl ?_
  refine lv_iadd hx hb dJ6_bitCount_0f7a4_28 ?_
  refine lv_ldcw (v := 252645135) hx hb hown (hts _ am_q720) dJ6_bitCount_0f7a4_29 ?_
  refine lv_iand hx hb dJ6_bitCount_0f7a4_32 ?_
  obtain ⟨x0_8, hx0_8, hf⟩ := am_v_some hf
  refine am_topi hx0_8 ?_
  refine lv_istore_n (lv' := [(0, .int x0_8)]) hx hb dJ6_bitCount_0f7a4_33 rfl hl (by decide) rfl (fun ls hl => ?_)
  refine lv_iload_n hx hb dJ6_bitCount_0f7a4_34 rfl (lv_at hl 0 rfl) ?_
  refine lv_iload_n hx hb dJ6_bitCount_0f7a4_35 rfl (lv_at hl 0 rfl) ?_
  refine lv_bipush (v := 8) hx hb dJ6_bitCount_0f7a4_36 (by decide) ?_
  refine lv_iushr (v := am_iushr x0_8 (8 : Int32)) hx hb dJ6_bitCount_0f7a4_38 rfl ?_
  refine lv_iadd hx hb dJ6_bitCount_0f7a4_39 ?_
  obtain ⟨x0_9, hx0_9, hf⟩ := am_v_some hf
  refine am_topi hx0_9 ?_
  refine lv_istore_n (lv' := [(0, .int x0_9)]) hx hb dJ6_bitCount_0f7a4_40 rfl hl (by decide) rfl (fun ls hl => ?_)
  refine lv_iload_n hx hb dJ6_bitCount_0f7a4_41 rfl (lv_at hl 0 rfl) ?_
  refine lv_iload_n hx hb dJ6_bitCount_0f7a4_42 rfl (lv_at hl 0 rfl) ?_
  refine lv_bipush (v := 16) hx hb dJ6_bitCount_0f7a4_43 (by decide) ?_
  refine lv_iushr (v := am_iushr x0_9 (16 : Int32)) hx hb dJ6_bitCount_0f7a4_45 rfl ?_
  refine lv_iadd hx hb dJ6_bitCount_0f7a4_46 ?_
  obtain ⟨x0_10, hx0_10, hf⟩ := am_v_some hf
  refine am_topi hx0_10 ?_
  refine lv_istore_n (lv' := [(0, .int x0_10)]) hx hb dJ6_bitCount_0f7a4_47 rfl hl (by decide) rfl (fun ls hl => ?_)
  refine lv_iload_n hx hb dJ6_bitCount_0f7a4_48 rfl (lv_at hl 0 rfl) ?_
  refine lv_bipush (v := 63) hx hb dJ6_bitCount_0f7a4_49 (by decide) ?_
  refine lv_iand hx hb dJ6_bitCount_0f7a4_51 ?_
  exact am_reti hx hb hr hlocks hH hf dJ6_bitCount_0f7a4_52

def f_X2_wayIn_29 (a1 : Int32) (s0 : Int32) (w : am_S) : Option (Int32 × am_S) :=
  some (s0, w)
def f_X2_wayIn (a1 : Int32) (w : am_S) : Option (Int32 × am_S) :=
  am_chk a1 48 (am_b2 (f_J6_bitCount_0f7a4 ((w.1 254 a1.toNatClampNeg) &&& (w.1 250 6)) w) fun r_9 w_7 => if r_9 = (1 : Int32) then (f_X2_wayIn_29 a1 (1 : Int32) w_7) else (f_X2_wayIn_29 a1 (2 : Int32) w_7))
set_option maxRecDepth 100000 in
set_option maxHeartbeats 4000000 in
theorem k_X2_wayIn {G : am_G} {l : Launch} {a1 : Int32}  {w : am_S} {rr : Int32} {ww : am_S} (hf : f_X2_wayIn a1 w = some (rr, ww)) : am_Mi G l yX2_wayIn (Cond.code yX2_wayIn cX2_wayIn 2 (some .int) :: am_T) { frames := 1, cells := 0, slots := 0, locals := 64 } [.ref (G.1 + 255), .int a1] w rr ww := by
  refine Met.ofW (cc := cX2_wayIn) (maxL := 2) (ret := (some .int)) (by decide) rfl ?_
  intro p e s m args below meth c s₁ B hml hv
  obtain ⟨rfl, hx, hb, hr, hts, hown, hlocks, hK, hE, hH⟩ := am_begin B hv
  have hown : s.vm.findClass RX2 = some m.cls := hown
  show W p l e { frames := 1, cells := 0, slots := 0, locals := 64 } s m _ below meth c s.heap [] 0 0 _ _
  have P29 : ∀ (s0 : Int32) (w : am_S) (H : Heap) (locs : List Loc) (ls : Array Slot), f_X2_wayIn_29 a1 s0 w = some (rr, ww) → am_H G w s H locs → lv_has ls 2 [] → W p l e { frames := 1, cells := 0, slots := 0, locals := 64 } s m [.ref (G.1 + 255), .int a1].toArray below meth c H locs 0 0 (MQ below (va_Qi (fun (x : Int32) (u : am_S) => x = rr ∧ u = ww) (am_U G) (am_A G)) [.ref (G.1 + 255), .int a1].toArray s 0 0 (am_A G)) (F0 m 29 ls [.int s0]) := by
    intro s0 w H locs ls hf hH hl
    unfold f_X2_wayIn_29 at hf
    exact am_reti hx hb hr hlocks hH hf dX2_wayIn_29
  refine am_enter (lv := [(0, .ref (G.1 + 255)), (1, .int a1)]) (Nat.le_of_ble_eq_true rfl) rfl (fun ls hl => ?_)
  unfold f_X2_wayIn at hf
  refine am_start hH (fun H locs hH => ?_)
  refine lv_aload_n hx hb dX2_wayIn_0 rfl (lv_at hl 0 rfl) ?_
  refine am_get hx hb hts hK hown hH (am_o2 (p := 255) (by decide +kernel)) rfl am_inX2 1 (by decide) am_q299 (v := .ref (G.1 + 250)) rfl dX2_wayIn_1 ?_
  refine am_get hx hb hts hK hown hH (am_o7 (p := 250) (by decide +kernel)) rfl am_inX7 4 (by decide) am_q267 (v := .ref (G.1 + 254)) rfl dX2_wayIn_4 ?_
  refine lv_iload_n hx hb dX2_wayIn_7 rfl (lv_at hl 1 rfl) ?_
  obtain ⟨hi_6, hf⟩ := am_chk_some hf
  refine am_iald hx hb hK hH (am_ai_of (N := 48) (by decide +kernel)) hi_6 dX2_wayIn_8 ?_
  refine lv_aload_n hx hb dX2_wayIn_9 rfl (lv_at hl 0 rfl) ?_
  refine am_get hx hb hts hK hown hH (am_o2 (p := 255) (by decide +kernel)) rfl am_inX2 1 (by decide) am_q299 (v := .ref (G.1 + 250)) rfl dX2_wayIn_10 ?_
  refine am_get hx hb hts hK hown hH (am_o7 (p := 250) (by decide +kernel)) rfl am_inX7 6 (by decide) am_q272 (v := .int (w.1 250 6)) rfl dX2_wayIn_13 ?_
  refine lv_iand hx hb dX2_wayIn_16 ?_
  obtain ⟨r_9, w_7, hq_8, hf⟩ := am_b2_some hf
  refine am_calli (r := r_9) (w' := w_7) (am_runS (n := 1) (As := [.int ((w.1 254 a1.toNatClampNeg) &&& (w.1 250 6))]) (rest := []) ⟨hx, hb, hml, hown, hts⟩ hK hE hH (k_J6_bitCount_0f7a4 hq_8) (am_gS am_q797 am_q716 am_q23 am_q717) ⟨rfl, rfl⟩ (by decide +kernel) ⟨Nat.le_of_ble_eq_true rfl, Nat.le_of_ble_eq_true rfl⟩ rfl hl.1 rfl (Nat.le_of_ble_eq_true rfl) ⟨Nat.zero_le _, Nat.zero_le _⟩ dX2_wayIn_17) hH (fun H locs hH => ?_)
  refine lv_iconst (v := 1) hx hb dX2_wayIn_20 (by decide) ?_
  refine lv_icmp_ne (tgt := 28) hx hb dX2_wayIn_21 (by decide) (fun hc_10 => ?_) (fun hc_10 => ?_)
  · have hf := (if_neg hc_10).symm.trans hf
    refine lv_iconst (v := 2) hx hb dX2_wayIn_28 (by decide) ?_
    exact P29 (2 : Int32) w_7 H locs ls hf hH (lv_sub hl [] rfl)
  · have hf := (if_pos hc_10).symm.trans hf
    refine lv_iconst (v := 1) hx hb dX2_wayIn_24 (by decide) ?_
    refine lv_goto (tgt := 29) hx hb dX2_wayIn_25 (by decide) ?_
    exact P29 (1 : Int32) w_7 H locs ls hf hH (lv_sub hl [] rfl)

def f_X2_stepOn_10b (o1 : Nat) (x2 : Int32) (w : am_S) : Option ((Int32 × am_S) ⊕ (Int32 × am_S)) :=
  am_b2 (f_X1_allSlots 11 w) fun r_22 w_20 => if r_22 ≤ x2 then (am_x (some ((0 : Int32), w_20))) else (am_b2 (f_X7_clearIn x2 (w_20.1 250 6) w_20) fun r_27 w_25 => if r_27 = 0 then (am_v (x2 + (1 : Int32)) fun (x2_29 : Int32) => some (.inr (x2_29, w_25))) else (am_x (am_b2 (f_J6_numberOfTrailingZeros_0f7a4 r_27 w_25) fun r_33 w_31 => am_b2 (f_X2_wayIn x2 w_31) fun r_36 w_34 => am_chk r_33 10 (am_v (am_pi w_34 (o1 + 1) r_33.toNatClampNeg r_36) fun (w_38 : am_S) => some (r_33, w_38)))))
def f_X2_stepOn_10 (o1 : Nat) (x2 : Int32) (w : am_S) : Option (Int32 × am_S) :=
  am_loop (fun (st : (Int32 × am_S)) => f_X2_stepOn_10b o1 st.1 st.2) am_fuel (x2, w)
def f_X2_stepOn (o1 : Nat) (w : am_S) : Option (Int32 × am_S) :=
  am_b1 (f_X7_lookAt o1 w) fun w_39 => f_X2_stepOn_10 o1 (0 : Int32) w_39
set_option maxRecDepth 100000 in
set_option maxHeartbeats 4000000 in
theorem k_X2_stepOn {G : am_G} {l : Launch} {o1 : Nat} (ho1 : am_f9 o1) {w : am_S} {rr : Int32} {ww : am_S} (hf : f_X2_stepOn o1 w = some (rr, ww)) : am_Mi G l yX2_stepOn (Cond.code yX2_stepOn cX2_stepOn 5 (some .int) :: am_T) { frames := 3, cells := 0, slots := 0, locals := 192 } [.ref (G.1 + 255), .ref (G.1 + o1)] w rr ww := by
  refine Met.ofW (cc := cX2_stepOn) (maxL := 5) (ret := (some .int)) (by decide) rfl ?_
  intro p e s m args below meth c s₁ B hml hv
  obtain ⟨rfl, hx, hb, hr, hts, hown, hlocks, hK, hE, hH⟩ := am_begin B hv
  have hown : s.vm.findClass RX2 = some m.cls := hown
  show W p l e { frames := 3, cells := 0, slots := 0, locals := 192 } s m _ below meth c s.heap [] 0 0 _ _
  have P10 : ∀ (n1 : Nat) (x2 : Int32) (w : am_S) (H : Heap) (locs : List Loc) (ls : Array Slot), am_loop (fun (st : (Int32 × am_S)) => f_X2_stepOn_10b o1 st.1 st.2) n1 (x2, w) = some (rr, ww) → am_H G w s H locs → lv_has ls 5 [(0, .ref (G.1 + 255)), (1, .ref (G.1 + o1)), (2, .int x2)] → W p l e { frames := 3, cells := 0, slots := 0, locals := 192 } s m [.ref (G.1 + 255), .ref (G.1 + o1)].toArray below meth c H locs 0 0 (MQ below (va_Qi (fun (x : Int32) (u : am_S) => x = rr ∧ u = ww) (am_U G) (am_A G)) [.ref (G.1 + 255), .ref (G.1 + o1)].toArray s 0 0 (am_A G)) (F0 m 10 ls []) := by
    intro n1
    induction n1 with
    | zero =>
      intro x2 w H locs ls hf hH hl
      exact (am_loop_zero hf).elim
    | succ n1 ih1 =>
      intro x2 w H locs ls hf hH hl
      obtain ⟨z1, hf, hk1⟩ := am_loop_succ hf
      have hf : f_X2_stepOn_10b o1 x2 w = some z1 := hf
      unfold f_X2_stepOn_10b at hf
      refine lv_iload_n hx hb dX2_stepOn_10 rfl (lv_at hl 2 rfl) ?_
      refine lv_aload_n hx hb dX2_stepOn_11 rfl (lv_at hl 0 rfl) ?_
      refine am_get hx hb hts hK hown hH (am_o2 (p := 255) (by decide +kernel)) rfl am_inX2 0 (by decide) am_q298 (v := .ref (G.1 + 11)) rfl dX2_stepOn_12 ?_
      obtain ⟨r_22, w_20, hq_21, hf⟩ := am_b2_some hf
      refine am_calli (r := r_22) (w' := w_20) (am_runV (n := 0) (As := []) (rest := [.int x2]) ⟨hx, hb, hml, hown, hts⟩ hK hE hH (k_X1_allSlots (by decide +kernel) hq_21) (am_gV am_q764 am_q630 am_q631 am_q3 am_q632) (am_o1 (p := 11) (by decide +kernel)) rfl ⟨rfl, rfl⟩ (by decide +kernel) ⟨Nat.le_of_ble_eq_true rfl, Nat.le_of_ble_eq_true rfl⟩ rfl hl.1 rfl (Nat.le_of_ble_eq_true rfl) ⟨Nat.zero_le _, Nat.zero_le _⟩ dX2_stepOn_15) hH (fun H locs hH => ?_)
      refine lv_icmp_ge (tgt := 68) hx hb dX2_stepOn_18 (by decide) (fun hc_23 => ?_) (fun hc_23 => ?_)
      · have hf := (if_pos hc_23).symm.trans hf
        obtain ⟨y_24, hf, hzy_24⟩ := am_x_some hf
        rw [hzy_24] at hk1
        have hf := hf.trans (congrArg some (show y_24 = (rr, ww) from hk1))
        refine lv_iconst (v := 0) hx hb dX2_stepOn_68 (by decide) ?_
        exact am_reti hx hb hr hlocks hH hf dX2_stepOn_69
      · have hf := (if_neg hc_23).symm.trans hf
        refine lv_aload_n hx hb dX2_stepOn_21 rfl (lv_at hl 0 rfl) ?_
        refine am_get hx hb hts hK hown hH (am_o2 (p := 255) (by decide +kernel)) rfl am_inX2 1 (by decide) am_q299 (v := .ref (G.1 + 250)) rfl dX2_stepOn_22 ?_
        refine lv_iload_n hx hb dX2_stepOn_25 rfl (lv_at hl 2 rfl) ?_
        refine lv_aload_n hx hb dX2_stepOn_26 rfl (lv_at hl 0 rfl) ?_
        refine am_get hx hb hts hK hown hH (am_o2 (p := 255) (by decide +kernel)) rfl am_inX2 1 (by decide) am_q299 (v := .ref (G.1 + 250)) rfl dX2_stepOn_27 ?_
        refine am_get hx hb hts hK hown hH (am_o7 (p := 250) (by decide +kernel)) rfl am_inX7 6 (by decide) am_q272 (v := .int (w_20.1 250 6)) rfl dX2_stepOn_30 ?_
        obtain ⟨r_27, w_25, hq_26, hf⟩ := am_b2_some hf
        refine am_calli (r := r_27) (w' := w_25) (am_runV (n := 2) (As := [.int x2, .int (w_20.1 250 6)]) (rest := []) ⟨hx, hb, hml, hown, hts⟩ hK hE hH (k_X7_clearIn hq_26) (am_gV am_q789 am_q703 am_q704 am_q9 am_q705) (am_o7 (p := 250) (by decide +kernel)) rfl ⟨rfl, rfl⟩ (by decide +kernel) ⟨Nat.le_of_ble_eq_true rfl, Nat.le_of_ble_eq_true rfl⟩ rfl hl.1 rfl (Nat.le_of_ble_eq_true rfl) ⟨Nat.zero_le _, Nat.zero_le _⟩ dX2_stepOn_33) hH (fun H locs hH => ?_)
        refine lv_istore_n (lv' := [(3, .int r_27), (0, .ref (G.1 + 255)), (1, .ref (G.1 + o1)), (2, .int x2)]) hx hb dX2_stepOn_36 rfl hl (by decide) rfl (fun ls hl => ?_)
        refine lv_iload_n hx hb dX2_stepOn_37 rfl (lv_at hl 0 rfl) ?_
        refine lv_if_eq (tgt := 62) hx hb dX2_stepOn_38 (by decide) (fun hc_28 => ?_) (fun hc_28 => ?_)
        · have hf := (if_pos hc_28).symm.trans hf
          obtain ⟨x2_29, hx2_29, hf⟩ := am_v_some hf
          refine lv_iinc (v := x2_29) (lv' := [(2, .int x2_29), (3, .int r_27), (0, .ref (G.1 + 255)), (1, .ref (G.1 + o1))]) hx hb dX2_stepOn_62 hl (k := 3) rfl (by rw [hx2_29]; rfl) (by decide) rfl (fun ls hl => ?_)
          refine lv_goto (tgt := 10) hx hb dX2_stepOn_65 (by decide) ?_
          obtain rfl := Option.some.inj hf
          exact ih1 x2_29 w_25 H locs ls hk1 hH (lv_sub hl [2, 3, 0] rfl)
        · have hf := (if_neg hc_28).symm.trans hf
          obtain ⟨y_30, hf, hzy_30⟩ := am_x_some hf
          rw [hzy_30] at hk1
          have hf := hf.trans (congrArg some (show y_30 = (rr, ww) from hk1))
          refine lv_iload_n hx hb dX2_stepOn_41 rfl (lv_at hl 0 rfl) ?_
          obtain ⟨r_33, w_31, hq_32, hf⟩ := am_b2_some hf
          refine am_calli (r := r_33) (w' := w_31) (am_runS (n := 1) (As := [.int r_27]) (rest := []) ⟨hx, hb, hml, hown, hts⟩ hK hE hH (k_J6_numberOfTrailingZeros_0f7a4 hq_32) (am_gS am_q790 am_q791 am_q23 am_q792) ⟨rfl, rfl⟩ (by decide +kernel) ⟨Nat.le_of_ble_eq_true rfl, Nat.le_of_ble_eq_true rfl⟩ rfl hl.1 rfl (Nat.le_of_ble_eq_true rfl) ⟨Nat.zero_le _, Nat.zero_le _⟩ dX2_stepOn_42) hH (fun H locs hH => ?_)
          refine lv_istore (lv' := [(4, .int r_33), (3, .int r_27), (0, .ref (G.1 + 255)), (1, .ref (G.1 + o1)), (2, .int x2)]) hx hb dX2_stepOn_45 hl (by decide) rfl (fun ls hl => ?_)
          refine lv_aload_n hx hb dX2_stepOn_47 rfl (lv_at hl 3 rfl) ?_
          refine am_get hx hb hts hK hown hH (am_o9 ho1.1) rfl am_inX9 0 (by decide) am_q175 (v := .ref (G.1 + (o1 + 1))) rfl dX2_stepOn_48 ?_
          refine lv_iload hx hb dX2_stepOn_51 (lv_at hl 0 rfl) ?_
          refine lv_aload_n hx hb dX2_stepOn_53 rfl (lv_at hl 2 rfl) ?_
          refine lv_iload_n hx hb dX2_stepOn_54 rfl (lv_at hl 4 rfl) ?_
          obtain ⟨r_36, w_34, hq_35, hf⟩ := am_b2_some hf
          refine am_calli (r := r_36) (w' := w_34) (am_runV (n := 1) (As := [.int x2]) (rest := [.int r_33, .ref (G.1 + (o1 + 1))]) ⟨hx, hb, hml, hown, hts⟩ hK hE hH (k_X2_wayIn hq_35) (am_gV am_q793 am_q795 am_qs25 am_q10 am_q796) (am_o2 (p := 255) (by decide +kernel)) rfl ⟨rfl, rfl⟩ (by decide +kernel) ⟨Nat.le_of_ble_eq_true rfl, Nat.le_of_ble_eq_true rfl⟩ rfl hl.1 rfl (Nat.le_of_ble_eq_true rfl) ⟨Nat.zero_le _, Nat.zero_le _⟩ dX2_stepOn_55) hH (fun H locs hH => ?_)
          obtain ⟨hi_37, hf⟩ := am_chk_some hf
          obtain ⟨w_38, hw_38, hf⟩ := am_v_some hf
          refine am_iast hx hb hK hH (am_ai_of (N := 10) ho1.2.1) hi_37 dX2_stepOn_58 (fun H locs hH => ?_)
          rw [← hw_38] at hH
          refine lv_iload hx hb dX2_stepOn_59 (lv_at hl 0 rfl) ?_
          exact am_reti hx hb hr hlocks hH hf dX2_stepOn_61
  refine am_enter (lv := [(0, .ref (G.1 + 255)), (1, .ref (G.1 + o1))]) (Nat.le_of_ble_eq_true rfl) rfl (fun ls hl => ?_)
  unfold f_X2_stepOn at hf
  refine am_start hH (fun H locs hH => ?_)
  refine lv_aload_n hx hb dX2_stepOn_0 rfl (lv_at hl 0 rfl) ?_
  refine am_get hx hb hts hK hown hH (am_o2 (p := 255) (by decide +kernel)) rfl am_inX2 1 (by decide) am_q299 (v := .ref (G.1 + 250)) rfl dX2_stepOn_1 ?_
  refine lv_aload_n hx hb dX2_stepOn_4 rfl (lv_at hl 1 rfl) ?_
  obtain ⟨w_39, hq_40, hf⟩ := am_b1_some hf
  refine am_callv (w' := w_39) (am_runV (n := 1) (As := [.ref (G.1 + o1)]) (rest := []) ⟨hx, hb, hml, hown, hts⟩ hK hE hH (k_X7_lookAt ho1 hq_40) (am_gV am_q737 am_q671 am_q672 am_q9 am_q673) (am_o7 (p := 250) (by decide +kernel)) rfl ⟨rfl, rfl⟩ (by decide +kernel) ⟨Nat.le_of_ble_eq_true rfl, Nat.le_of_ble_eq_true rfl⟩ rfl hl.1 rfl (Nat.le_of_ble_eq_true rfl) ⟨Nat.zero_le _, Nat.zero_le _⟩ dX2_stepOn_5) hH (fun H locs hH => ?_)
  refine lv_iconst (v := 0) hx hb dX2_stepOn_8 (by decide) ?_
  refine lv_istore_n (lv' := [(2, .int (0 : Int32)), (0, .ref (G.1 + 255)), (1, .ref (G.1 + o1))]) hx hb dX2_stepOn_9 rfl hl (by decide) rfl (fun ls hl => ?_)
  exact P10 am_fuel (0 : Int32) w_39 H locs ls hf hH (lv_sub hl [1, 2, 0] rfl)

def f_X2_goRound_81 (o1 : Nat) (x2 : Int32) (x3 : Int32) (x4 : Int32) (x5 : Int32) (w : am_S) : Option (((Int32 × am_S) ⊕ (Int32 × Int32 × am_S)) ⊕ (Int32 × am_S)) :=
  am_v (x5 + (1 : Int32)) fun (x5_24 : Int32) => some (.inr (x5_24, w))
def f_X2_goRound_47b (o1 : Nat) (x2 : Int32) (x3 : Int32) (x4 : Int32) (x5 : Int32) (w : am_S) : Option (((Int32 × am_S) ⊕ (Int32 × Int32 × am_S)) ⊕ (Int32 × am_S)) :=
  if (w.1 11 11) ≤ x5 then (am_x (am_v (x2 ||| x4) fun (x2_27 : Int32) => am_v (x3 + (1 : Int32)) fun (x3_28 : Int32) => some (.inr (x2_27, x3_28, w)))) else (if ((x4 >>> (x5 &&& 31)) &&& (1 : Int32)) = 0 then (f_X2_goRound_81 o1 x2 x3 x4 x5 w) else (am_b2 (f_X2_wayIn x3 w) fun r_32 w_30 => am_chk x5 10 (am_v (am_pi w_30 (o1 + 1) x5.toNatClampNeg r_32) fun (w_34 : am_S) => f_X2_goRound_81 o1 x2 x3 x4 x5 w_34)))
def f_X2_goRound_47 (o1 : Nat) (x2 : Int32) (x3 : Int32) (x4 : Int32) (x5 : Int32) (w : am_S) : Option ((Int32 × am_S) ⊕ (Int32 × Int32 × am_S)) :=
  am_loop (fun (st : (Int32 × am_S)) => f_X2_goRound_47b o1 x2 x3 x4 st.1 st.2) am_fuel (x5, w)
def f_X2_goRound_12b (o1 : Nat) (x2 : Int32) (x3 : Int32) (w : am_S) : Option ((Int32 × am_S) ⊕ (Int32 × Int32 × am_S)) :=
  am_b2 (f_X1_allSlots 11 w) fun r_37 w_35 => if r_37 ≤ x3 then (am_x (am_b2 (f_J6_bitCount_0f7a4 x2 w_35) fun r_42 w_40 => some (r_42, w_40))) else (am_b2 (f_X7_clearIn x3 (w_35.1 250 6) w_35) fun r_45 w_43 => am_v (r_45 &&& (x2 ^^^ (-1 : Int32))) fun (x4_46 : Int32) => f_X2_goRound_47 o1 x2 x3 x4_46 (0 : Int32) w_43)
def f_X2_goRound_12 (o1 : Nat) (x2 : Int32) (x3 : Int32) (w : am_S) : Option (Int32 × am_S) :=
  am_loop (fun (st : (Int32 × Int32 × am_S)) => f_X2_goRound_12b o1 st.1 st.2.1 st.2.2) am_fuel (x2, x3, w)
def f_X2_goRound (o1 : Nat) (w : am_S) : Option (Int32 × am_S) :=
  am_b1 (f_X7_lookAt o1 w) fun w_47 => f_X2_goRound_12 o1 (0 : Int32) (0 : Int32) w_47
set_option maxRecDepth 100000 in
set_option maxHeartbeats 4000000 in
theorem k_X2_goRound {G : am_G} {l : Launch} {o1 : Nat} (ho1 : am_f9 o1) {w : am_S} {rr : Int32} {ww : am_S} (hf : f_X2_goRound o1 w = some (rr, ww)) : am_Mi G l yX2_goRound (Cond.code yX2_goRound cX2_goRound 6 (some .int) :: am_T) { frames := 3, cells := 0, slots := 0, locals := 192 } [.ref (G.1 + 255), .ref (G.1 + o1)] w rr ww := by
  refine Met.ofW (cc := cX2_goRound) (maxL := 6) (ret := (some .int)) (by decide) rfl ?_
  intro p e s m args below meth c s₁ B hml hv
  obtain ⟨rfl, hx, hb, hr, hts, hown, hlocks, hK, hE, hH⟩ := am_begin B hv
  have hown : s.vm.findClass RX2 = some m.cls := hown
  show W p l e { frames := 3, cells := 0, slots := 0, locals := 192 } s m _ below meth c s.heap [] 0 0 _ _
  have P12 : ∀ (n1 : Nat) (x2 : Int32) (x3 : Int32) (w : am_S) (H : Heap) (locs : List Loc) (ls : Array Slot), am_loop (fun (st : (Int32 × Int32 × am_S)) => f_X2_goRound_12b o1 st.1 st.2.1 st.2.2) n1 (x2, x3, w) = some (rr, ww) → am_H G w s H locs → lv_has ls 6 [(0, .ref (G.1 + 255)), (1, .ref (G.1 + o1)), (2, .int x2), (3, .int x3)] → W p l e { frames := 3, cells := 0, slots := 0, locals := 192 } s m [.ref (G.1 + 255), .ref (G.1 + o1)].toArray below meth c H locs 0 0 (MQ below (va_Qi (fun (x : Int32) (u : am_S) => x = rr ∧ u = ww) (am_U G) (am_A G)) [.ref (G.1 + 255), .ref (G.1 + o1)].toArray s 0 0 (am_A G)) (F0 m 12 ls []) := by
    intro n1
    induction n1 with
    | zero =>
      intro x2 x3 w H locs ls hf hH hl
      exact (am_loop_zero hf).elim
    | succ n1 ih1 =>
      intro x2 x3 w H locs ls hf hH hl
      obtain ⟨z1, hf, hk1⟩ := am_loop_succ hf
      have hf : f_X2_goRound_12b o1 x2 x3 w = some z1 := hf
      have P47 : ∀ (x2 : Int32) (x3 : Int32) (x4 : Int32) (n2 : Nat) (x5 : Int32) (w : am_S) (z1 : ((Int32 × am_S) ⊕ (Int32 × Int32 × am_S))) (H : Heap) (locs : List Loc) (ls : Array Slot), am_loop (fun (st : (Int32 × am_S)) => f_X2_goRound_47b o1 x2 x3 x4 st.1 st.2) n2 (x5, w) = some z1 → am_lk (fun (st : (Int32 × Int32 × am_S)) => f_X2_goRound_12b o1 st.1 st.2.1 st.2.2) n1 (rr, ww) z1 → am_H G w s H locs → lv_has ls 6 [(0, .ref (G.1 + 255)), (1, .ref (G.1 + o1)), (2, .int x2), (3, .int x3), (4, .int x4), (5, .int x5)] → W p l e { frames := 3, cells := 0, slots := 0, locals := 192 } s m [.ref (G.1 + 255), .ref (G.1 + o1)].toArray below meth c H locs 0 0 (MQ below (va_Qi (fun (x : Int32) (u : am_S) => x = rr ∧ u = ww) (am_U G) (am_A G)) [.ref (G.1 + 255), .ref (G.1 + o1)].toArray s 0 0 (am_A G)) (F0 m 47 ls []) := by
        intro x2 x3 x4 n2
        induction n2 with
        | zero =>
          intro x5 w z1 H locs ls hf hk1 hH hl
          exact (am_loop_zero hf).elim
        | succ n2 ih2 =>
          intro x5 w z1 H locs ls hf hk1 hH hl
          obtain ⟨z2, hf, hk2⟩ := am_loop_succ hf
          have hf : f_X2_goRound_47b o1 x2 x3 x4 x5 w = some z2 := hf
          have P81 : ∀ (x5 : Int32) (w : am_S) (z2 : (((Int32 × am_S) ⊕ (Int32 × Int32 × am_S)) ⊕ (Int32 × am_S))) (H : Heap) (locs : List Loc) (ls : Array Slot), f_X2_goRound_81 o1 x2 x3 x4 x5 w = some z2 → am_lk (fun (st : (Int32 × am_S)) => f_X2_goRound_47b o1 x2 x3 x4 st.1 st.2) n2 z1 z2 → am_H G w s H locs → lv_has ls 6 [(0, .ref (G.1 + 255)), (1, .ref (G.1 + o1)), (2, .int x2), (3, .int x3), (4, .int x4), (5, .int x5)] → W p l e { frames := 3, cells := 0, slots := 0, locals := 192 } s m [.ref (G.1 + 255), .ref (G.1 + o1)].toArray below meth c H locs 0 0 (MQ below (va_Qi (fun (x : Int32) (u : am_S) => x = rr ∧ u = ww) (am_U G) (am_A G)) [.ref (G.1 + 255), .ref (G.1 + o1)].toArray s 0 0 (am_A G)) (F0 m 81 ls []) := by
            intro x5 w z2 H locs ls hf hk2 hH hl
            unfold f_X2_goRound_81 at hf
            obtain ⟨x5_24, hx5_24, hf⟩ := am_v_some hf
            refine lv_iinc (v := x5_24) (lv' := [(5, .int x5_24), (0, .ref (G.1 + 255)), (1, .ref (G.1 + o1)), (2, .int x2), (3, .int x3), (4, .int x4)]) hx hb dX2_goRound_81 hl (k := 5) rfl (by rw [hx5_24]; rfl) (by decide) rfl (fun ls hl => ?_)
            refine lv_goto (tgt := 47) hx hb dX2_goRound_84 (by decide) ?_
            obtain rfl := Option.some.inj hf
            exact ih2 x5_24 w z1 H locs ls hk2 hk1 hH (lv_sub hl [1, 2, 3, 4, 5, 0] rfl)
          unfold f_X2_goRound_47b at hf
          refine lv_iload hx hb dX2_goRound_47 (lv_at hl 5 rfl) ?_
          refine lv_aload_n hx hb dX2_goRound_49 rfl (lv_at hl 0 rfl) ?_
          refine am_get hx hb hts hK hown hH (am_o2 (p := 255) (by decide +kernel)) rfl am_inX2 0 (by decide) am_q298 (v := .ref (G.1 + 11)) rfl dX2_goRound_50 ?_
          refine am_get hx hb hts hK hown hH (am_o1 (p := 11) (by decide +kernel)) rfl am_inX1 11 (by decide) am_q105 (v := .int (w.1 11 11)) rfl dX2_goRound_53 ?_
          refine lv_icmp_ge (tgt := 87) hx hb dX2_goRound_56 (by decide) (fun hc_25 => ?_) (fun hc_25 => ?_)
          · have hf := (if_pos hc_25).symm.trans hf
            obtain ⟨y_26, hf, hzy_26⟩ := am_x_some hf
            rw [hzy_26] at hk2
            have hf := hf.trans (congrArg some (show y_26 = z1 from hk2))
            refine lv_iload_n hx hb dX2_goRound_87 rfl (lv_at hl 2 rfl) ?_
            refine lv_iload hx hb dX2_goRound_88 (lv_at hl 4 rfl) ?_
            refine lv_ior hx hb dX2_goRound_90 ?_
            obtain ⟨x2_27, hx2_27, hf⟩ := am_v_some hf
            refine am_topi hx2_27 ?_
            refine lv_istore_n (lv' := [(2, .int x2_27), (0, .ref (G.1 + 255)), (1, .ref (G.1 + o1)), (3, .int x3), (4, .int x4), (5, .int x5)]) hx hb dX2_goRound_91 rfl hl (by decide) rfl (fun ls hl => ?_)
            obtain ⟨x3_28, hx3_28, hf⟩ := am_v_some hf
            refine lv_iinc (v := x3_28) (lv' := [(3, .int x3_28), (2, .int x2_27), (0, .ref (G.1 + 255)), (1, .ref (G.1 + o1)), (4, .int x4), (5, .int x5)]) hx hb dX2_goRound_92 hl (k := 3) rfl (by rw [hx3_28]; rfl) (by decide) rfl (fun ls hl => ?_)
            refine lv_goto (tgt := 12) hx hb dX2_goRound_95 (by decide) ?_
            obtain rfl := Option.some.inj hf
            exact ih1 x2_27 x3_28 w H locs ls hk1 hH (lv_sub hl [2, 3, 1, 0] rfl)
          · have hf := (if_neg hc_25).symm.trans hf
            refine lv_iload hx hb dX2_goRound_59 (lv_at hl 4 rfl) ?_
            refine lv_iload hx hb dX2_goRound_61 (lv_at hl 5 rfl) ?_
            refine lv_ishr hx hb dX2_goRound_63 ?_
            refine lv_iconst (v := 1) hx hb dX2_goRound_64 (by decide) ?_
            refine lv_iand hx hb dX2_goRound_65 ?_
            refine lv_if_eq (tgt := 81) hx hb dX2_goRound_66 (by decide) (fun hc_29 => ?_) (fun hc_29 => ?_)
            · have hf := (if_pos hc_29).symm.trans hf
              exact P81 x5 w z2 H locs ls hf hk2 hH (lv_sub hl [0, 1, 2, 3, 4, 5] rfl)
            · have hf := (if_neg hc_29).symm.trans hf
              refine lv_aload_n hx hb dX2_goRound_69 rfl (lv_at hl 1 rfl) ?_
              refine am_get hx hb hts hK hown hH (am_o9 ho1.1) rfl am_inX9 0 (by decide) am_q175 (v := .ref (G.1 + (o1 + 1))) rfl dX2_goRound_70 ?_
              refine lv_iload hx hb dX2_goRound_73 (lv_at hl 5 rfl) ?_
              refine lv_aload_n hx hb dX2_goRound_75 rfl (lv_at hl 0 rfl) ?_
              refine lv_iload_n hx hb dX2_goRound_76 rfl (lv_at hl 3 rfl) ?_
              obtain ⟨r_32, w_30, hq_31, hf⟩ := am_b2_some hf
              refine am_calli (r := r_32) (w' := w_30) (am_runV (n := 1) (As := [.int x3]) (rest := [.int x5, .ref (G.1 + (o1 + 1))]) ⟨hx, hb, hml, hown, hts⟩ hK hE hH (k_X2_wayIn hq_31) (am_gV am_q793 am_q795 am_qs25 am_q10 am_q796) (am_o2 (p := 255) (by decide +kernel)) rfl ⟨rfl, rfl⟩ (by decide +kernel) ⟨Nat.le_of_ble_eq_true rfl, Nat.le_of_ble_eq_true rfl⟩ rfl hl.1 rfl (Nat.le_of_ble_eq_true rfl) ⟨Nat.zero_le _, Nat.zero_le _⟩ dX2_goRound_77) hH (fun H locs hH => ?_)
              obtain ⟨hi_33, hf⟩ := am_chk_some hf
              obtain ⟨w_34, hw_34, hf⟩ := am_v_some hf
              refine am_iast hx hb hK hH (am_ai_of (N := 10) ho1.2.1) hi_33 dX2_goRound_80 (fun H locs hH => ?_)
              rw [← hw_34] at hH
              exact P81 x5 w_34 z2 H locs ls hf hk2 hH (lv_sub hl [0, 1, 2, 3, 4, 5] rfl)
      unfold f_X2_goRound_12b at hf
      refine lv_iload_n hx hb dX2_goRound_12 rfl (lv_at hl 3 rfl) ?_
      refine lv_aload_n hx hb dX2_goRound_13 rfl (lv_at hl 0 rfl) ?_
      refine am_get hx hb hts hK hown hH (am_o2 (p := 255) (by decide +kernel)) rfl am_inX2 0 (by decide) am_q298 (v := .ref (G.1 + 11)) rfl dX2_goRound_14 ?_
      obtain ⟨r_37, w_35, hq_36, hf⟩ := am_b2_some hf
      refine am_calli (r := r_37) (w' := w_35) (am_runV (n := 0) (As := []) (rest := [.int x3]) ⟨hx, hb, hml, hown, hts⟩ hK hE hH (k_X1_allSlots (by decide +kernel) hq_36) (am_gV am_q764 am_q630 am_q631 am_q3 am_q632) (am_o1 (p := 11) (by decide +kernel)) rfl ⟨rfl, rfl⟩ (by decide +kernel) ⟨Nat.le_of_ble_eq_true rfl, Nat.le_of_ble_eq_true rfl⟩ rfl hl.1 rfl (Nat.le_of_ble_eq_true rfl) ⟨Nat.zero_le _, Nat.zero_le _⟩ dX2_goRound_17) hH (fun H locs hH => ?_)
      refine lv_icmp_ge (tgt := 98) hx hb dX2_goRound_20 (by decide) (fun hc_38 => ?_) (fun hc_38 => ?_)
      · have hf := (if_pos hc_38).symm.trans hf
        obtain ⟨y_39, hf, hzy_39⟩ := am_x_some hf
        rw [hzy_39] at hk1
        have hf := hf.trans (congrArg some (show y_39 = (rr, ww) from hk1))
        refine lv_iload_n hx hb dX2_goRound_98 rfl (lv_at hl 2 rfl) ?_
        obtain ⟨r_42, w_40, hq_41, hf⟩ := am_b2_some hf
        refine am_calli (r := r_42) (w' := w_40) (am_runS (n := 1) (As := [.int x2]) (rest := []) ⟨hx, hb, hml, hown, hts⟩ hK hE hH (k_J6_bitCount_0f7a4 hq_41) (am_gS am_q797 am_q716 am_q23 am_q717) ⟨rfl, rfl⟩ (by decide +kernel) ⟨Nat.le_of_ble_eq_true rfl, Nat.le_of_ble_eq_true rfl⟩ rfl hl.1 rfl (Nat.le_of_ble_eq_true rfl) ⟨Nat.zero_le _, Nat.zero_le _⟩ dX2_goRound_99) hH (fun H locs hH => ?_)
        exact am_reti hx hb hr hlocks hH hf dX2_goRound_102
      · have hf := (if_neg hc_38).symm.trans hf
        refine lv_aload_n hx hb dX2_goRound_23 rfl (lv_at hl 0 rfl) ?_
        refine am_get hx hb hts hK hown hH (am_o2 (p := 255) (by decide +kernel)) rfl am_inX2 1 (by decide) am_q299 (v := .ref (G.1 + 250)) rfl dX2_goRound_24 ?_
        refine lv_iload_n hx hb dX2_goRound_27 rfl (lv_at hl 3 rfl) ?_
        refine lv_aload_n hx hb dX2_goRound_28 rfl (lv_at hl 0 rfl) ?_
        refine am_get hx hb hts hK hown hH (am_o2 (p := 255) (by decide +kernel)) rfl am_inX2 1 (by decide) am_q299 (v := .ref (G.1 + 250)) rfl dX2_goRound_29 ?_
        refine am_get hx hb hts hK hown hH (am_o7 (p := 250) (by decide +kernel)) rfl am_inX7 6 (by decide) am_q272 (v := .int (w_35.1 250 6)) rfl dX2_goRound_32 ?_
        obtain ⟨r_45, w_43, hq_44, hf⟩ := am_b2_some hf
        refine am_calli (r := r_45) (w' := w_43) (am_runV (n := 2) (As := [.int x3, .int (w_35.1 250 6)]) (rest := []) ⟨hx, hb, hml, hown, hts⟩ hK hE hH (k_X7_clearIn hq_44) (am_gV am_q789 am_q703 am_q704 am_q9 am_q705) (am_o7 (p := 250) (by decide +kernel)) rfl ⟨rfl, rfl⟩ (by decide +kernel) ⟨Nat.le_of_ble_eq_true rfl, Nat.le_of_ble_eq_true rfl⟩ rfl hl.1 rfl (Nat.le_of_ble_eq_true rfl) ⟨Nat.zero_le _, Nat.zero_le _⟩ dX2_goRound_35) hH (fun H locs hH => ?_)
        refine lv_iload_n hx hb dX2_goRound_38 rfl (lv_at hl 2 rfl) ?_
        refine lv_iconst (v := -1) hx hb dX2_goRound_39 (by decide) ?_
        refine lv_ixor hx hb dX2_goRound_40 ?_
        refine lv_iand hx hb dX2_goRound_41 ?_
        obtain ⟨x4_46, hx4_46, hf⟩ := am_v_some hf
        refine am_topi hx4_46 ?_
        refine lv_istore (lv' := [(4, .int x4_46), (0, .ref (G.1 + 255)), (1, .ref (G.1 + o1)), (2, .int x2), (3, .int x3)]) hx hb dX2_goRound_42 hl (by decide) rfl (fun ls hl => ?_)
        refine lv_iconst (v := 0) hx hb dX2_goRound_44 (by decide) ?_
        refine lv_istore (lv' := [(5, .int (0 : Int32)), (4, .int x4_46), (0, .ref (G.1 + 255)), (1, .ref (G.1 + o1)), (2, .int x2), (3, .int x3)]) hx hb dX2_goRound_45 hl (by decide) rfl (fun ls hl => ?_)
        exact P47 x2 x3 x4_46 am_fuel (0 : Int32) w_43 z1 H locs ls hf hk1 hH (lv_sub hl [2, 3, 4, 5, 1, 0] rfl)
  refine am_enter (lv := [(0, .ref (G.1 + 255)), (1, .ref (G.1 + o1))]) (Nat.le_of_ble_eq_true rfl) rfl (fun ls hl => ?_)
  unfold f_X2_goRound at hf
  refine am_start hH (fun H locs hH => ?_)
  refine lv_aload_n hx hb dX2_goRound_0 rfl (lv_at hl 0 rfl) ?_
  refine am_get hx hb hts hK hown hH (am_o2 (p := 255) (by decide +kernel)) rfl am_inX2 1 (by decide) am_q299 (v := .ref (G.1 + 250)) rfl dX2_goRound_1 ?_
  refine lv_aload_n hx hb dX2_goRound_4 rfl (lv_at hl 1 rfl) ?_
  obtain ⟨w_47, hq_48, hf⟩ := am_b1_some hf
  refine am_callv (w' := w_47) (am_runV (n := 1) (As := [.ref (G.1 + o1)]) (rest := []) ⟨hx, hb, hml, hown, hts⟩ hK hE hH (k_X7_lookAt ho1 hq_48) (am_gV am_q737 am_q671 am_q672 am_q9 am_q673) (am_o7 (p := 250) (by decide +kernel)) rfl ⟨rfl, rfl⟩ (by decide +kernel) ⟨Nat.le_of_ble_eq_true rfl, Nat.le_of_ble_eq_true rfl⟩ rfl hl.1 rfl (Nat.le_of_ble_eq_true rfl) ⟨Nat.zero_le _, Nat.zero_le _⟩ dX2_goRound_5) hH (fun H locs hH => ?_)
  refine lv_iconst (v := 0) hx hb dX2_goRound_8 (by decide) ?_
  refine lv_istore_n (lv' := [(2, .int (0 : Int32)), (0, .ref (G.1 + 255)), (1, .ref (G.1 + o1))]) hx hb dX2_goRound_9 rfl hl (by decide) rfl (fun ls hl => ?_)
  refine lv_iconst (v := 0) hx hb dX2_goRound_10 (by decide) ?_
  refine lv_istore_n (lv' := [(3, .int (0 : Int32)), (2, .int (0 : Int32)), (0, .ref (G.1 + 255)), (1, .ref (G.1 + o1))]) hx hb dX2_goRound_11 rfl hl (by decide) rfl (fun ls hl => ?_)
  exact P12 am_fuel (0 : Int32) (0 : Int32) w_47 H locs ls hf hH (lv_sub hl [2, 3, 1, 0] rfl)

def f_X2_makeKnown (o1 : Nat) (a2 : Int32) (w : am_S) : Option (Int32 × am_S) :=
  am_chk a2 10 (am_v (am_pi w (o1 + 1) a2.toNatClampNeg (3 : Int32)) fun (w_7 : am_S) => am_b2 (f_X9_knownCount o1 w_7) fun r_10 w_8 => some (r_10, w_8))
set_option maxRecDepth 100000 in
set_option maxHeartbeats 4000000 in
theorem k_X2_makeKnown {G : am_G} {l : Launch} {o1 : Nat} {a2 : Int32} (ho1 : am_f9 o1) {w : am_S} {rr : Int32} {ww : am_S} (hf : f_X2_makeKnown o1 a2 w = some (rr, ww)) : am_Mi G l yX2_makeKnown (Cond.code yX2_makeKnown cX2_makeKnown 3 (some .int) :: am_T) { frames := 1, cells := 0, slots := 0, locals := 64 } [.ref (G.1 + 255), .ref (G.1 + o1), .int a2] w rr ww := by
  refine Met.ofW (cc := cX2_makeKnown) (maxL := 3) (ret := (some .int)) (by decide) rfl ?_
  intro p e s m args below meth c s₁ B hml hv
  obtain ⟨rfl, hx, hb, hr, hts, hown, hlocks, hK, hE, hH⟩ := am_begin B hv
  have hown : s.vm.findClass RX2 = some m.cls := hown
  show W p l e { frames := 1, cells := 0, slots := 0, locals := 64 } s m _ below meth c s.heap [] 0 0 _ _
  refine am_enter (lv := [(0, .ref (G.1 + 255)), (1, .ref (G.1 + o1)), (2, .int a2)]) (Nat.le_of_ble_eq_true rfl) rfl (fun ls hl => ?_)
  unfold f_X2_makeKnown at hf
  refine am_start hH (fun H locs hH => ?_)
  refine lv_aload_n hx hb dX2_makeKnown_0 rfl (lv_at hl 1 rfl) ?_
  refine am_get hx hb hts hK hown hH (am_o9 ho1.1) rfl am_inX9 0 (by decide) am_q175 (v := .ref (G.1 + (o1 + 1))) rfl dX2_makeKnown_1 ?_
  refine lv_iload_n hx hb dX2_makeKnown_4 rfl (lv_at hl 2 rfl) ?_
  refine lv_iconst (v := 3) hx hb dX2_makeKnown_5 (by decide) ?_
  obtain ⟨hi_6, hf⟩ := am_chk_some hf
  obtain ⟨w_7, hw_7, hf⟩ := am_v_some hf
  refine am_iast hx hb hK hH (am_ai_of (N := 10) ho1.2.1) hi_6 dX2_makeKnown_6 (fun H locs hH => ?_)
  rw [← hw_7] at hH
  refine lv_aload_n hx hb dX2_makeKnown_7 rfl (lv_at hl 1 rfl) ?_
  obtain ⟨r_10, w_8, hq_9, hf⟩ := am_b2_some hf
  refine am_calli (r := r_10) (w' := w_8) (am_runV (n := 0) (As := []) (rest := []) ⟨hx, hb, hml, hown, hts⟩ hK hE hH (k_X9_knownCount ho1 hq_9) (am_gV am_q806 am_q807 am_q808 am_q5 am_q809) (am_o9 ho1.1) rfl ⟨rfl, rfl⟩ (by decide +kernel) ⟨Nat.le_of_ble_eq_true rfl, Nat.le_of_ble_eq_true rfl⟩ rfl hl.1 rfl (Nat.le_of_ble_eq_true rfl) ⟨Nat.zero_le _, Nat.zero_le _⟩ dX2_makeKnown_8) hH (fun H locs hH => ?_)
  exact am_reti hx hb hr hlocks hH hf dX2_makeKnown_11

def f_X2_makeUnknown (o1 : Nat) (a2 : Int32) (w : am_S) : Option (Int32 × am_S) :=
  am_chk a2 10 (am_v (w.1 (o1 + 1) a2.toNatClampNeg) fun (x3_6 : Int32) => am_chk a2 10 (am_v (am_pi w (o1 + 1) a2.toNatClampNeg (0 : Int32)) fun (w_8 : am_S) => some (x3_6, w_8)))
set_option maxRecDepth 100000 in
set_option maxHeartbeats 4000000 in
theorem k_X2_makeUnknown {G : am_G} {l : Launch} {o1 : Nat} {a2 : Int32} (ho1 : am_f9 o1) {w : am_S} {rr : Int32} {ww : am_S} (hf : f_X2_makeUnknown o1 a2 w = some (rr, ww)) : am_Mi G l yX2_makeUnknown (Cond.code yX2_makeUnknown cX2_makeUnknown 4 (some .int) :: am_T) { frames := 0, cells := 0, slots := 0, locals := 0 } [.ref (G.1 + 255), .ref (G.1 + o1), .int a2] w rr ww := by
  refine Met.ofW (cc := cX2_makeUnknown) (maxL := 4) (ret := (some .int)) (by decide) rfl ?_
  intro p e s m args below meth c s₁ B hml hv
  obtain ⟨rfl, hx, hb, hr, hts, hown, hlocks, hK, hE, hH⟩ := am_begin B hv
  have hown : s.vm.findClass RX2 = some m.cls := hown
  show W p l e { frames := 0, cells := 0, slots := 0, locals := 0 } s m _ below meth c s.heap [] 0 0 _ _
  refine am_enter (lv := [(0, .ref (G.1 + 255)), (1, .ref (G.1 + o1)), (2, .int a2)]) (Nat.le_of_ble_eq_true rfl) rfl (fun ls hl => ?_)
  unfold f_X2_makeUnknown at hf
  refine am_start hH (fun H locs hH => ?_)
  refine lv_aload_n hx hb dX2_makeUnknown_0 rfl (lv_at hl 1 rfl) ?_
  refine am_get hx hb hts hK hown hH (am_o9 ho1.1) rfl am_inX9 0 (by decide) am_q175 (v := .ref (G.1 + (o1 + 1))) rfl dX2_makeUnknown_1 ?_
  refine lv_iload_n hx hb dX2_makeUnknown_4 rfl (lv_at hl 2 rfl) ?_
  obtain ⟨hi_5, hf⟩ := am_chk_some hf
  refine am_iald hx hb hK hH (am_ai_of (N := 10) ho1.2.1) hi_5 dX2_makeUnknown_5 ?_
  obtain ⟨x3_6, hx3_6, hf⟩ := am_v_some hf
  refine am_topi hx3_6 ?_
  refine lv_istore_n (lv' := [(3, .int x3_6), (0, .ref (G.1 + 255)), (1, .ref (G.1 + o1)), (2, .int a2)]) hx hb dX2_makeUnknown_6 rfl hl (by decide) rfl (fun ls hl => ?_)
  refine lv_aload_n hx hb dX2_makeUnknown_7 rfl (lv_at hl 2 rfl) ?_
  refine am_get hx hb hts hK hown hH (am_o9 ho1.1) rfl am_inX9 0 (by decide) am_q175 (v := .ref (G.1 + (o1 + 1))) rfl dX2_makeUnknown_8 ?_
  refine lv_iload_n hx hb dX2_makeUnknown_11 rfl (lv_at hl 3 rfl) ?_
  refine lv_iconst (v := 0) hx hb dX2_makeUnknown_12 (by decide) ?_
  obtain ⟨hi_7, hf⟩ := am_chk_some hf
  obtain ⟨w_8, hw_8, hf⟩ := am_v_some hf
  refine am_iast hx hb hK hH (am_ai_of (N := 10) ho1.2.1) hi_7 dX2_makeUnknown_13 (fun H locs hH => ?_)
  rw [← hw_8] at hH
  refine lv_iload_n hx hb dX2_makeUnknown_14 rfl (lv_at hl 0 rfl) ?_
  exact am_reti hx hb hr hlocks hH hf dX2_makeUnknown_15

def f_J13_bitCount_95d88 (a0 : Int64) (w : am_S) : Option (Int32 × am_S) :=
  am_v (a0 - ((am_lushr a0 (1 : Int32)) &&& (6148914691236517205 : Int64))) fun (x0_7 : Int64) => am_v ((x0_7 &&& (3689348814741910323 : Int64)) + ((am_lushr x0_7 (2 : Int32)) &&& (3689348814741910323 : Int64))) fun (x0_8 : Int64) => am_v ((x0_8 + (am_lushr x0_8 (4 : Int32))) &&& (1085102592571150095 : Int64)) fun (x0_9 : Int64) => am_v (x0_9 + (am_lushr x0_9 (8 : Int32))) fun (x0_10 : Int64) => am_v (x0_10 + (am_lushr x0_10 (16 : Int32))) fun (x0_11 : Int64) => am_v (x0_11 + (am_lushr x0_11 (32 : Int32))) fun (x0_12 : Int64) => some ((x0_12.toInt32) &&& (127 : Int32), w)
set_option maxRecDepth 100000 in
set_option maxHeartbeats 4000000 in
theorem k_J13_bitCount_95d88 {G : am_G} {l : Launch} {a0 : Int64}  {w : am_S} {rr : Int32} {ww : am_S} (hf : f_J13_bitCount_95d88 a0 w = some (rr, ww)) : am_Mi G l yJ13_bitCount_95d88 (Cond.code yJ13_bitCount_95d88 cJ13_bitCount_95d88 2 (some .int) :: am_T) { frames := 0, cells := 0, slots := 0, locals := 0 } [.long a0] w rr ww := by
  refine Met.ofW (cc := cJ13_bitCount_95d88) (maxL := 2) (ret := (some .int)) (by decide) rfl ?_
  intro p e s m args below meth c s₁ B hml hv
  obtain ⟨rfl, hx, hb, hr, hts, hown, hlocks, hK, hE, hH⟩ := am_begin B hv
  have hown : s.vm.findClass RJ13 = some m.cls := hown
  show W p l e { frames := 0, cells := 0, slots := 0, locals := 0 } s m _ below meth c s.heap [] 0 0 _ _
  refine am_enter (lv := [(0, .long a0)]) (Nat.le_of_ble_eq_true rfl) rfl (fun ls hl => ?_)
  unfold f_J13_bitCount_95d88 at hf
  refine am_start hH (fun H locs hH => ?_)
  refine lv_lload_n hx hb dJ13_bitCount_95d88_0 rfl (lv_at hl 0 rfl) ?_
  refine lv_lload_n hx hb dJ13_bitCount_95d88_1 rfl (lv_at hl 0 rfl) ?_
  refine lv_iconst (v := 1) hx hb dJ13_bitCount_95d88_2 (by decide) ?_
  refine lv_lushr (v := am_lushr a0 (1 : Int32)) hx hb dJ13_bitCount_95d88_3 rfl ?_
  refine lv_ldc2 (v := 6148914691236517205) hx hb hown (hts _ am_q852) dJ13_bitCount_95d88_4 ?_
  refine lv_land hx hb dJ13_bitCount_95d88_7 ?_
  refine lv_lsub hx hb dJ13_bitCount_95d88_8 ?_
  obtain ⟨x0_7, hx0_7, hf⟩ := am_v_some hf
  refine am_topl hx0_7 ?_
  refine lv_lstore_n (lv' := [(0, .long x0_7)]) hx hb dJ13_bitCount_95d88_9 rfl hl (by decide) rfl (fun ls hl => ?_)
  refine lv_lload_n hx hb dJ13_bitCount_95d88_10 rfl (lv_at hl 0 rfl) ?_
  refine lv_ldc2 (v := 3689348814741910323) hx hb hown (hts _ am_q853) dJ13_bitCount_95d88_11 ?_
  refine lv_land hx hb dJ13_bitCount_95d88_14 ?_
  refine lv_lload_n hx hb dJ13_bitCount_95d88_15 rfl (lv_at hl 0 rfl) ?_
  refine lv_iconst (v := 2) hx hb dJ13_bitCount_95d88_16 (by decide) ?_
  refine lv_lushr (v := am_lushr x0_7 (2 : Int32)) hx hb dJ13_bitCount_95d88_17 rfl ?_
  refine lv_ldc2 (v := 3689348814741910323) hx hb hown (hts _ am_q853) dJ13_bitCount_95d88_18 ?_
  refine lv_land hx hb dJ13_bitCount_95d88_21 ?_
  refine lv_ladd hx hb dJ13_bitCount_95d88_22 ?_
  obtain ⟨x0_8, hx0_8, hf⟩ := am_v_some hf
  refine am_topl hx0_8 ?_
  refine lv_lstore_n (lv' := [(0, .long x0_8)]) hx hb dJ13_bitCount_95d88_23 rfl hl (by decide) rfl (fun ls hl => ?_)
  refine lv_lload_n hx hb dJ13_bitCount_95d88_24 rfl (lv_at hl 0 rfl) ?_
  refine lv_lload_n hx hb dJ13_bitCount_95d88_25 rfl (lv_at hl 0 rfl) ?_
  refine lv_iconst (v := 4) hx hb dJ13_bitCount_95d88_26 (by decide) ?_
  refine lv_lushr (v := am_lushr x0_8 (4 : Int32)) hx hb dJ13_bitCount_95d88_27 rfl ?_
  refine lv_ladd hx hb dJ13_bitCount_95d88_28 ?_
  refine lv_ldc2 (v := 1085102592571150095) hx hb hown (hts _ am_q854) dJ13_bitCount_95d88_29 ?_
  refine lv_land hx hb dJ13_bitCount_95d88_32 ?_
  obtain ⟨x0_9, hx0_9, hf⟩ := am_v_some hf
  refine am_topl hx0_9 ?_
  refine lv_lstore_n (lv' := [(0, .long x0_9)]) hx hb dJ13_bitCount_95d88_33 rfl hl (by decide) rfl (fun ls hl => ?_)
  refine lv_lload_n hx hb dJ13_bitCount_95d88_34 rfl (lv_at hl 0 rfl) ?_
  refine lv_lload_n hx hb dJ13_bitCount_95d88_35 rfl (lv_at hl 0 rfl) ?_
  refine lv_bipush (v := 8) hx hb dJ13_bitCount_95d88_36 (by decide) ?_
  refine lv_lushr (v := am_lushr x0_9 (8 : Int32)) hx hb dJ13_bitCount_95d88_38 rfl ?_
  refine lv_ladd hx hb dJ13_bitCount_95d88_39 ?_
  obtain ⟨x0_10, hx0_10, hf⟩ := am_v_some hf
  refine am_topl hx0_10 ?_
  refine lv_lstore_n (lv' := [(0, .long x0_10)]) hx hb dJ13_bitCount_95d88_40 rfl hl (by decide) rfl (fun ls hl => ?_)
  refine lv_lload_n hx hb dJ13_bitCount_95d88_41 rfl (lv_at hl 0 rfl) ?_
  refine lv_lload_n hx hb dJ13_bitCount_95d88_42 rfl (lv_at hl 0 rfl) ?_
  refine lv_bipush (v := 16) hx hb dJ13_bitCount_95d88_43 (by decide) ?_
  refine lv_lushr (v := am_lushr x0_10 (16 : Int32)) hx hb dJ13_bitCount_95d88_45 rfl ?_
  refine lv_ladd hx hb dJ13_bitCount_95d88_46 ?_
  obtain ⟨x0_11, hx0_11, hf⟩ := am_v_some hf
  refine am_topl hx0_11 ?_
  refine lv_lstore_n (lv' := [(0, .long x0_11)]) hx hb dJ13_bitCount_95d88_47 rfl hl (by decide) rfl (fun ls hl => ?_)
  refine lv_lload_n hx hb dJ13_bitCount_95d88_48 rfl (lv_at hl 0 rfl) ?_
  refine lv_lload_n hx hb dJ13_bitCount_95d88_49 rfl (lv_at hl 0 rfl) ?_
  refine lv_bipush (v := 32) hx hb dJ13_bitCount_95d88_50 (by decide) ?_
  refine lv_lushr (v := am_lushr x0_11 (32 : Int32)) hx hb dJ13_bitCount_95d88_52 rfl ?_
  refine lv_ladd hx hb dJ13_bitCount_95d88_53 ?_
  obtain ⟨x0_12, hx0_12, hf⟩ := am_v_some hf
  refine am_topl hx0_12 ?_
  refine lv_lstore_n (lv' := [(0, .long x0_12)]) hx hb dJ13_bitCount_95d88_54 rfl hl (by decide) rfl (fun ls hl => ?_)
  refine lv_lload_n hx hb dJ13_bitCount_95d88_55 rfl (lv_at hl 0 rfl) ?_
  refine lv_l2i hx hb dJ13_bitCount_95d88_56 rfl ?_
  refine lv_bipush (v := 127) hx hb dJ13_bitCount_95d88_57 (by decide) ?_
  refine lv_iand hx hb dJ13_bitCount_95d88_59 ?_
  exact am_reti hx hb hr hlocks hH hf dJ13_bitCount_95d88_60

def f_X2_setCapture (o1 : Nat) (a2 : Int32) (w : am_S) : Option (Int32 × am_S) :=
  am_v (w.1 o1 4) fun (x3_3 : Int32) => am_v (am_pi w o1 4 a2) fun (w_4 : am_S) => some (x3_3, w_4)
set_option maxRecDepth 100000 in
set_option maxHeartbeats 4000000 in
theorem k_X2_setCapture {G : am_G} {l : Launch} {o1 : Nat} {a2 : Int32} (ho1 : am_f9 o1) {w : am_S} {rr : Int32} {ww : am_S} (hf : f_X2_setCapture o1 a2 w = some (rr, ww)) : am_Mi G l yX2_setCapture (Cond.code yX2_setCapture cX2_setCapture 4 (some .int) :: am_T) { frames := 0, cells := 0, slots := 0, locals := 0 } [.ref (G.1 + 255), .ref (G.1 + o1), .int a2] w rr ww := by
  refine Met.ofW (cc := cX2_setCapture) (maxL := 4) (ret := (some .int)) (by decide) rfl ?_
  intro p e s m args below meth c s₁ B hml hv
  obtain ⟨rfl, hx, hb, hr, hts, hown, hlocks, hK, hE, hH⟩ := am_begin B hv
  have hown : s.vm.findClass RX2 = some m.cls := hown
  show W p l e { frames := 0, cells := 0, slots := 0, locals := 0 } s m _ below meth c s.heap [] 0 0 _ _
  refine am_enter (lv := [(0, .ref (G.1 + 255)), (1, .ref (G.1 + o1)), (2, .int a2)]) (Nat.le_of_ble_eq_true rfl) rfl (fun ls hl => ?_)
  unfold f_X2_setCapture at hf
  refine am_start hH (fun H locs hH => ?_)
  refine lv_aload_n hx hb dX2_setCapture_0 rfl (lv_at hl 1 rfl) ?_
  refine am_get hx hb hts hK hown hH (am_o9 ho1.1) rfl am_inX9 4 (by decide) am_q189 (v := .int (w.1 o1 4)) rfl dX2_setCapture_1 ?_
  obtain ⟨x3_3, hx3_3, hf⟩ := am_v_some hf
  refine am_topi hx3_3 ?_
  refine lv_istore_n (lv' := [(3, .int x3_3), (0, .ref (G.1 + 255)), (1, .ref (G.1 + o1)), (2, .int a2)]) hx hb dX2_setCapture_4 rfl hl (by decide) rfl (fun ls hl => ?_)
  refine lv_aload_n hx hb dX2_setCapture_5 rfl (lv_at hl 2 rfl) ?_
  refine lv_iload_n hx hb dX2_setCapture_6 rfl (lv_at hl 3 rfl) ?_
  obtain ⟨w_4, hw_4, hf⟩ := am_v_some hf
  refine am_puti hx hb hts hK hown hH (am_o9 ho1.1) rfl am_inX9 tyX9 tyX9_ok nmX9 4 (by decide) am_q189 rfl rfl rfl (fun _ _ => Nat.le_of_ble_eq_true rfl) (fun _ _ _ => rfl) dX2_setCapture_7 (fun H locs hH => ?_)
  rw [← hw_4] at hH
  refine lv_iload_n hx hb dX2_setCapture_10 rfl (lv_at hl 0 rfl) ?_
  exact am_reti hx hb hr hlocks hH hf dX2_setCapture_11

def f_X0_begin (o0 : Nat) (a1 : Int64) (w : am_S) : Option am_S :=
  am_v (am_pl w o0 0 a1) fun (w_2 : am_S) => some w_2
set_option maxRecDepth 100000 in
set_option maxHeartbeats 4000000 in
theorem k_X0_begin {G : am_G} {l : Launch} {o0 : Nat} {a1 : Int64} (ho0 : am_f0 o0) {w : am_S} {ww : am_S} (hf : f_X0_begin o0 a1 w = some ww) : am_Mv G l yX0_begin (Cond.code yX0_begin cX0_begin 3 none :: am_T) { frames := 0, cells := 0, slots := 0, locals := 0 } [.ref (G.1 + o0), .long a1] w ww := by
  refine Met.ofW (cc := cX0_begin) (maxL := 3) (ret := none) (by decide) rfl ?_
  intro p e s m args below meth c s₁ B hml hv
  obtain ⟨rfl, hx, hb, hr, hts, hown, hlocks, hK, hE, hH⟩ := am_begin B hv
  have hown : s.vm.findClass RX0 = some m.cls := hown
  show W p l e { frames := 0, cells := 0, slots := 0, locals := 0 } s m _ below meth c s.heap [] 0 0 _ _
  refine am_enter (lv := [(0, .ref (G.1 + o0)), (1, .long a1)]) (Nat.le_of_ble_eq_true rfl) rfl (fun ls hl => ?_)
  unfold f_X0_begin at hf
  refine am_start hH (fun H locs hH => ?_)
  refine lv_aload_n hx hb dX0_begin_0 rfl (lv_at hl 0 rfl) ?_
  refine lv_lload_n hx hb dX0_begin_1 rfl (lv_at hl 1 rfl) ?_
  obtain ⟨w_2, hw_2, hf⟩ := am_v_some hf
  refine am_putl hx hb hts hK hown hH (am_o0 ho0) rfl am_inX0 tyX0 tyX0_ok nmX0 0 (by decide) am_q249 rfl rfl rfl (fun _ _ => Nat.le_of_ble_eq_true rfl) (fun _ _ _ => rfl) dX0_begin_2 (fun H locs hH => ?_)
  rw [← hw_2] at hH
  exact am_retv hx hb hr hlocks hH hf dX0_begin_5

def f_X0_cast_35 (o0 : Nat) (a1 : Int32) (s0 : Int32) (w : am_S) : Option (Int32 × am_S) :=
  some (s0, w)
def f_X0_cast (o0 : Nat) (a1 : Int32) (w : am_S) : Option (Int32 × am_S) :=
  am_v (am_pl w o0 0 (((w.2.1 o0 0) * (6364136223846793005 : Int64)) + (1442695040888963407 : Int64))) fun (w_4 : am_S) => if 0 < a1 then (am_nzl (a1.toInt64) (f_X0_cast_35 o0 a1 (((am_lushr (w_4.2.1 o0 0) (33 : Int32)) - (am_lushr (w_4.2.1 o0 0) (33 : Int32)) / (a1.toInt64) * (a1.toInt64)).toInt32) w_4)) else (f_X0_cast_35 o0 a1 (0 : Int32) w_4)
set_option maxRecDepth 100000 in
set_option maxHeartbeats 4000000 in
theorem k_X0_cast {G : am_G} {l : Launch} {o0 : Nat} {a1 : Int32} (ho0 : am_f0 o0) {w : am_S} {rr : Int32} {ww : am_S} (hf : f_X0_cast o0 a1 w = some (rr, ww)) : am_Mi G l yX0_cast (Cond.code yX0_cast cX0_cast 2 (some .int) :: am_T) { frames := 0, cells := 0, slots := 0, locals := 0 } [.ref (G.1 + o0), .int a1] w rr ww := by
  refine Met.ofW (cc := cX0_cast) (maxL := 2) (ret := (some .int)) (by decide) rfl ?_
  intro p e s m args below meth c s₁ B hml hv
  obtain ⟨rfl, hx, hb, hr, hts, hown, hlocks, hK, hE, hH⟩ := am_begin B hv
  have hown : s.vm.findClass RX0 = some m.cls := hown
  show W p l e { frames := 0, cells := 0, slots := 0, locals := 0 } s m _ below meth c s.heap [] 0 0 _ _
  have P35 : ∀ (s0 : Int32) (w : am_S) (H : Heap) (locs : List Loc) (ls : Array Slot), f_X0_cast_35 o0 a1 s0 w = some (rr, ww) → am_H G w s H locs → lv_has ls 2 [] → W p l e { frames := 0, cells := 0, slots := 0, locals := 0 } s m [.ref (G.1 + o0), .int a1].toArray below meth c H locs 0 0 (MQ below (va_Qi (fun (x : Int32) (u : am_S) => x = rr ∧ u = ww) (am_U G) (am_A G)) [.ref (G.1 + o0), .int a1].toArray s 0 0 (am_A G)) (F0 m 35 ls [.int s0]) := by
    intro s0 w H locs ls hf hH hl
    unfold f_X0_cast_35 at hf
    exact am_reti hx hb hr hlocks hH hf dX0_cast_35
  refine am_enter (lv := [(0, .ref (G.1 + o0)), (1, .int a1)]) (Nat.le_of_ble_eq_true rfl) rfl (fun ls hl => ?_)
  unfold f_X0_cast at hf
  refine am_start hH (fun H locs hH => ?_)
  refine lv_aload_n hx hb dX0_cast_0 rfl (lv_at hl 0 rfl) ?_
  refine lv_aload_n hx hb dX0_cast_1 rfl (lv_at hl 0 rfl) ?_
  refine am_get hx hb hts hK hown hH (am_o0 ho0) rfl am_inX0 0 (by decide) am_q249 (v := .long (w.2.1 o0 0)) rfl dX0_cast_2 ?_
  refine lv_ldc2 (v := 6364136223846793005) hx hb hown (hts _ am_q838) dX0_cast_5 ?_
  refine lv_lmul hx hb dX0_cast_8 ?_
  refine lv_ldc2 (v := 1442695040888963407) hx hb hown (hts _ am_q839) dX0_cast_9 ?_
  refine lv_ladd hx hb dX0_cast_12 ?_
  obtain ⟨w_4, hw_4, hf⟩ := am_v_some hf
  refine am_putl hx hb hts hK hown hH (am_o0 ho0) rfl am_inX0 tyX0 tyX0_ok nmX0 0 (by decide) am_q249 rfl rfl rfl (fun _ _ => Nat.le_of_ble_eq_true rfl) (fun _ _ _ => rfl) dX0_cast_13 (fun H locs hH => ?_)
  rw [← hw_4] at hH
  refine lv_iload_n hx hb dX0_cast_16 rfl (lv_at hl 1 rfl) ?_
  refine lv_if_gt (tgt := 24) hx hb dX0_cast_17 (by decide) (fun hc_5 => ?_) (fun hc_5 => ?_)
  · have hf := (if_pos hc_5).symm.trans hf
    refine lv_aload_n hx hb dX0_cast_24 rfl (lv_at hl 0 rfl) ?_
    refine am_get hx hb hts hK hown hH (am_o0 ho0) rfl am_inX0 0 (by decide) am_q249 (v := .long (w_4.2.1 o0 0)) rfl dX0_cast_25 ?_
    refine lv_bipush (v := 33) hx hb dX0_cast_28 (by decide) ?_
    refine lv_lushr (v := am_lushr (w_4.2.1 o0 0) (33 : Int32)) hx hb dX0_cast_30 rfl ?_
    refine lv_iload_n hx hb dX0_cast_31 rfl (lv_at hl 1 rfl) ?_
    refine lv_i2l hx hb dX0_cast_32 rfl ?_
    obtain ⟨hz_6, hf⟩ := am_nzl_some hf
    refine lv_lrem hx hb dX0_cast_33 hz_6 ?_
    refine lv_l2i hx hb dX0_cast_34 rfl ?_
    exact P35 (((am_lushr (w_4.2.1 o0 0) (33 : Int32)) - (am_lushr (w_4.2.1 o0 0) (33 : Int32)) / (a1.toInt64) * (a1.toInt64)).toInt32) w_4 H locs ls hf hH (lv_sub hl [] rfl)
  · have hf := (if_neg hc_5).symm.trans hf
    refine lv_iconst (v := 0) hx hb dX0_cast_20 (by decide) ?_
    refine lv_goto (tgt := 35) hx hb dX0_cast_21 (by decide) ?_
    exact P35 (0 : Int32) w_4 H locs ls hf hH (lv_sub hl [] rfl)

def f_X0_castDegree_11b (o0 : Nat) (o1 : Nat) (x2 : Int32) (x3 : Int32) (w : am_S) : Option ((Int32 × am_S) ⊕ (Int32 × Int32 × am_S)) :=
  if (6 : Int32) < x3 then (am_x (some ((0 : Int32), w))) else (am_chk x3 7 (if (w.1 (o1 + 7) x3.toNatClampNeg) ≤ x2 then (am_chk x3 7 (am_v (x2 - (w.1 (o1 + 7) x3.toNatClampNeg)) fun (x2_15 : Int32) => am_v (x3 + (1 : Int32)) fun (x3_16 : Int32) => some (.inr (x2_15, x3_16, w)))) else (am_x (some (x3, w)))))
def f_X0_castDegree_11 (o0 : Nat) (o1 : Nat) (x2 : Int32) (x3 : Int32) (w : am_S) : Option (Int32 × am_S) :=
  am_loop (fun (st : (Int32 × Int32 × am_S)) => f_X0_castDegree_11b o0 o1 st.1 st.2.1 st.2.2) am_fuel (x2, x3, w)
def f_X0_castDegree (o0 : Nat) (o1 : Nat) (w : am_S) : Option (Int32 × am_S) :=
  am_b2 (f_X0_cast o0 (w.1 o1 13) w) fun r_20 w_18 => f_X0_castDegree_11 o0 o1 r_20 (1 : Int32) w_18
set_option maxRecDepth 100000 in
set_option maxHeartbeats 4000000 in
theorem k_X0_castDegree {G : am_G} {l : Launch} {o0 : Nat} {o1 : Nat} (ho0 : am_f0 o0) (ho1 : am_f1 o1) {w : am_S} {rr : Int32} {ww : am_S} (hf : f_X0_castDegree o0 o1 w = some (rr, ww)) : am_Mi G l yX0_castDegree (Cond.code yX0_castDegree cX0_castDegree 4 (some .int) :: am_T) { frames := 1, cells := 0, slots := 0, locals := 64 } [.ref (G.1 + o0), .ref (G.1 + o1)] w rr ww := by
  refine Met.ofW (cc := cX0_castDegree) (maxL := 4) (ret := (some .int)) (by decide) rfl ?_
  intro p e s m args below meth c s₁ B hml hv
  obtain ⟨rfl, hx, hb, hr, hts, hown, hlocks, hK, hE, hH⟩ := am_begin B hv
  have hown : s.vm.findClass RX0 = some m.cls := hown
  show W p l e { frames := 1, cells := 0, slots := 0, locals := 64 } s m _ below meth c s.heap [] 0 0 _ _
  have P11 : ∀ (n1 : Nat) (x2 : Int32) (x3 : Int32) (w : am_S) (H : Heap) (locs : List Loc) (ls : Array Slot), am_loop (fun (st : (Int32 × Int32 × am_S)) => f_X0_castDegree_11b o0 o1 st.1 st.2.1 st.2.2) n1 (x2, x3, w) = some (rr, ww) → am_H G w s H locs → lv_has ls 4 [(1, .ref (G.1 + o1)), (2, .int x2), (3, .int x3)] → W p l e { frames := 1, cells := 0, slots := 0, locals := 64 } s m [.ref (G.1 + o0), .ref (G.1 + o1)].toArray below meth c H locs 0 0 (MQ below (va_Qi (fun (x : Int32) (u : am_S) => x = rr ∧ u = ww) (am_U G) (am_A G)) [.ref (G.1 + o0), .ref (G.1 + o1)].toArray s 0 0 (am_A G)) (F0 m 11 ls []) := by
    intro n1
    induction n1 with
    | zero =>
      intro x2 x3 w H locs ls hf hH hl
      exact (am_loop_zero hf).elim
    | succ n1 ih1 =>
      intro x2 x3 w H locs ls hf hH hl
      obtain ⟨z1, hf, hk1⟩ := am_loop_succ hf
      have hf : f_X0_castDegree_11b o0 o1 x2 x3 w = some z1 := hf
      unfold f_X0_castDegree_11b at hf
      refine lv_iload_n hx hb dX0_castDegree_11 rfl (lv_at hl 2 rfl) ?_
      refine lv_bipush (v := 6) hx hb dX0_castDegree_12 (by decide) ?_
      refine lv_icmp_gt (tgt := 44) hx hb dX0_castDegree_14 (by decide) (fun hc_10 => ?_) (fun hc_10 => ?_)
      · have hf := (if_pos hc_10).symm.trans hf
        obtain ⟨y_11, hf, hzy_11⟩ := am_x_some hf
        rw [hzy_11] at hk1
        have hf := hf.trans (congrArg some (show y_11 = (rr, ww) from hk1))
        refine lv_iconst (v := 0) hx hb dX0_castDegree_44 (by decide) ?_
        exact am_reti hx hb hr hlocks hH hf dX0_castDegree_45
      · have hf := (if_neg hc_10).symm.trans hf
        refine lv_iload_n hx hb dX0_castDegree_17 rfl (lv_at hl 1 rfl) ?_
        refine lv_aload_n hx hb dX0_castDegree_18 rfl (lv_at hl 0 rfl) ?_
        refine am_get hx hb hts hK hown hH (am_o1 ho1.1) rfl am_inX1 6 (by decide) am_q87 (v := .ref (G.1 + (o1 + 7))) rfl dX0_castDegree_19 ?_
        refine lv_iload_n hx hb dX0_castDegree_22 rfl (lv_at hl 2 rfl) ?_
        obtain ⟨hi_12, hf⟩ := am_chk_some hf
        refine am_iald hx hb hK hH (am_ai_of (N := 7) ho1.2.2.2.2.2.2.2) hi_12 dX0_castDegree_23 ?_
        refine lv_icmp_ge (tgt := 29) hx hb dX0_castDegree_24 (by decide) (fun hc_13 => ?_) (fun hc_13 => ?_)
        · have hf := (if_pos hc_13).symm.trans hf
          refine lv_iload_n hx hb dX0_castDegree_29 rfl (lv_at hl 1 rfl) ?_
          refine lv_aload_n hx hb dX0_castDegree_30 rfl (lv_at hl 0 rfl) ?_
          refine am_get hx hb hts hK hown hH (am_o1 ho1.1) rfl am_inX1 6 (by decide) am_q87 (v := .ref (G.1 + (o1 + 7))) rfl dX0_castDegree_31 ?_
          refine lv_iload_n hx hb dX0_castDegree_34 rfl (lv_at hl 2 rfl) ?_
          obtain ⟨hi_14, hf⟩ := am_chk_some hf
          refine am_iald hx hb hK hH (am_ai_of (N := 7) ho1.2.2.2.2.2.2.2) hi_14 dX0_castDegree_35 ?_
          refine lv_isub hx hb dX0_castDegree_36 ?_
          obtain ⟨x2_15, hx2_15, hf⟩ := am_v_some hf
          refine am_topi hx2_15 ?_
          refine lv_istore_n (lv' := [(2, .int x2_15), (1, .ref (G.1 + o1)), (3, .int x3)]) hx hb dX0_castDegree_37 rfl hl (by decide) rfl (fun ls hl => ?_)
          obtain ⟨x3_16, hx3_16, hf⟩ := am_v_some hf
          refine lv_iinc (v := x3_16) (lv' := [(3, .int x3_16), (2, .int x2_15), (1, .ref (G.1 + o1))]) hx hb dX0_castDegree_38 hl (k := 2) rfl (by rw [hx3_16]; rfl) (by decide) rfl (fun ls hl => ?_)
          refine lv_goto (tgt := 11) hx hb dX0_castDegree_41 (by decide) ?_
          obtain rfl := Option.some.inj hf
          exact ih1 x2_15 x3_16 w H locs ls hk1 hH (lv_sub hl [2, 1, 0] rfl)
        · have hf := (if_neg hc_13).symm.trans hf
          obtain ⟨y_17, hf, hzy_17⟩ := am_x_some hf
          rw [hzy_17] at hk1
          have hf := hf.trans (congrArg some (show y_17 = (rr, ww) from hk1))
          refine lv_iload_n hx hb dX0_castDegree_27 rfl (lv_at hl 2 rfl) ?_
          exact am_reti hx hb hr hlocks hH hf dX0_castDegree_28
  refine am_enter (lv := [(0, .ref (G.1 + o0)), (1, .ref (G.1 + o1))]) (Nat.le_of_ble_eq_true rfl) rfl (fun ls hl => ?_)
  unfold f_X0_castDegree at hf
  refine am_start hH (fun H locs hH => ?_)
  refine lv_aload_n hx hb dX0_castDegree_0 rfl (lv_at hl 0 rfl) ?_
  refine lv_aload_n hx hb dX0_castDegree_1 rfl (lv_at hl 1 rfl) ?_
  refine am_get hx hb hts hK hown hH (am_o1 ho1.1) rfl am_inX1 13 (by decide) am_q110 (v := .int (w.1 o1 13)) rfl dX0_castDegree_2 ?_
  obtain ⟨r_20, w_18, hq_19, hf⟩ := am_b2_some hf
  refine am_calli (r := r_20) (w' := w_18) (am_runV (n := 1) (As := [.int (w.1 o1 13)]) (rest := []) ⟨hx, hb, hml, hown, hts⟩ hK hE hH (k_X0_cast ho0 hq_19) (am_gV am_q834 am_q835 am_q836 am_q8 am_q837) (am_o0 ho0) rfl ⟨rfl, rfl⟩ (by decide +kernel) ⟨Nat.le_of_ble_eq_true rfl, Nat.le_of_ble_eq_true rfl⟩ rfl hl.1 rfl (Nat.le_of_ble_eq_true rfl) ⟨Nat.zero_le _, Nat.zero_le _⟩ dX0_castDegree_5) hH (fun H locs hH => ?_)
  refine lv_istore_n (lv' := [(2, .int r_20), (0, .ref (G.1 + o0)), (1, .ref (G.1 + o1))]) hx hb dX0_castDegree_8 rfl hl (by decide) rfl (fun ls hl => ?_)
  refine lv_iconst (v := 1) hx hb dX0_castDegree_9 (by decide) ?_
  refine lv_istore_n (lv' := [(3, .int (1 : Int32)), (2, .int r_20), (0, .ref (G.1 + o0)), (1, .ref (G.1 + o1))]) hx hb dX0_castDegree_10 rfl hl (by decide) rfl (fun ls hl => ?_)
  exact P11 am_fuel r_20 (1 : Int32) w_18 H locs ls hf hH (lv_sub hl [3, 1, 0] rfl)

def f_X2_freePlace_34 (a0 : Int64) (a1 : Int32) (a2 : Int32) (x4 : Int32) (x5 : Int32) (w : am_S) : Option ((Int32 × am_S) ⊕ (Int32 × Int32 × am_S)) :=
  am_v (x5 + (1 : Int32)) fun (x5_6 : Int32) => some (.inr (x4, x5_6, w))
def f_X2_freePlace_6b (a0 : Int64) (a1 : Int32) (a2 : Int32) (x4 : Int32) (x5 : Int32) (w : am_S) : Option ((Int32 × am_S) ⊕ (Int32 × Int32 × am_S)) :=
  if a1 ≤ x5 then (am_x (some ((0 : Int32), w))) else (if (lg_cmp ((am_lshr a0 x5) &&& (1 : Int64)) (0 : Int64)) = 0 then (if x4 = 0 then (am_x (some (x5, w))) else (am_v (x4 + (-1 : Int32)) fun (x4_11 : Int32) => f_X2_freePlace_34 a0 a1 a2 x4_11 x5 w)) else (f_X2_freePlace_34 a0 a1 a2 x4 x5 w))
def f_X2_freePlace_6 (a0 : Int64) (a1 : Int32) (a2 : Int32) (x4 : Int32) (x5 : Int32) (w : am_S) : Option (Int32 × am_S) :=
  am_loop (fun (st : (Int32 × Int32 × am_S)) => f_X2_freePlace_6b a0 a1 a2 st.1 st.2.1 st.2.2) am_fuel (x4, x5, w)
def f_X2_freePlace (a0 : Int64) (a1 : Int32) (a2 : Int32) (w : am_S) : Option (Int32 × am_S) :=
  f_X2_freePlace_6 a0 a1 a2 a2 (0 : Int32) w
set_option maxRecDepth 100000 in
set_option maxHeartbeats 4000000 in
theorem k_X2_freePlace {G : am_G} {l : Launch} {a0 : Int64} {a1 : Int32} {a2 : Int32}  {w : am_S} {rr : Int32} {ww : am_S} (hf : f_X2_freePlace a0 a1 a2 w = some (rr, ww)) : am_Mi G l yX2_freePlace (Cond.code yX2_freePlace cX2_freePlace 6 (some .int) :: am_T) { frames := 0, cells := 0, slots := 0, locals := 0 } [.long a0, .int a1, .int a2] w rr ww := by
  refine Met.ofW (cc := cX2_freePlace) (maxL := 6) (ret := (some .int)) (by decide) rfl ?_
  intro p e s m args below meth c s₁ B hml hv
  obtain ⟨rfl, hx, hb, hr, hts, hown, hlocks, hK, hE, hH⟩ := am_begin B hv
  have hown : s.vm.findClass RX2 = some m.cls := hown
  show W p l e { frames := 0, cells := 0, slots := 0, locals := 0 } s m _ below meth c s.heap [] 0 0 _ _
  have P6 : ∀ (n1 : Nat) (x4 : Int32) (x5 : Int32) (w : am_S) (H : Heap) (locs : List Loc) (ls : Array Slot), am_loop (fun (st : (Int32 × Int32 × am_S)) => f_X2_freePlace_6b a0 a1 a2 st.1 st.2.1 st.2.2) n1 (x4, x5, w) = some (rr, ww) → am_H G w s H locs → lv_has ls 6 [(0, .long a0), (2, .int a1), (4, .int x4), (5, .int x5)] → W p l e { frames := 0, cells := 0, slots := 0, locals := 0 } s m [.long a0, .int a1, .int a2].toArray below meth c H locs 0 0 (MQ below (va_Qi (fun (x : Int32) (u : am_S) => x = rr ∧ u = ww) (am_U G) (am_A G)) [.long a0, .int a1, .int a2].toArray s 0 0 (am_A G)) (F0 m 6 ls []) := by
    intro n1
    induction n1 with
    | zero =>
      intro x4 x5 w H locs ls hf hH hl
      exact (am_loop_zero hf).elim
    | succ n1 ih1 =>
      intro x4 x5 w H locs ls hf hH hl
      obtain ⟨z1, hf, hk1⟩ := am_loop_succ hf
      have hf : f_X2_freePlace_6b a0 a1 a2 x4 x5 w = some z1 := hf
      have P34 : ∀ (x4 : Int32) (x5 : Int32) (w : am_S) (z1 : ((Int32 × am_S) ⊕ (Int32 × Int32 × am_S))) (H : Heap) (locs : List Loc) (ls : Array Slot), f_X2_freePlace_34 a0 a1 a2 x4 x5 w = some z1 → am_lk (fun (st : (Int32 × Int32 × am_S)) => f_X2_freePlace_6b a0 a1 a2 st.1 st.2.1 st.2.2) n1 (rr, ww) z1 → am_H G w s H locs → lv_has ls 6 [(0, .long a0), (2, .int a1), (4, .int x4), (5, .int x5)] → W p l e { frames := 0, cells := 0, slots := 0, locals := 0 } s m [.long a0, .int a1, .int a2].toArray below meth c H locs 0 0 (MQ below (va_Qi (fun (x : Int32) (u : am_S) => x = rr ∧ u = ww) (am_U G) (am_A G)) [.long a0, .int a1, .int a2].toArray s 0 0 (am_A G)) (F0 m 34 ls []) := by
        intro x4 x5 w z1 H locs ls hf hk1 hH hl
        unfold f_X2_freePlace_34 at hf
        obtain ⟨x5_6, hx5_6, hf⟩ := am_v_some hf
        refine lv_iinc (v := x5_6) (lv' := [(5, .int x5_6), (0, .long a0), (2, .int a1), (4, .int x4)]) hx hb dX2_freePlace_34 hl (k := 3) rfl (by rw [hx5_6]; rfl) (by decide) rfl (fun ls hl => ?_)
        refine lv_goto (tgt := 6) hx hb dX2_freePlace_37 (by decide) ?_
        obtain rfl := Option.some.inj hf
        exact ih1 x4 x5_6 w H locs ls hk1 hH (lv_sub hl [1, 2, 3, 0] rfl)
      unfold f_X2_freePlace_6b at hf
      refine lv_iload hx hb dX2_freePlace_6 (lv_at hl 3 rfl) ?_
      refine lv_iload_n hx hb dX2_freePlace_8 rfl (lv_at hl 1 rfl) ?_
      refine lv_icmp_ge (tgt := 40) hx hb dX2_freePlace_9 (by decide) (fun hc_7 => ?_) (fun hc_7 => ?_)
      · have hf := (if_pos hc_7).symm.trans hf
        obtain ⟨y_8, hf, hzy_8⟩ := am_x_some hf
        rw [hzy_8] at hk1
        have hf := hf.trans (congrArg some (show y_8 = (rr, ww) from hk1))
        refine lv_iconst (v := 0) hx hb dX2_freePlace_40 (by decide) ?_
        exact am_reti hx hb hr hlocks hH hf dX2_freePlace_41
      · have hf := (if_neg hc_7).symm.trans hf
        refine lv_lload_n hx hb dX2_freePlace_12 rfl (lv_at hl 0 rfl) ?_
        refine lv_iload hx hb dX2_freePlace_13 (lv_at hl 3 rfl) ?_
        refine lv_lshr (v := am_lshr a0 x5) hx hb dX2_freePlace_15 rfl ?_
        refine lv_lconst (v := 1) hx hb dX2_freePlace_16 (by decide) ?_
        refine lv_land hx hb dX2_freePlace_17 ?_
        refine lv_lconst (v := 0) hx hb dX2_freePlace_18 (by decide) ?_
        refine W.lcmp hx hb dX2_freePlace_19 ?_
        refine lv_if_ne (tgt := 34) hx hb dX2_freePlace_20 (by decide) (fun hc_9 => ?_) (fun hc_9 => ?_)
        · have hf := (if_neg hc_9).symm.trans hf
          exact P34 x4 x5 w z1 H locs ls hf hk1 hH (lv_sub hl [0, 1, 2, 3] rfl)
        · have hf := (if_pos hc_9).symm.trans hf
          refine lv_iload hx hb dX2_freePlace_23 (lv_at hl 2 rfl) ?_
          refine lv_if_ne (tgt := 31) hx hb dX2_freePlace_25 (by decide) (fun hc_10 => ?_) (fun hc_10 => ?_)
          · have hf := (if_neg hc_10).symm.trans hf
            obtain ⟨x4_11, hx4_11, hf⟩ := am_v_some hf
            refine lv_iinc (v := x4_11) (lv' := [(4, .int x4_11), (0, .long a0), (2, .int a1), (5, .int x5)]) hx hb dX2_freePlace_31 hl (k := 2) rfl (by rw [hx4_11]; rfl) (by decide) rfl (fun ls hl => ?_)
            exact P34 x4_11 x5 w z1 H locs ls hf hk1 hH (lv_sub hl [1, 2, 0, 3] rfl)
          · have hf := (if_pos hc_10).symm.trans hf
            obtain ⟨y_12, hf, hzy_12⟩ := am_x_some hf
            rw [hzy_12] at hk1
            have hf := hf.trans (congrArg some (show y_12 = (rr, ww) from hk1))
            refine lv_iload hx hb dX2_freePlace_28 (lv_at hl 3 rfl) ?_
            exact am_reti hx hb hr hlocks hH hf dX2_freePlace_30
  refine am_enter (lv := [(0, .long a0), (2, .int a1), (3, .int a2)]) (Nat.le_of_ble_eq_true rfl) rfl (fun ls hl => ?_)
  unfold f_X2_freePlace at hf
  refine am_start hH (fun H locs hH => ?_)
  refine lv_iload_n hx hb dX2_freePlace_0 rfl (lv_at hl 2 rfl) ?_
  refine lv_istore (lv' := [(4, .int a2), (0, .long a0), (2, .int a1), (3, .int a2)]) hx hb dX2_freePlace_1 hl (by decide) rfl (fun ls hl => ?_)
  refine lv_iconst (v := 0) hx hb dX2_freePlace_3 (by decide) ?_
  refine lv_istore (lv' := [(5, .int (0 : Int32)), (4, .int a2), (0, .long a0), (2, .int a1), (3, .int a2)]) hx hb dX2_freePlace_4 hl (by decide) rfl (fun ls hl => ?_)
  exact P6 am_fuel a2 (0 : Int32) w H locs ls hf hH (lv_sub hl [2, 3, 1, 0] rfl)

def f_X2_drawAnew_55b (o1 : Nat) (a2 : Int32) (a3 : Int64) (x5 : Int32) (x6 : Int32) (x7 : Int32) (x8 : Int64) (x10 : Int32) (w : am_S) : Option (am_S ⊕ (Int64 × Int32 × am_S)) :=
  if x7 ≤ x10 then (am_x (am_chk a2 10 (am_v (am_pl w (o1 + 2) a2.toNatClampNeg (am_lshl x8 x5)) fun (w_30 : am_S) => some w_30))) else (am_b2 (f_X0_cast 256 (x6 - x10) w) fun r_33 w_31 => am_b2 (f_X2_freePlace x8 x6 r_33 w_31) fun r_36 w_34 => am_v (x8 ||| (am_lshl (1 : Int64) r_36)) fun (x8_37 : Int64) => am_v (x10 + (1 : Int32)) fun (x10_38 : Int32) => some (.inr (x8_37, x10_38, w_34)))
def f_X2_drawAnew_55 (o1 : Nat) (a2 : Int32) (a3 : Int64) (x5 : Int32) (x6 : Int32) (x7 : Int32) (x8 : Int64) (x10 : Int32) (w : am_S) : Option am_S :=
  am_loop (fun (st : (Int64 × Int32 × am_S)) => f_X2_drawAnew_55b o1 a2 a3 x5 x6 x7 st.1 st.2.1 st.2.2) am_fuel (x8, x10, w)
def f_X2_drawAnew (o1 : Nat) (a2 : Int32) (a3 : Int64) (w : am_S) : Option am_S :=
  am_b2 (f_X1_reachFrom 11 a2 w) fun r_41 w_39 => am_b2 (f_X1_reachTo 11 a2 w_39) fun r_44 w_42 => am_v (r_44 - r_41) fun (x6_45 : Int32) => am_b1 (f_X0_begin 256 a3 w_42) fun w_46 => am_b2 (f_X0_castDegree 256 11 w_46) fun r_50 w_48 => am_b2 (f_J9_min_7cf53 r_50 x6_45 w_48) fun r_53 w_51 => f_X2_drawAnew_55 o1 a2 a3 r_41 x6_45 r_53 (0 : Int64) (0 : Int32) w_51
set_option maxRecDepth 100000 in
set_option maxHeartbeats 4000000 in
theorem k_X2_drawAnew {G : am_G} {l : Launch} {o1 : Nat} {a2 : Int32} {a3 : Int64} (ho1 : am_f9 o1) {w : am_S} {ww : am_S} (hf : f_X2_drawAnew o1 a2 a3 w = some ww) : am_Mv G l yX2_drawAnew (Cond.code yX2_drawAnew cX2_drawAnew 11 none :: am_T) { frames := 2, cells := 0, slots := 0, locals := 128 } [.ref (G.1 + 255), .ref (G.1 + o1), .int a2, .long a3] w ww := by
  refine Met.ofW (cc := cX2_drawAnew) (maxL := 11) (ret := none) (by decide) rfl ?_
  intro p e s m args below meth c s₁ B hml hv
  obtain ⟨rfl, hx, hb, hr, hts, hown, hlocks, hK, hE, hH⟩ := am_begin B hv
  have hown : s.vm.findClass RX2 = some m.cls := hown
  show W p l e { frames := 2, cells := 0, slots := 0, locals := 128 } s m _ below meth c s.heap [] 0 0 _ _
  have P55 : ∀ (x5 : Int32) (x6 : Int32) (x7 : Int32) (n1 : Nat) (x8 : Int64) (x10 : Int32) (w : am_S) (H : Heap) (locs : List Loc) (ls : Array Slot), am_loop (fun (st : (Int64 × Int32 × am_S)) => f_X2_drawAnew_55b o1 a2 a3 x5 x6 x7 st.1 st.2.1 st.2.2) n1 (x8, x10, w) = some ww → am_H G w s H locs → lv_has ls 11 [(0, .ref (G.1 + 255)), (1, .ref (G.1 + o1)), (2, .int a2), (5, .int x5), (6, .int x6), (7, .int x7), (8, .long x8), (10, .int x10)] → W p l e { frames := 2, cells := 0, slots := 0, locals := 128 } s m [.ref (G.1 + 255), .ref (G.1 + o1), .int a2, .long a3].toArray below meth c H locs 0 0 (MQ below (va_Qv (fun (u : am_S) => u = ww) (am_U G) (am_A G)) [.ref (G.1 + 255), .ref (G.1 + o1), .int a2, .long a3].toArray s 0 0 (am_A G)) (F0 m 55 ls []) := by
    intro x5 x6 x7 n1
    induction n1 with
    | zero =>
      intro x8 x10 w H locs ls hf hH hl
      exact (am_loop_zero hf).elim
    | succ n1 ih1 =>
      intro x8 x10 w H locs ls hf hH hl
      obtain ⟨z1, hf, hk1⟩ := am_loop_succ hf
      have hf : f_X2_drawAnew_55b o1 a2 a3 x5 x6 x7 x8 x10 w = some z1 := hf
      unfold f_X2_drawAnew_55b at hf
      refine lv_iload hx hb dX2_drawAnew_55 (lv_at hl 7 rfl) ?_
      refine lv_iload hx hb dX2_drawAnew_57 (lv_at hl 5 rfl) ?_
      refine lv_icmp_ge (tgt := 94) hx hb dX2_drawAnew_59 (by decide) (fun hc_27 => ?_) (fun hc_27 => ?_)
      · have hf := (if_pos hc_27).symm.trans hf
        obtain ⟨y_28, hf, hzy_28⟩ := am_x_some hf
        rw [hzy_28] at hk1
        have hf := hf.trans (congrArg some (show y_28 = ww from hk1))
        refine lv_aload_n hx hb dX2_drawAnew_94 rfl (lv_at hl 1 rfl) ?_
        refine am_get hx hb hts hK hown hH (am_o9 ho1.1) rfl am_inX9 1 (by decide) am_q178 (v := .ref (G.1 + (o1 + 2))) rfl dX2_drawAnew_95 ?_
        refine lv_iload_n hx hb dX2_drawAnew_98 rfl (lv_at hl 2 rfl) ?_
        refine lv_lload hx hb dX2_drawAnew_99 (lv_at hl 6 rfl) ?_
        refine lv_iload hx hb dX2_drawAnew_101 (lv_at hl 3 rfl) ?_
        refine lv_lshl (v := am_lshl x8 x5) hx hb dX2_drawAnew_103 rfl ?_
        obtain ⟨hi_29, hf⟩ := am_chk_some hf
        obtain ⟨w_30, hw_30, hf⟩ := am_v_some hf
        refine am_last hx hb hK hH (am_al_of (N := 10) ho1.2.2.1) hi_29 dX2_drawAnew_104 (fun H locs hH => ?_)
        rw [← hw_30] at hH
        exact am_retv hx hb hr hlocks hH hf dX2_drawAnew_105
      · have hf := (if_neg hc_27).symm.trans hf
        refine lv_lload hx hb dX2_drawAnew_62 (lv_at hl 6 rfl) ?_
        refine lv_lconst (v := 1) hx hb dX2_drawAnew_64 (by decide) ?_
        refine lv_lload hx hb dX2_drawAnew_65 (lv_at hl 6 rfl) ?_
        refine lv_iload hx hb dX2_drawAnew_67 (lv_at hl 4 rfl) ?_
        refine lv_aload_n hx hb dX2_drawAnew_69 rfl (lv_at hl 0 rfl) ?_
        refine am_get hx hb hts hK hown hH (am_o2 (p := 255) (by decide +kernel)) rfl am_inX2 2 (by decide) am_q300 (v := .ref (G.1 + 256)) rfl dX2_drawAnew_70 ?_
        refine lv_iload hx hb dX2_drawAnew_73 (lv_at hl 4 rfl) ?_
        refine lv_iload hx hb dX2_drawAnew_75 (lv_at hl 7 rfl) ?_
        refine lv_isub hx hb dX2_drawAnew_77 ?_
        obtain ⟨r_33, w_31, hq_32, hf⟩ := am_b2_some hf
        refine am_calli (r := r_33) (w' := w_31) (am_runV (n := 1) (As := [.int (x6 - x10)]) (rest := [.int x6, .long x8, .long (1 : Int64), .long x8]) ⟨hx, hb, hml, hown, hts⟩ hK hE hH (k_X0_cast (by decide +kernel) hq_32) (am_gV am_q841 am_q835 am_q836 am_q8 am_q837) (am_o0 (p := 256) (by decide +kernel)) rfl ⟨rfl, rfl⟩ (by decide +kernel) ⟨Nat.le_of_ble_eq_true rfl, Nat.le_of_ble_eq_true rfl⟩ rfl hl.1 rfl (Nat.le_of_ble_eq_true rfl) ⟨Nat.zero_le _, Nat.zero_le _⟩ dX2_drawAnew_78) hH (fun H locs hH => ?_)
        obtain ⟨r_36, w_34, hq_35, hf⟩ := am_b2_some hf
        refine am_calli (r := r_36) (w' := w_34) (am_runS (n := 3) (As := [.long x8, .int x6, .int r_33]) (rest := [.long (1 : Int64), .long x8]) ⟨hx, hb, hml, hown, hts⟩ hK hE hH (k_X2_freePlace hq_35) (am_gS am_q842 am_q843 am_q10 am_q844) ⟨rfl, rfl⟩ (by decide +kernel) ⟨Nat.le_of_ble_eq_true rfl, Nat.le_of_ble_eq_true rfl⟩ rfl hl.1 rfl (Nat.le_of_ble_eq_true rfl) ⟨Nat.zero_le _, Nat.zero_le _⟩ dX2_drawAnew_81) hH (fun H locs hH => ?_)
        refine lv_lshl (v := am_lshl (1 : Int64) r_36) hx hb dX2_drawAnew_84 rfl ?_
        refine lv_lor hx hb dX2_drawAnew_85 ?_
        obtain ⟨x8_37, hx8_37, hf⟩ := am_v_some hf
        refine am_topl hx8_37 ?_
        refine lv_lstore (lv' := [(8, .long x8_37), (0, .ref (G.1 + 255)), (1, .ref (G.1 + o1)), (2, .int a2), (5, .int x5), (6, .int x6), (7, .int x7), (10, .int x10)]) hx hb dX2_drawAnew_86 hl (by decide) rfl (fun ls hl => ?_)
        obtain ⟨x10_38, hx10_38, hf⟩ := am_v_some hf
        refine lv_iinc (v := x10_38) (lv' := [(10, .int x10_38), (8, .long x8_37), (0, .ref (G.1 + 255)), (1, .ref (G.1 + o1)), (2, .int a2), (5, .int x5), (6, .int x6), (7, .int x7)]) hx hb dX2_drawAnew_88 hl (k := 7) rfl (by rw [hx10_38]; rfl) (by decide) rfl (fun ls hl => ?_)
        refine lv_goto (tgt := 55) hx hb dX2_drawAnew_91 (by decide) ?_
        obtain rfl := Option.some.inj hf
        exact ih1 x8_37 x10_38 w_34 H locs ls hk1 hH (lv_sub hl [2, 3, 4, 5, 6, 7, 1, 0] rfl)
  refine am_enter (lv := [(0, .ref (G.1 + 255)), (1, .ref (G.1 + o1)), (2, .int a2), (3, .long a3)]) (Nat.le_of_ble_eq_true rfl) rfl (fun ls hl => ?_)
  unfold f_X2_drawAnew at hf
  refine am_start hH (fun H locs hH => ?_)
  refine lv_aload_n hx hb dX2_drawAnew_0 rfl (lv_at hl 0 rfl) ?_
  refine am_get hx hb hts hK hown hH (am_o2 (p := 255) (by decide +kernel)) rfl am_inX2 0 (by decide) am_q298 (v := .ref (G.1 + 11)) rfl dX2_drawAnew_1 ?_
  refine lv_iload_n hx hb dX2_drawAnew_4 rfl (lv_at hl 2 rfl) ?_
  obtain ⟨r_41, w_39, hq_40, hf⟩ := am_b2_some hf
  refine am_calli (r := r_41) (w' := w_39) (am_runV (n := 1) (As := [.int a2]) (rest := []) ⟨hx, hb, hml, hown, hts⟩ hK hE hH (k_X1_reachFrom (by decide +kernel) hq_40) (am_gV am_q765 am_q601 am_q602 am_q3 am_q603) (am_o1 (p := 11) (by decide +kernel)) rfl ⟨rfl, rfl⟩ (by decide +kernel) ⟨Nat.le_of_ble_eq_true rfl, Nat.le_of_ble_eq_true rfl⟩ rfl hl.1 rfl (Nat.le_of_ble_eq_true rfl) ⟨Nat.zero_le _, Nat.zero_le _⟩ dX2_drawAnew_5) hH (fun H locs hH => ?_)
  refine lv_istore (lv' := [(5, .int r_41), (0, .ref (G.1 + 255)), (1, .ref (G.1 + o1)), (2, .int a2), (3, .long a3)]) hx hb dX2_drawAnew_8 hl (by decide) rfl (fun ls hl => ?_)
  refine lv_aload_n hx hb dX2_drawAnew_10 rfl (lv_at hl 1 rfl) ?_
  refine am_get hx hb hts hK hown hH (am_o2 (p := 255) (by decide +kernel)) rfl am_inX2 0 (by decide) am_q298 (v := .ref (G.1 + 11)) rfl dX2_drawAnew_11 ?_
  refine lv_iload_n hx hb dX2_drawAnew_14 rfl (lv_at hl 3 rfl) ?_
  obtain ⟨r_44, w_42, hq_43, hf⟩ := am_b2_some hf
  refine am_calli (r := r_44) (w' := w_42) (am_runV (n := 1) (As := [.int a2]) (rest := []) ⟨hx, hb, hml, hown, hts⟩ hK hE hH (k_X1_reachTo (by decide +kernel) hq_43) (am_gV am_q766 am_q676 am_q677 am_q3 am_q678) (am_o1 (p := 11) (by decide +kernel)) rfl ⟨rfl, rfl⟩ (by decide +kernel) ⟨Nat.le_of_ble_eq_true rfl, Nat.le_of_ble_eq_true rfl⟩ rfl hl.1 rfl (Nat.le_of_ble_eq_true rfl) ⟨Nat.zero_le _, Nat.zero_le _⟩ dX2_drawAnew_15) hH (fun H locs hH => ?_)
  refine lv_iload hx hb dX2_drawAnew_18 (lv_at hl 0 rfl) ?_
  refine lv_isub hx hb dX2_drawAnew_20 ?_
  obtain ⟨x6_45, hx6_45, hf⟩ := am_v_some hf
  refine am_topi hx6_45 ?_
  refine lv_istore (lv' := [(6, .int x6_45), (5, .int r_41), (0, .ref (G.1 + 255)), (1, .ref (G.1 + o1)), (2, .int a2), (3, .long a3)]) hx hb dX2_drawAnew_21 hl (by decide) rfl (fun ls hl => ?_)
  refine lv_aload_n hx hb dX2_drawAnew_23 rfl (lv_at hl 2 rfl) ?_
  refine am_get hx hb hts hK hown hH (am_o2 (p := 255) (by decide +kernel)) rfl am_inX2 2 (by decide) am_q300 (v := .ref (G.1 + 256)) rfl dX2_drawAnew_24 ?_
  refine lv_lload_n hx hb dX2_drawAnew_27 rfl (lv_at hl 5 rfl) ?_
  obtain ⟨w_46, hq_47, hf⟩ := am_b1_some hf
  refine am_callv (w' := w_46) (am_runV (n := 1) (As := [.long a3]) (rest := []) ⟨hx, hb, hml, hown, hts⟩ hK hE hH (k_X0_begin (by decide +kernel) hq_47) (am_gV am_q826 am_q827 am_q828 am_q8 am_q829) (am_o0 (p := 256) (by decide +kernel)) rfl ⟨rfl, rfl⟩ (by decide +kernel) ⟨Nat.le_of_ble_eq_true rfl, Nat.le_of_ble_eq_true rfl⟩ rfl hl.1 rfl (Nat.le_of_ble_eq_true rfl) ⟨Nat.zero_le _, Nat.zero_le _⟩ dX2_drawAnew_28) hH (fun H locs hH => ?_)
  refine lv_aload_n hx hb dX2_drawAnew_31 rfl (lv_at hl 2 rfl) ?_
  refine am_get hx hb hts hK hown hH (am_o2 (p := 255) (by decide +kernel)) rfl am_inX2 2 (by decide) am_q300 (v := .ref (G.1 + 256)) rfl dX2_drawAnew_32 ?_
  refine lv_aload_n hx hb dX2_drawAnew_35 rfl (lv_at hl 2 rfl) ?_
  refine am_get hx hb hts hK hown hH (am_o2 (p := 255) (by decide +kernel)) rfl am_inX2 0 (by decide) am_q298 (v := .ref (G.1 + 11)) rfl dX2_drawAnew_36 ?_
  obtain ⟨r_50, w_48, hq_49, hf⟩ := am_b2_some hf
  refine am_calli (r := r_50) (w' := w_48) (am_runV (n := 1) (As := [.ref (G.1 + 11)]) (rest := []) ⟨hx, hb, hml, hown, hts⟩ hK hE hH (k_X0_castDegree (by decide +kernel) (by decide +kernel) hq_49) (am_gV am_q830 am_q831 am_q832 am_q8 am_q833) (am_o0 (p := 256) (by decide +kernel)) rfl ⟨rfl, rfl⟩ (by decide +kernel) ⟨Nat.le_of_ble_eq_true rfl, Nat.le_of_ble_eq_true rfl⟩ rfl hl.1 rfl (Nat.le_of_ble_eq_true rfl) ⟨Nat.zero_le _, Nat.zero_le _⟩ dX2_drawAnew_39) hH (fun H locs hH => ?_)
  refine lv_iload hx hb dX2_drawAnew_42 (lv_at hl 0 rfl) ?_
  obtain ⟨r_53, w_51, hq_52, hf⟩ := am_b2_some hf
  refine am_calli (r := r_53) (w' := w_51) (am_runS (n := 2) (As := [.int r_50, .int x6_45]) (rest := []) ⟨hx, hb, hml, hown, hts⟩ hK hE hH (k_J9_min_7cf53 hq_52) (am_gS am_q840 am_q478 am_q18 am_q479) ⟨rfl, rfl⟩ (by decide +kernel) ⟨Nat.le_of_ble_eq_true rfl, Nat.le_of_ble_eq_true rfl⟩ rfl hl.1 rfl (Nat.le_of_ble_eq_true rfl) ⟨Nat.zero_le _, Nat.zero_le _⟩ dX2_drawAnew_44) hH (fun H locs hH => ?_)
  refine lv_istore (lv' := [(7, .int r_53), (6, .int x6_45), (5, .int r_41), (0, .ref (G.1 + 255)), (1, .ref (G.1 + o1)), (2, .int a2), (3, .long a3)]) hx hb dX2_drawAnew_47 hl (by decide) rfl (fun ls hl => ?_)
  refine lv_lconst (v := 0) hx hb dX2_drawAnew_49 (by decide) ?_
  refine lv_lstore (lv' := [(8, .long (0 : Int64)), (7, .int r_53), (6, .int x6_45), (5, .int r_41), (0, .ref (G.1 + 255)), (1, .ref (G.1 + o1)), (2, .int a2), (3, .long a3)]) hx hb dX2_drawAnew_50 hl (by decide) rfl (fun ls hl => ?_)
  refine lv_iconst (v := 0) hx hb dX2_drawAnew_52 (by decide) ?_
  refine lv_istore (lv' := [(10, .int (0 : Int32)), (8, .long (0 : Int64)), (7, .int r_53), (6, .int x6_45), (5, .int r_41), (0, .ref (G.1 + 255)), (1, .ref (G.1 + o1)), (2, .int a2), (3, .long a3)]) hx hb dX2_drawAnew_53 hl (by decide) rfl (fun ls hl => ?_)
  exact P55 r_41 x6_45 r_53 am_fuel (0 : Int64) (0 : Int32) w_51 H locs ls hf hH (lv_sub hl [5, 6, 7, 4, 3, 2, 1, 0] rfl)

def f_X2_putOnShelf (o1 : Nat) (a2 : Int32) (a3 : Int32) (w : am_S) : Option (Int32 × am_S) :=
  am_chk a2 3 (am_v (w.1 (o1 + 4) a2.toNatClampNeg) fun (x4_8 : Int32) => am_chk ((a2 * (10 : Int32)) + x4_8) 30 (am_v (am_pi w (o1 + 3) ((a2 * (10 : Int32)) + x4_8).toNatClampNeg a3) fun (w_10 : am_S) => am_chk a2 3 (am_v (am_pi w_10 (o1 + 4) a2.toNatClampNeg (x4_8 + (1 : Int32))) fun (w_12 : am_S) => some (x4_8, w_12))))
set_option maxRecDepth 100000 in
set_option maxHeartbeats 4000000 in
theorem k_X2_putOnShelf {G : am_G} {l : Launch} {o1 : Nat} {a2 : Int32} {a3 : Int32} (ho1 : am_f9 o1) {w : am_S} {rr : Int32} {ww : am_S} (hf : f_X2_putOnShelf o1 a2 a3 w = some (rr, ww)) : am_Mi G l yX2_putOnShelf (Cond.code yX2_putOnShelf cX2_putOnShelf 5 (some .int) :: am_T) { frames := 0, cells := 0, slots := 0, locals := 0 } [.ref (G.1 + 255), .ref (G.1 + o1), .int a2, .int a3] w rr ww := by
  refine Met.ofW (cc := cX2_putOnShelf) (maxL := 5) (ret := (some .int)) (by decide) rfl ?_
  intro p e s m args below meth c s₁ B hml hv
  obtain ⟨rfl, hx, hb, hr, hts, hown, hlocks, hK, hE, hH⟩ := am_begin B hv
  have hown : s.vm.findClass RX2 = some m.cls := hown
  show W p l e { frames := 0, cells := 0, slots := 0, locals := 0 } s m _ below meth c s.heap [] 0 0 _ _
  refine am_enter (lv := [(0, .ref (G.1 + 255)), (1, .ref (G.1 + o1)), (2, .int a2), (3, .int a3)]) (Nat.le_of_ble_eq_true rfl) rfl (fun ls hl => ?_)
  unfold f_X2_putOnShelf at hf
  refine am_start hH (fun H locs hH => ?_)
  refine lv_aload_n hx hb dX2_putOnShelf_0 rfl (lv_at hl 1 rfl) ?_
  refine am_get hx hb hts hK hown hH (am_o9 ho1.1) rfl am_inX9 3 (by decide) am_q185 (v := .ref (G.1 + (o1 + 4))) rfl dX2_putOnShelf_1 ?_
  refine lv_iload_n hx hb dX2_putOnShelf_4 rfl (lv_at hl 2 rfl) ?_
  obtain ⟨hi_7, hf⟩ := am_chk_some hf
  refine am_iald hx hb hK hH (am_ai_of (N := 3) ho1.2.2.2.2) hi_7 dX2_putOnShelf_5 ?_
  obtain ⟨x4_8, hx4_8, hf⟩ := am_v_some hf
  refine am_topi hx4_8 ?_
  refine lv_istore (lv' := [(4, .int x4_8), (0, .ref (G.1 + 255)), (1, .ref (G.1 + o1)), (2, .int a2), (3, .int a3)]) hx hb dX2_putOnShelf_6 hl (by decide) rfl (fun ls hl => ?_)
  refine lv_aload_n hx hb dX2_putOnShelf_8 rfl (lv_at hl 2 rfl) ?_
  refine am_get hx hb hts hK hown hH (am_o9 ho1.1) rfl am_inX9 2 (by decide) am_q182 (v := .ref (G.1 + (o1 + 3))) rfl dX2_putOnShelf_9 ?_
  refine lv_iload_n hx hb dX2_putOnShelf_12 rfl (lv_at hl 3 rfl) ?_
  refine lv_bipush (v := 10) hx hb dX2_putOnShelf_13 (by decide) ?_
  refine lv_imul hx hb dX2_putOnShelf_15 ?_
  refine lv_iload hx hb dX2_putOnShelf_16 (lv_at hl 0 rfl) ?_
  refine lv_iadd hx hb dX2_putOnShelf_18 ?_
  refine lv_iload_n hx hb dX2_putOnShelf_19 rfl (lv_at hl 4 rfl) ?_
  obtain ⟨hi_9, hf⟩ := am_chk_some hf
  obtain ⟨w_10, hw_10, hf⟩ := am_v_some hf
  refine am_iast hx hb hK hH (am_ai_of (N := 30) ho1.2.2.2.1) hi_9 dX2_putOnShelf_20 (fun H locs hH => ?_)
  rw [← hw_10] at hH
  refine lv_aload_n hx hb dX2_putOnShelf_21 rfl (lv_at hl 2 rfl) ?_
  refine am_get hx hb hts hK hown hH (am_o9 ho1.1) rfl am_inX9 3 (by decide) am_q185 (v := .ref (G.1 + (o1 + 4))) rfl dX2_putOnShelf_22 ?_
  refine lv_iload_n hx hb dX2_putOnShelf_25 rfl (lv_at hl 3 rfl) ?_
  refine lv_iload hx hb dX2_putOnShelf_26 (lv_at hl 0 rfl) ?_
  refine lv_iconst (v := 1) hx hb dX2_putOnShelf_28 (by decide) ?_
  refine lv_iadd hx hb dX2_putOnShelf_29 ?_
  obtain ⟨hi_11, hf⟩ := am_chk_some hf
  obtain ⟨w_12, hw_12, hf⟩ := am_v_some hf
  refine am_iast hx hb hK hH (am_ai_of (N := 3) ho1.2.2.2.2) hi_11 dX2_putOnShelf_30 (fun H locs hH => ?_)
  rw [← hw_12] at hH
  refine lv_iload hx hb dX2_putOnShelf_31 (lv_at hl 0 rfl) ?_
  exact am_reti hx hb hr hlocks hH hf dX2_putOnShelf_33

def f_X2_exchange (o1 : Nat) (a2 : Int32) (a3 : Int32) (w : am_S) : Option am_S :=
  am_chk a2 10 (am_v (w.2.1 (o1 + 2) a2.toNatClampNeg) fun (x4_9 : Int64) => am_chk a3 10 (am_chk a2 10 (am_v (am_pl w (o1 + 2) a2.toNatClampNeg (w.2.1 (o1 + 2) a3.toNatClampNeg)) fun (w_12 : am_S) => am_chk a3 10 (am_v (am_pl w_12 (o1 + 2) a3.toNatClampNeg x4_9) fun (w_14 : am_S) => some w_14))))
set_option maxRecDepth 100000 in
set_option maxHeartbeats 4000000 in
theorem k_X2_exchange {G : am_G} {l : Launch} {o1 : Nat} {a2 : Int32} {a3 : Int32} (ho1 : am_f9 o1) {w : am_S} {ww : am_S} (hf : f_X2_exchange o1 a2 a3 w = some ww) : am_Mv G l yX2_exchange (Cond.code yX2_exchange cX2_exchange 6 none :: am_T) { frames := 0, cells := 0, slots := 0, locals := 0 } [.ref (G.1 + 255), .ref (G.1 + o1), .int a2, .int a3] w ww := by
  refine Met.ofW (cc := cX2_exchange) (maxL := 6) (ret := none) (by decide) rfl ?_
  intro p e s m args below meth c s₁ B hml hv
  obtain ⟨rfl, hx, hb, hr, hts, hown, hlocks, hK, hE, hH⟩ := am_begin B hv
  have hown : s.vm.findClass RX2 = some m.cls := hown
  show W p l e { frames := 0, cells := 0, slots := 0, locals := 0 } s m _ below meth c s.heap [] 0 0 _ _
  refine am_enter (lv := [(0, .ref (G.1 + 255)), (1, .ref (G.1 + o1)), (2, .int a2), (3, .int a3)]) (Nat.le_of_ble_eq_true rfl) rfl (fun ls hl => ?_)
  unfold f_X2_exchange at hf
  refine am_start hH (fun H locs hH => ?_)
  refine lv_aload_n hx hb dX2_exchange_0 rfl (lv_at hl 1 rfl) ?_
  refine am_get hx hb hts hK hown hH (am_o9 ho1.1) rfl am_inX9 1 (by decide) am_q178 (v := .ref (G.1 + (o1 + 2))) rfl dX2_exchange_1 ?_
  refine lv_iload_n hx hb dX2_exchange_4 rfl (lv_at hl 2 rfl) ?_
  obtain ⟨hi_8, hf⟩ := am_chk_some hf
  refine am_lald hx hb hK hH (am_al_of (N := 10) ho1.2.2.1) hi_8 dX2_exchange_5 ?_
  obtain ⟨x4_9, hx4_9, hf⟩ := am_v_some hf
  refine am_topl hx4_9 ?_
  refine lv_lstore (lv' := [(4, .long x4_9), (0, .ref (G.1 + 255)), (1, .ref (G.1 + o1)), (2, .int a2), (3, .int a3)]) hx hb dX2_exchange_6 hl (by decide) rfl (fun ls hl => ?_)
  refine lv_aload_n hx hb dX2_exchange_8 rfl (lv_at hl 2 rfl) ?_
  refine am_get hx hb hts hK hown hH (am_o9 ho1.1) rfl am_inX9 1 (by decide) am_q178 (v := .ref (G.1 + (o1 + 2))) rfl dX2_exchange_9 ?_
  refine lv_iload_n hx hb dX2_exchange_12 rfl (lv_at hl 3 rfl) ?_
  refine lv_aload_n hx hb dX2_exchange_13 rfl (lv_at hl 2 rfl) ?_
  refine am_get hx hb hts hK hown hH (am_o9 ho1.1) rfl am_inX9 1 (by decide) am_q178 (v := .ref (G.1 + (o1 + 2))) rfl dX2_exchange_14 ?_
  refine lv_iload_n hx hb dX2_exchange_17 rfl (lv_at hl 4 rfl) ?_
  obtain ⟨hi_10, hf⟩ := am_chk_some hf
  refine am_lald hx hb hK hH (am_al_of (N := 10) ho1.2.2.1) hi_10 dX2_exchange_18 ?_
  obtain ⟨hi_11, hf⟩ := am_chk_some hf
  obtain ⟨w_12, hw_12, hf⟩ := am_v_some hf
  refine am_last hx hb hK hH (am_al_of (N := 10) ho1.2.2.1) hi_11 dX2_exchange_19 (fun H locs hH => ?_)
  rw [← hw_12] at hH
  refine lv_aload_n hx hb dX2_exchange_20 rfl (lv_at hl 2 rfl) ?_
  refine am_get hx hb hts hK hown hH (am_o9 ho1.1) rfl am_inX9 1 (by decide) am_q178 (v := .ref (G.1 + (o1 + 2))) rfl dX2_exchange_21 ?_
  refine lv_iload_n hx hb dX2_exchange_24 rfl (lv_at hl 4 rfl) ?_
  refine lv_lload hx hb dX2_exchange_25 (lv_at hl 0 rfl) ?_
  obtain ⟨hi_13, hf⟩ := am_chk_some hf
  obtain ⟨w_14, hw_14, hf⟩ := am_v_some hf
  refine am_last hx hb hK hH (am_al_of (N := 10) ho1.2.2.1) hi_13 dX2_exchange_27 (fun H locs hH => ?_)
  rw [← hw_14] at hH
  exact am_retv hx hb hr hlocks hH hf dX2_exchange_28

def f_X2_carryOut_125 (o1 : Nat) (a2 : Int32) (a3 : Int32) (a4 : Int32) (a5 : Int64) (w : am_S) : Option (Int32 × am_S) :=
  am_chk a3 10 (am_b2 (f_J13_bitCount_95d88 (w.2.1 (o1 + 2) a3.toNatClampNeg) w) fun r_41 w_39 => some (r_41, w_39))
def f_X2_carryOut (o1 : Nat) (a2 : Int32) (a3 : Int32) (a4 : Int32) (a5 : Int64) (w : am_S) : Option (Int32 × am_S) :=
  (if a2 = (0 : Int32) then (am_b2 (f_X2_stepOn o1 w) fun r_52 w_50 => some (r_52, w_50)) else (if a2 = (1 : Int32) then (am_b2 (f_X2_goRound o1 w) fun r_55 w_53 => some (r_55, w_53)) else (if a2 = (2 : Int32) then (am_b2 (f_X2_makeKnown o1 a3 w) fun r_58 w_56 => some (r_58, w_56)) else (if a2 = (3 : Int32) then (am_b2 (f_X2_makeUnknown o1 a3 w) fun r_61 w_59 => some (r_61, w_59)) else (if a2 = (4 : Int32) then (am_chk a3 10 (am_chk a3 10 (am_v (am_pl w (o1 + 2) a3.toNatClampNeg ((w.2.1 (o1 + 2) a3.toNatClampNeg) ^^^ (am_lshl (1 : Int64) a4))) fun (w_64 : am_S) => f_X2_carryOut_125 o1 a2 a3 a4 a5 w_64))) else (if a2 = (5 : Int32) then (am_b2 (f_X2_setCapture o1 a3 w) fun r_67 w_65 => some (r_67, w_65)) else (if a2 = (6 : Int32) then (am_b1 (f_X2_drawAnew o1 a3 a5 w) fun w_68 => f_X2_carryOut_125 o1 a2 a3 a4 a5 w_68) else (if a2 = (7 : Int32) then (am_b2 (f_X2_putOnShelf o1 a3 a4 w) fun r_72 w_70 => some (r_72, w_70)) else (am_b1 (f_X2_exchange o1 a3 a4 w) fun w_73 => f_X2_carryOut_125 o1 a2 a3 a4 a5 w_73)))))))))
set_option maxRecDepth 100000 in
set_option maxHeartbeats 4000000 in
theorem k_X2_carryOut {G : am_G} {l : Launch} {o1 : Nat} {a2 : Int32} {a3 : Int32} {a4 : Int32} {a5 : Int64} (ho1 : am_f9 o1) {w : am_S} {rr : Int32} {ww : am_S} (hf : f_X2_carryOut o1 a2 a3 a4 a5 w = some (rr, ww)) : am_Mi G l yX2_carryOut (Cond.code yX2_carryOut cX2_carryOut 7 (some .int) :: am_T) { frames := 4, cells := 0, slots := 0, locals := 256 } [.ref (G.1 + 255), .ref (G.1 + o1), .int a2, .int a3, .int a4, .long a5] w rr ww := by
  refine Met.ofW (cc := cX2_carryOut) (maxL := 7) (ret := (some .int)) (by decide) rfl ?_
  intro p e s m args below meth c s₁ B hml hv
  obtain ⟨rfl, hx, hb, hr, hts, hown, hlocks, hK, hE, hH⟩ := am_begin B hv
  have hown : s.vm.findClass RX2 = some m.cls := hown
  show W p l e { frames := 4, cells := 0, slots := 0, locals := 256 } s m _ below meth c s.heap [] 0 0 _ _
  have P125 : ∀ (w : am_S) (H : Heap) (locs : List Loc) (ls : Array Slot), f_X2_carryOut_125 o1 a2 a3 a4 a5 w = some (rr, ww) → am_H G w s H locs → lv_has ls 7 [(1, .ref (G.1 + o1)), (3, .int a3)] → W p l e { frames := 4, cells := 0, slots := 0, locals := 256 } s m [.ref (G.1 + 255), .ref (G.1 + o1), .int a2, .int a3, .int a4, .long a5].toArray below meth c H locs 0 0 (MQ below (va_Qi (fun (x : Int32) (u : am_S) => x = rr ∧ u = ww) (am_U G) (am_A G)) [.ref (G.1 + 255), .ref (G.1 + o1), .int a2, .int a3, .int a4, .long a5].toArray s 0 0 (am_A G)) (F0 m 125 ls []) := by
    intro w H locs ls hf hH hl
    unfold f_X2_carryOut_125 at hf
    refine lv_aload_n hx hb dX2_carryOut_125 rfl (lv_at hl 0 rfl) ?_
    refine am_get hx hb hts hK hown hH (am_o9 ho1.1) rfl am_inX9 1 (by decide) am_q178 (v := .ref (G.1 + (o1 + 2))) rfl dX2_carryOut_126 ?_
    refine lv_iload_n hx hb dX2_carryOut_129 rfl (lv_at hl 1 rfl) ?_
    obtain ⟨hi_38, hf⟩ := am_chk_some hf
    refine am_lald hx hb hK hH (am_al_of (N := 10) ho1.2.2.1) hi_38 dX2_carryOut_130 ?_
    obtain ⟨r_41, w_39, hq_40, hf⟩ := am_b2_some hf
    refine am_calli (r := r_41) (w' := w_39) (am_runS (n := 1) (As := [.long (w.2.1 (o1 + 2) a3.toNatClampNeg)]) (rest := []) ⟨hx, hb, hml, hown, hts⟩ hK hE hH (k_J13_bitCount_95d88 hq_40) (am_gS am_q849 am_q850 am_q28 am_q851) ⟨rfl, rfl⟩ (by decide +kernel) ⟨Nat.le_of_ble_eq_true rfl, Nat.le_of_ble_eq_true rfl⟩ rfl hl.1 rfl (Nat.le_of_ble_eq_true rfl) ⟨Nat.zero_le _, Nat.zero_le _⟩ dX2_carryOut_131) hH (fun H locs hH => ?_)
    exact am_reti hx hb hr hlocks hH hf dX2_carryOut_134
  refine am_enter (lv := [(0, .ref (G.1 + 255)), (1, .ref (G.1 + o1)), (2, .int a2), (3, .int a3), (4, .int a4), (5, .long a5)]) (Nat.le_of_ble_eq_true rfl) rfl (fun ls hl => ?_)
  unfold f_X2_carryOut at hf
  refine am_start hH (fun H locs hH => ?_)
  refine lv_iload_n hx hb dX2_carryOut_0 rfl (lv_at hl 2 rfl) ?_
  by_cases he_42 : a2 = (0 : Int32)
  · have hf := (if_pos he_42).symm.trans hf
    refine lv_tableIn (off := 47) (tgt := 48) hx hb dX2_carryOut_1 (by rw [he_42]; decide) (by rw [he_42]; decide) (by rw [he_42]; rfl) (by decide) ?_
    refine lv_aload_n hx hb dX2_carryOut_48 rfl (lv_at hl 0 rfl) ?_
    refine lv_aload_n hx hb dX2_carryOut_49 rfl (lv_at hl 1 rfl) ?_
    obtain ⟨r_52, w_50, hq_51, hf⟩ := am_b2_some hf
    refine am_calli (r := r_52) (w' := w_50) (am_runV (n := 1) (As := [.ref (G.1 + o1)]) (rest := []) ⟨hx, hb, hml, hown, hts⟩ hK hE hH (k_X2_stepOn ho1 hq_51) (am_gV am_q785 am_q787 am_qs24 am_q10 am_q788) (am_o2 (p := 255) (by decide +kernel)) rfl ⟨rfl, rfl⟩ (by decide +kernel) ⟨Nat.le_of_ble_eq_true rfl, Nat.le_of_ble_eq_true rfl⟩ rfl hl.1 rfl (Nat.le_of_ble_eq_true rfl) ⟨Nat.zero_le _, Nat.zero_le _⟩ dX2_carryOut_50) hH (fun H locs hH => ?_)
    exact am_reti hx hb hr hlocks hH hf dX2_carryOut_53
  have hf := (if_neg he_42).symm.trans hf
  by_cases he_43 : a2 = (1 : Int32)
  · have hf := (if_pos he_43).symm.trans hf
    refine lv_tableIn (off := 53) (tgt := 54) hx hb dX2_carryOut_1 (by rw [he_43]; decide) (by rw [he_43]; decide) (by rw [he_43]; rfl) (by decide) ?_
    refine lv_aload_n hx hb dX2_carryOut_54 rfl (lv_at hl 0 rfl) ?_
    refine lv_aload_n hx hb dX2_carryOut_55 rfl (lv_at hl 1 rfl) ?_
    obtain ⟨r_55, w_53, hq_54, hf⟩ := am_b2_some hf
    refine am_calli (r := r_55) (w' := w_53) (am_runV (n := 1) (As := [.ref (G.1 + o1)]) (rest := []) ⟨hx, hb, hml, hown, hts⟩ hK hE hH (k_X2_goRound ho1 hq_54) (am_gV am_q798 am_q800 am_qs26 am_q10 am_q801) (am_o2 (p := 255) (by decide +kernel)) rfl ⟨rfl, rfl⟩ (by decide +kernel) ⟨Nat.le_of_ble_eq_true rfl, Nat.le_of_ble_eq_true rfl⟩ rfl hl.1 rfl (Nat.le_of_ble_eq_true rfl) ⟨Nat.zero_le _, Nat.zero_le _⟩ dX2_carryOut_56) hH (fun H locs hH => ?_)
    exact am_reti hx hb hr hlocks hH hf dX2_carryOut_59
  have hf := (if_neg he_43).symm.trans hf
  by_cases he_44 : a2 = (2 : Int32)
  · have hf := (if_pos he_44).symm.trans hf
    refine lv_tableIn (off := 59) (tgt := 60) hx hb dX2_carryOut_1 (by rw [he_44]; decide) (by rw [he_44]; decide) (by rw [he_44]; rfl) (by decide) ?_
    refine lv_aload_n hx hb dX2_carryOut_60 rfl (lv_at hl 0 rfl) ?_
    refine lv_aload_n hx hb dX2_carryOut_61 rfl (lv_at hl 1 rfl) ?_
    refine lv_iload_n hx hb dX2_carryOut_62 rfl (lv_at hl 3 rfl) ?_
    obtain ⟨r_58, w_56, hq_57, hf⟩ := am_b2_some hf
    refine am_calli (r := r_58) (w' := w_56) (am_runV (n := 2) (As := [.ref (G.1 + o1), .int a3]) (rest := []) ⟨hx, hb, hml, hown, hts⟩ hK hE hH (k_X2_makeKnown ho1 hq_57) (am_gV am_q802 am_q804 am_qs27 am_q10 am_q805) (am_o2 (p := 255) (by decide +kernel)) rfl ⟨rfl, rfl⟩ (by decide +kernel) ⟨Nat.le_of_ble_eq_true rfl, Nat.le_of_ble_eq_true rfl⟩ rfl hl.1 rfl (Nat.le_of_ble_eq_true rfl) ⟨Nat.zero_le _, Nat.zero_le _⟩ dX2_carryOut_63) hH (fun H locs hH => ?_)
    exact am_reti hx hb hr hlocks hH hf dX2_carryOut_66
  have hf := (if_neg he_44).symm.trans hf
  by_cases he_45 : a2 = (3 : Int32)
  · have hf := (if_pos he_45).symm.trans hf
    refine lv_tableIn (off := 66) (tgt := 67) hx hb dX2_carryOut_1 (by rw [he_45]; decide) (by rw [he_45]; decide) (by rw [he_45]; rfl) (by decide) ?_
    refine lv_aload_n hx hb dX2_carryOut_67 rfl (lv_at hl 0 rfl) ?_
    refine lv_aload_n hx hb dX2_carryOut_68 rfl (lv_at hl 1 rfl) ?_
    refine lv_iload_n hx hb dX2_carryOut_69 rfl (lv_at hl 3 rfl) ?_
    obtain ⟨r_61, w_59, hq_60, hf⟩ := am_b2_some hf
    refine am_calli (r := r_61) (w' := w_59) (am_runV (n := 2) (As := [.ref (G.1 + o1), .int a3]) (rest := []) ⟨hx, hb, hml, hown, hts⟩ hK hE hH (k_X2_makeUnknown ho1 hq_60) (am_gV am_q810 am_q812 am_qs28 am_q10 am_q813) (am_o2 (p := 255) (by decide +kernel)) rfl ⟨rfl, rfl⟩ (by decide +kernel) ⟨Nat.le_of_ble_eq_true rfl, Nat.le_of_ble_eq_true rfl⟩ rfl hl.1 rfl (Nat.le_of_ble_eq_true rfl) ⟨Nat.zero_le _, Nat.zero_le _⟩ dX2_carryOut_70) hH (fun H locs hH => ?_)
    exact am_reti hx hb hr hlocks hH hf dX2_carryOut_73
  have hf := (if_neg he_45).symm.trans hf
  by_cases he_46 : a2 = (4 : Int32)
  · have hf := (if_pos he_46).symm.trans hf
    refine lv_tableIn (off := 89) (tgt := 90) hx hb dX2_carryOut_1 (by rw [he_46]; decide) (by rw [he_46]; decide) (by rw [he_46]; rfl) (by decide) ?_
    refine lv_aload_n hx hb dX2_carryOut_90 rfl (lv_at hl 1 rfl) ?_
    refine am_get hx hb hts hK hown hH (am_o9 ho1.1) rfl am_inX9 1 (by decide) am_q178 (v := .ref (G.1 + (o1 + 2))) rfl dX2_carryOut_91 ?_
    refine lv_iload_n hx hb dX2_carryOut_94 rfl (lv_at hl 3 rfl) ?_
    refine lv_dup2_11 hx hb dX2_carryOut_95 rfl rfl ?_
    obtain ⟨hi_62, hf⟩ := am_chk_some hf
    refine am_lald hx hb hK hH (am_al_of (N := 10) ho1.2.2.1) hi_62 dX2_carryOut_96 ?_
    refine lv_lconst (v := 1) hx hb dX2_carryOut_97 (by decide) ?_
    refine lv_iload hx hb dX2_carryOut_98 (lv_at hl 4 rfl) ?_
    refine lv_lshl (v := am_lshl (1 : Int64) a4) hx hb dX2_carryOut_100 rfl ?_
    refine lv_lxor hx hb dX2_carryOut_101 ?_
    obtain ⟨hi_63, hf⟩ := am_chk_some hf
    obtain ⟨w_64, hw_64, hf⟩ := am_v_some hf
    refine am_last hx hb hK hH (am_al_of (N := 10) ho1.2.2.1) hi_63 dX2_carryOut_102 (fun H locs hH => ?_)
    rw [← hw_64] at hH
    refine lv_goto (tgt := 125) hx hb dX2_carryOut_103 (by decide) ?_
    exact P125 w_64 H locs ls hf hH (lv_sub hl [1, 3] rfl)
  have hf := (if_neg he_46).symm.trans hf
  by_cases he_47 : a2 = (5 : Int32)
  · have hf := (if_pos he_47).symm.trans hf
    refine lv_tableIn (off := 73) (tgt := 74) hx hb dX2_carryOut_1 (by rw [he_47]; decide) (by rw [he_47]; decide) (by rw [he_47]; rfl) (by decide) ?_
    refine lv_aload_n hx hb dX2_carryOut_74 rfl (lv_at hl 0 rfl) ?_
    refine lv_aload_n hx hb dX2_carryOut_75 rfl (lv_at hl 1 rfl) ?_
    refine lv_iload_n hx hb dX2_carryOut_76 rfl (lv_at hl 3 rfl) ?_
    obtain ⟨r_67, w_65, hq_66, hf⟩ := am_b2_some hf
    refine am_calli (r := r_67) (w' := w_65) (am_runV (n := 2) (As := [.ref (G.1 + o1), .int a3]) (rest := []) ⟨hx, hb, hml, hown, hts⟩ hK hE hH (k_X2_setCapture ho1 hq_66) (am_gV am_q814 am_q816 am_qs29 am_q10 am_q817) (am_o2 (p := 255) (by decide +kernel)) rfl ⟨rfl, rfl⟩ (by decide +kernel) ⟨Nat.le_of_ble_eq_true rfl, Nat.le_of_ble_eq_true rfl⟩ rfl hl.1 rfl (Nat.le_of_ble_eq_true rfl) ⟨Nat.zero_le _, Nat.zero_le _⟩ dX2_carryOut_77) hH (fun H locs hH => ?_)
    exact am_reti hx hb hr hlocks hH hf dX2_carryOut_80
  have hf := (if_neg he_47).symm.trans hf
  by_cases he_48 : a2 = (6 : Int32)
  · have hf := (if_pos he_48).symm.trans hf
    refine lv_tableIn (off := 105) (tgt := 106) hx hb dX2_carryOut_1 (by rw [he_48]; decide) (by rw [he_48]; decide) (by rw [he_48]; rfl) (by decide) ?_
    refine lv_aload_n hx hb dX2_carryOut_106 rfl (lv_at hl 0 rfl) ?_
    refine lv_aload_n hx hb dX2_carryOut_107 rfl (lv_at hl 1 rfl) ?_
    refine lv_iload_n hx hb dX2_carryOut_108 rfl (lv_at hl 3 rfl) ?_
    refine lv_lload hx hb dX2_carryOut_109 (lv_at hl 5 rfl) ?_
    obtain ⟨w_68, hq_69, hf⟩ := am_b1_some hf
    refine am_callv (w' := w_68) (am_runV (n := 3) (As := [.ref (G.1 + o1), .int a3, .long a5]) (rest := []) ⟨hx, hb, hml, hown, hts⟩ hK hE hH (k_X2_drawAnew ho1 hq_69) (am_gV am_q822 am_q824 am_qs31 am_q10 am_q825) (am_o2 (p := 255) (by decide +kernel)) rfl ⟨rfl, rfl⟩ (by decide +kernel) ⟨Nat.le_of_ble_eq_true rfl, Nat.le_of_ble_eq_true rfl⟩ rfl hl.1 rfl (Nat.le_of_ble_eq_true rfl) ⟨Nat.zero_le _, Nat.zero_le _⟩ dX2_carryOut_111) hH (fun H locs hH => ?_)
    refine lv_goto (tgt := 125) hx hb dX2_carryOut_114 (by decide) ?_
    exact P125 w_68 H locs ls hf hH (lv_sub hl [1, 3] rfl)
  have hf := (if_neg he_48).symm.trans hf
  by_cases he_49 : a2 = (7 : Int32)
  · have hf := (if_pos he_49).symm.trans hf
    refine lv_tableIn (off := 80) (tgt := 81) hx hb dX2_carryOut_1 (by rw [he_49]; decide) (by rw [he_49]; decide) (by rw [he_49]; rfl) (by decide) ?_
    refine lv_aload_n hx hb dX2_carryOut_81 rfl (lv_at hl 0 rfl) ?_
    refine lv_aload_n hx hb dX2_carryOut_82 rfl (lv_at hl 1 rfl) ?_
    refine lv_iload_n hx hb dX2_carryOut_83 rfl (lv_at hl 3 rfl) ?_
    refine lv_iload hx hb dX2_carryOut_84 (lv_at hl 4 rfl) ?_
    obtain ⟨r_72, w_70, hq_71, hf⟩ := am_b2_some hf
    refine am_calli (r := r_72) (w' := w_70) (am_runV (n := 3) (As := [.ref (G.1 + o1), .int a3, .int a4]) (rest := []) ⟨hx, hb, hml, hown, hts⟩ hK hE hH (k_X2_putOnShelf ho1 hq_71) (am_gV am_q818 am_q820 am_qs30 am_q10 am_q821) (am_o2 (p := 255) (by decide +kernel)) rfl ⟨rfl, rfl⟩ (by decide +kernel) ⟨Nat.le_of_ble_eq_true rfl, Nat.le_of_ble_eq_true rfl⟩ rfl hl.1 rfl (Nat.le_of_ble_eq_true rfl) ⟨Nat.zero_le _, Nat.zero_le _⟩ dX2_carryOut_86) hH (fun H locs hH => ?_)
    exact am_reti hx hb hr hlocks hH hf dX2_carryOut_89
  have hf := (if_neg he_49).symm.trans hf
  have nhe_42 := am_tne (k := 0) (0 : Int32) (by decide) he_42
  have nhe_43 := am_tne (k := 1) (1 : Int32) (by decide) he_43
  have nhe_44 := am_tne (k := 2) (2 : Int32) (by decide) he_44
  have nhe_45 := am_tne (k := 3) (3 : Int32) (by decide) he_45
  have nhe_46 := am_tne (k := 4) (4 : Int32) (by decide) he_46
  have nhe_47 := am_tne (k := 5) (5 : Int32) (by decide) he_47
  have nhe_48 := am_tne (k := 6) (6 : Int32) (by decide) he_48
  have nhe_49 := am_tne (k := 7) (7 : Int32) (by decide) he_49
  refine lv_tableOut (tgt := 117) hx hb dX2_carryOut_1 (by omega) (by decide) ?_
  refine lv_aload_n hx hb dX2_carryOut_117 rfl (lv_at hl 0 rfl) ?_
  refine lv_aload_n hx hb dX2_carryOut_118 rfl (lv_at hl 1 rfl) ?_
  refine lv_iload_n hx hb dX2_carryOut_119 rfl (lv_at hl 3 rfl) ?_
  refine lv_iload hx hb dX2_carryOut_120 (lv_at hl 4 rfl) ?_
  obtain ⟨w_73, hq_74, hf⟩ := am_b1_some hf
  refine am_callv (w' := w_73) (am_runV (n := 3) (As := [.ref (G.1 + o1), .int a3, .int a4]) (rest := []) ⟨hx, hb, hml, hown, hts⟩ hK hE hH (k_X2_exchange ho1 hq_74) (am_gV am_q845 am_q847 am_qs32 am_q10 am_q848) (am_o2 (p := 255) (by decide +kernel)) rfl ⟨rfl, rfl⟩ (by decide +kernel) ⟨Nat.le_of_ble_eq_true rfl, Nat.le_of_ble_eq_true rfl⟩ rfl hl.1 rfl (Nat.le_of_ble_eq_true rfl) ⟨Nat.zero_le _, Nat.zero_le _⟩ dX2_carryOut_122) hH (fun H locs hH => ?_)
  exact P125 w_73 H locs ls hf hH (lv_sub hl [1, 3] rfl)

def f_X2_loggedUser_56 (a0 : Int32) (a1 : Int32) (a2 : Int32) (a3 : Int32) (w : am_S) : Option (Int32 × am_S) :=
  some (a1, w)
def f_X2_loggedUser (a0 : Int32) (a1 : Int32) (a2 : Int32) (a3 : Int32) (w : am_S) : Option (Int32 × am_S) :=
  (if a0 = (0 : Int32) then (some (a3, w)) else (if a0 = (1 : Int32) then (some ((-1 : Int32), w)) else (if a0 = (2 : Int32) then (f_X2_loggedUser_56 a0 a1 a2 a3 w) else (if a0 = (3 : Int32) then (f_X2_loggedUser_56 a0 a1 a2 a3 w) else (if a0 = (4 : Int32) then (f_X2_loggedUser_56 a0 a1 a2 a3 w) else (if a0 = (5 : Int32) then (some ((-1 : Int32), w)) else (if a0 = (6 : Int32) then (f_X2_loggedUser_56 a0 a1 a2 a3 w) else (if a0 = (7 : Int32) then (some (a2, w)) else (f_X2_loggedUser_56 a0 a1 a2 a3 w)))))))))
set_option maxRecDepth 100000 in
set_option maxHeartbeats 4000000 in
theorem k_X2_loggedUser {G : am_G} {l : Launch} {a0 : Int32} {a1 : Int32} {a2 : Int32} {a3 : Int32}  {w : am_S} {rr : Int32} {ww : am_S} (hf : f_X2_loggedUser a0 a1 a2 a3 w = some (rr, ww)) : am_Mi G l yX2_loggedUser (Cond.code yX2_loggedUser cX2_loggedUser 4 (some .int) :: am_T) { frames := 0, cells := 0, slots := 0, locals := 0 } [.int a0, .int a1, .int a2, .int a3] w rr ww := by
  refine Met.ofW (cc := cX2_loggedUser) (maxL := 4) (ret := (some .int)) (by decide) rfl ?_
  intro p e s m args below meth c s₁ B hml hv
  obtain ⟨rfl, hx, hb, hr, hts, hown, hlocks, hK, hE, hH⟩ := am_begin B hv
  have hown : s.vm.findClass RX2 = some m.cls := hown
  show W p l e { frames := 0, cells := 0, slots := 0, locals := 0 } s m _ below meth c s.heap [] 0 0 _ _
  have P56 : ∀ (w : am_S) (H : Heap) (locs : List Loc) (ls : Array Slot), f_X2_loggedUser_56 a0 a1 a2 a3 w = some (rr, ww) → am_H G w s H locs → lv_has ls 4 [(1, .int a1)] → W p l e { frames := 0, cells := 0, slots := 0, locals := 0 } s m [.int a0, .int a1, .int a2, .int a3].toArray below meth c H locs 0 0 (MQ below (va_Qi (fun (x : Int32) (u : am_S) => x = rr ∧ u = ww) (am_U G) (am_A G)) [.int a0, .int a1, .int a2, .int a3].toArray s 0 0 (am_A G)) (F0 m 56 ls []) := by
    intro w H locs ls hf hH hl
    unfold f_X2_loggedUser_56 at hf
    refine lv_iload_n hx hb dX2_loggedUser_56 rfl (lv_at hl 0 rfl) ?_
    exact am_reti hx hb hr hlocks hH hf dX2_loggedUser_57
  refine am_enter (lv := [(0, .int a0), (1, .int a1), (2, .int a2), (3, .int a3)]) (Nat.le_of_ble_eq_true rfl) rfl (fun ls hl => ?_)
  unfold f_X2_loggedUser at hf
  refine am_start hH (fun H locs hH => ?_)
  refine lv_iload_n hx hb dX2_loggedUser_0 rfl (lv_at hl 0 rfl) ?_
  by_cases he_9 : a0 = (0 : Int32)
  · have hf := (if_pos he_9).symm.trans hf
    refine lv_tableIn (off := 47) (tgt := 48) hx hb dX2_loggedUser_1 (by rw [he_9]; decide) (by rw [he_9]; decide) (by rw [he_9]; rfl) (by decide) ?_
    refine lv_iload_n hx hb dX2_loggedUser_48 rfl (lv_at hl 3 rfl) ?_
    exact am_reti hx hb hr hlocks hH hf dX2_loggedUser_49
  have hf := (if_neg he_9).symm.trans hf
  by_cases he_10 : a0 = (1 : Int32)
  · have hf := (if_pos he_10).symm.trans hf
    refine lv_tableIn (off := 49) (tgt := 50) hx hb dX2_loggedUser_1 (by rw [he_10]; decide) (by rw [he_10]; decide) (by rw [he_10]; rfl) (by decide) ?_
    refine lv_iconst (v := -1) hx hb dX2_loggedUser_50 (by decide) ?_
    exact am_reti hx hb hr hlocks hH hf dX2_loggedUser_51
  have hf := (if_neg he_10).symm.trans hf
  by_cases he_11 : a0 = (2 : Int32)
  · have hf := (if_pos he_11).symm.trans hf
    refine lv_tableIn (off := 55) (tgt := 56) hx hb dX2_loggedUser_1 (by rw [he_11]; decide) (by rw [he_11]; decide) (by rw [he_11]; rfl) (by decide) ?_
    exact P56 w H locs ls hf hH (lv_sub hl [1] rfl)
  have hf := (if_neg he_11).symm.trans hf
  by_cases he_12 : a0 = (3 : Int32)
  · have hf := (if_pos he_12).symm.trans hf
    refine lv_tableIn (off := 55) (tgt := 56) hx hb dX2_loggedUser_1 (by rw [he_12]; decide) (by rw [he_12]; decide) (by rw [he_12]; rfl) (by decide) ?_
    exact P56 w H locs ls hf hH (lv_sub hl [1] rfl)
  have hf := (if_neg he_12).symm.trans hf
  by_cases he_13 : a0 = (4 : Int32)
  · have hf := (if_pos he_13).symm.trans hf
    refine lv_tableIn (off := 55) (tgt := 56) hx hb dX2_loggedUser_1 (by rw [he_13]; decide) (by rw [he_13]; decide) (by rw [he_13]; rfl) (by decide) ?_
    exact P56 w H locs ls hf hH (lv_sub hl [1] rfl)
  have hf := (if_neg he_13).symm.trans hf
  by_cases he_14 : a0 = (5 : Int32)
  · have hf := (if_pos he_14).symm.trans hf
    refine lv_tableIn (off := 51) (tgt := 52) hx hb dX2_loggedUser_1 (by rw [he_14]; decide) (by rw [he_14]; decide) (by rw [he_14]; rfl) (by decide) ?_
    refine lv_iconst (v := -1) hx hb dX2_loggedUser_52 (by decide) ?_
    exact am_reti hx hb hr hlocks hH hf dX2_loggedUser_53
  have hf := (if_neg he_14).symm.trans hf
  by_cases he_15 : a0 = (6 : Int32)
  · have hf := (if_pos he_15).symm.trans hf
    refine lv_tableIn (off := 55) (tgt := 56) hx hb dX2_loggedUser_1 (by rw [he_15]; decide) (by rw [he_15]; decide) (by rw [he_15]; rfl) (by decide) ?_
    exact P56 w H locs ls hf hH (lv_sub hl [1] rfl)
  have hf := (if_neg he_15).symm.trans hf
  by_cases he_16 : a0 = (7 : Int32)
  · have hf := (if_pos he_16).symm.trans hf
    refine lv_tableIn (off := 53) (tgt := 54) hx hb dX2_loggedUser_1 (by rw [he_16]; decide) (by rw [he_16]; decide) (by rw [he_16]; rfl) (by decide) ?_
    refine lv_iload_n hx hb dX2_loggedUser_54 rfl (lv_at hl 2 rfl) ?_
    exact am_reti hx hb hr hlocks hH hf dX2_loggedUser_55
  have hf := (if_neg he_16).symm.trans hf
  have nhe_9 := am_tne (k := 0) (0 : Int32) (by decide) he_9
  have nhe_10 := am_tne (k := 1) (1 : Int32) (by decide) he_10
  have nhe_11 := am_tne (k := 2) (2 : Int32) (by decide) he_11
  have nhe_12 := am_tne (k := 3) (3 : Int32) (by decide) he_12
  have nhe_13 := am_tne (k := 4) (4 : Int32) (by decide) he_13
  have nhe_14 := am_tne (k := 5) (5 : Int32) (by decide) he_14
  have nhe_15 := am_tne (k := 6) (6 : Int32) (by decide) he_15
  have nhe_16 := am_tne (k := 7) (7 : Int32) (by decide) he_16
  refine lv_tableOut (tgt := 56) hx hb dX2_loggedUser_1 (by omega) (by decide) ?_
  exact P56 w H locs ls hf hH (lv_sub hl [1] rfl)
