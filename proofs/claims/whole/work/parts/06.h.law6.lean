theorem am_q0 : Cond.initialized RL ∈ am_T := am_in 0 (by decide +kernel) (by decide +kernel)
theorem am_q1240 : Cond.methodLink RL 46 yL_user ∈ am_T := am_in 1240 (by decide +kernel) (by decide +kernel)
theorem am_q1241 : Cond.static yL_user ∈ am_T := am_in 1241 (by decide +kernel) (by decide +kernel)
theorem am_q1242 : Cond.codeWith yL_user cL_user 5 (some .int) [(0, 10, 13, 13)] ∈ am_T := am_in 1242 (by decide +kernel) (by decide +kernel)
theorem am_q1410 : Cond.methodLink RL 52 yX12_thrown ∈ am_T := am_in 1410 (by decide +kernel) (by decide +kernel)
theorem am_q1411 : Cond.instanceMethod yX12_thrown ∈ am_T := am_in 1411 (by decide +kernel) (by decide +kernel)
theorem am_q1412 : Cond.selects RX12 yX12_thrown yX12_thrown ∈ am_T := am_in 1412 (by decide +kernel) (by decide +kernel)
theorem am_q1413 : Cond.code yX12_thrown cX12_thrown 1 (some .int) ∈ am_T := am_in 1413 (by decide +kernel) (by decide +kernel)
theorem am_q1732 : Cond.methodLink RL 51 yX12_user ∈ am_T := am_in 1732 (by decide +kernel) (by decide +kernel)
theorem am_q1733 : Cond.instanceMethod yX12_user ∈ am_T := am_in 1733 (by decide +kernel) (by decide +kernel)
theorem am_q1734 : Cond.selects RX12 yX12_user yX12_user ∈ am_T := am_in 1734 (by decide +kernel) (by decide +kernel)
theorem am_q1735 : Cond.code yX12_user cX12_user 3 (some .int) ∈ am_T := am_in 1735 (by decide +kernel) (by decide +kernel)
def f_law_6 (Ls : Nat) (xs : Nat → Int32) (x4 : Int32) (w : am_S) : Option am_S :=
  am_chk (x4 + (1 : Int32)) Ls (am_chk (x4 + (2 : Int32)) Ls (am_b2 (f_L_user (xs (x4 + (1 : Int32)).toNatClampNeg) (xs (x4 + (2 : Int32)).toNatClampNeg) w) fun ru wu => am_chk (x4 + (1 : Int32)) Ls (am_chk (x4 + (2 : Int32)) Ls (am_b2 (f_X12_user (xs (x4 + (1 : Int32)).toNatClampNeg) (xs (x4 + (2 : Int32)).toNatClampNeg) wu) fun r_5 w_3 => am_b2 (f_X12_thrown w_3) fun r_8 w_6 => if r_8 = ru then (if ru = 0 then (am_chk (0 : Int32) 1 (if (lg_cmp (w_6.2.1 290 (0 : Int32).toNatClampNeg) (r_5.toInt64)) = 0 then (some w_6) else none)) else (some w_6)) else none))))
set_option maxRecDepth 100000 in
set_option maxHeartbeats 4000000 in
theorem k_law_6 {p : Program} {l : Launch} {e : Env} {s : State} {m : MethodId} {below : List Frame} {meth : Method} {c : Code} {Q : State → Prop} {cells slots b0 Ls : Nat} {xs : Nat → Int32} {x4 : Int32} {G : am_G} {w ww : am_S} {H : Heap} {locs : List Loc} {ls : Array Slot} (hlt : l.stackTraces = false) (hXU : am_XU G s s.heap) (hx : p.tables.exec = Jvm.exec) (hb : c.code = cL_law) (hml : c.maxLocals = 7) (hown : s.vm.findClass RL = some m.cls) (hts : ∀ w ∈ am_T, w.before #[Value.ref b0] s = true) (hK : va_K G.2.2.1 vwCl (am_tys G) s) (hE : am_E G s s.heap) (hXs : va_X b0 Ls xs s s.heap) (hbl : b0 < s.heap.size) (hbA : ¬ G.1 ≤ b0) (hf0 : cells + 1 ≤ room_1.cells ∧ slots + 6 ≤ room_1.slots) (hf : f_law_6 Ls xs x4 w = some ww) (hH : am_H G w s H locs) (hl : lv_has ls 7 [(0, .ref b0), (1, .ref (G.1 + 0)), (2, .ref (G.1 + 271)), (3, .ref (G.1 + 290)), (4, .int x4)]) (kk : ∀ (H : Heap) (locs : List Loc) (ls : Array Slot), am_H G ww s H locs → lv_has ls 7 [(0, .ref b0), (1, .ref (G.1 + 0)), (2, .ref (G.1 + 271)), (3, .ref (G.1 + 290)), (4, .int x4)] → W p l e room_1 s m #[Value.ref b0] below meth c H locs (cells + 1) (slots + 6) Q (F0 m 1962 ls [])) : W p l e room_1 s m #[Value.ref b0] below meth c H locs cells slots Q (F0 m 466 ls []) := by
  unfold f_law_6 at hf
  refine lv_aload_n hx hb dL_law_466 rfl (lv_at hl 1 rfl) ?_
  refine lv_aload_n hx hb dL_law_467 rfl (lv_at hl 0 rfl) ?_
  refine lv_iload hx hb dL_law_468 (lv_at hl 4 rfl) ?_
  refine lv_iconst (v := 1) hx hb dL_law_470 (by decide) ?_
  refine lv_iadd hx hb dL_law_471 ?_
  obtain ⟨hi_1, hf⟩ := am_chk_some hf
  refine va_sld hx hb hXs hbl hbA hH.2 hi_1 dL_law_472 ?_
  refine lv_aload_n hx hb dL_law_473 rfl (lv_at hl 0 rfl) ?_
  refine lv_iload hx hb dL_law_474 (lv_at hl 4 rfl) ?_
  refine lv_iconst (v := 2) hx hb dL_law_476 (by decide) ?_
  refine lv_iadd hx hb dL_law_477 ?_
  obtain ⟨hi_2, hf⟩ := am_chk_some hf
  refine va_sld hx hb hXs hbl hbA hH.2 hi_2 dL_law_478 ?_
  refine lv_aload_n hx hb dL_law_479 rfl (lv_at hl 3 rfl) ?_
  obtain ⟨ru, wu, hqu, hf⟩ := am_b2_some hf
  refine va_calli (vx_runSW (n := 4) (As := [.ref (G.1 + 0), .int (xs (x4 + (1 : Int32)).toNatClampNeg), .int (xs (x4 + (2 : Int32)).toNatClampNeg), .ref (G.1 + 290)]) (rest := []) ⟨hx, hb, hml, hown, hts⟩ (k_L_user (G := G) hlt hqu) (vx_cwSW 4 hts (am_gS am_q1240 am_q1241 am_q0 am_q1242) rfl rfl rfl (by decide +kernel) ⟨Nat.le_of_ble_eq_true rfl, Nat.le_of_ble_eq_true rfl⟩) ⟨am_blindX, fun U hU hW => ⟨rfl, (am_B_at hH hK hE (av := [.ref (G.1 + 0), .int (xs (x4 + (1 : Int32)).toNatClampNeg), .int (xs (x4 + (2 : Int32)).toNatClampNeg), .ref (G.1 + 290)]) U hU hW).2, by rw [hU]; exact am_XU.warm hW (hXU.kept hH.2.2.1)⟩⟩ rfl rfl hl.1 rfl (lv_room (Nat.le_of_ble_eq_true rfl)) dL_law_480 hf0) hH.2 (fun _ _ h => h) (fun _ h => h) (fun x u t H1 locs1 ht _ hw hB _ _ hS => ?_)
  have hH : am_H G wu s H1 locs1 := ⟨by rw [← ht, ← hw.2]; exact hB, hS⟩
  rw [hw.1]
  clear hw hB hS
  refine lv_istore (lv' := [(5, .int ru), (0, .ref b0), (1, .ref (G.1 + 0)), (2, .ref (G.1 + 271)), (3, .ref (G.1 + 290)), (4, .int x4)]) hx hb dL_law_483 hl (by decide) rfl (fun ls hl => ?_)
  refine lv_aload_n hx hb dL_law_485 rfl (lv_at hl 3 rfl) ?_
  refine lv_aload_n hx hb dL_law_486 rfl (lv_at hl 1 rfl) ?_
  refine lv_iload hx hb dL_law_487 (lv_at hl 5 rfl) ?_
  refine lv_iconst (v := 1) hx hb dL_law_489 (by decide) ?_
  refine lv_iadd hx hb dL_law_490 ?_
  obtain ⟨hi_1, hf⟩ := am_chk_some hf
  refine va_sld hx hb hXs hbl hbA hH.2 hi_1 dL_law_491 ?_
  refine lv_aload_n hx hb dL_law_492 rfl (lv_at hl 1 rfl) ?_
  refine lv_iload hx hb dL_law_493 (lv_at hl 5 rfl) ?_
  refine lv_iconst (v := 2) hx hb dL_law_495 (by decide) ?_
  refine lv_iadd hx hb dL_law_496 ?_
  obtain ⟨hi_2, hf⟩ := am_chk_some hf
  refine va_sld hx hb hXs hbl hbA hH.2 hi_2 dL_law_497 ?_
  obtain ⟨r_5, w_3, hq_4, hf⟩ := am_b2_some hf
  refine am_calli (r := r_5) (w' := w_3) (am_runV (n := 2) (As := [.int (xs (x4 + (1 : Int32)).toNatClampNeg), .int (xs (x4 + (2 : Int32)).toNatClampNeg)]) (rest := []) ⟨hx, hb, hml, hown, hts⟩ hK hE hH (k_X12_user hq_4) (am_gV am_q1732 am_q1733 am_q1734 am_q13 am_q1735) (am_o12 (p := 271) (by decide +kernel)) rfl ⟨rfl, rfl⟩ (by decide +kernel) ⟨Nat.le_of_ble_eq_true rfl, Nat.le_of_ble_eq_true rfl⟩ rfl hl.1 rfl (Nat.le_of_ble_eq_true rfl) hf0 dL_law_498) hH (fun H locs hH => ?_)
  refine lv_istore (lv' := [(6, .int r_5), (5, .int ru), (0, .ref b0), (1, .ref (G.1 + 0)), (2, .ref (G.1 + 271)), (3, .ref (G.1 + 290)), (4, .int x4)]) hx hb dL_law_501 hl (by decide) rfl (fun ls hl => ?_)
  refine lv_aload_n hx hb dL_law_503 rfl (lv_at hl 4 rfl) ?_
  obtain ⟨r_8, w_6, hq_7, hf⟩ := am_b2_some hf
  refine am_calli (r := r_8) (w' := w_6) (am_runV (n := 0) (As := []) (rest := []) ⟨hx, hb, hml, hown, hts⟩ hK hE hH (k_X12_thrown hq_7) (am_gV am_q1410 am_q1411 am_q1412 am_q13 am_q1413) (am_o12 (p := 271) (by decide +kernel)) rfl ⟨rfl, rfl⟩ (by decide +kernel) ⟨Nat.le_of_ble_eq_true rfl, Nat.le_of_ble_eq_true rfl⟩ rfl hl.1 rfl (Nat.le_of_ble_eq_true rfl) hf0 dL_law_504) hH (fun H locs hH => ?_)
  refine lv_iload hx hb dL_law_507 (lv_at hl 1 rfl) ?_
  refine lv_icmp_eq (tgt := 514) hx hb dL_law_509 (by decide) (fun hc_9 => ?_) (fun hc_9 => ?_)
  · have hf := (if_pos hc_9).symm.trans hf
    refine lv_iload hx hb dL_law_514 (lv_at hl 1 rfl) ?_
    refine lv_if_ne (tgt := 531) hx hb dL_law_516 (by decide) (fun hc_10 => ?_) (fun hc_10 => ?_)
    · have hf := (if_neg hc_10).symm.trans hf
      refine lv_goto (tgt := 1962) hx hb dL_law_531 (by decide) ?_
      obtain rfl := Option.some.inj hf
      exact kk H locs ls hH (lv_sub hl [2, 3, 4, 5, 6] rfl)
    · have hf := (if_pos hc_10).symm.trans hf
      refine lv_aload_n hx hb dL_law_519 rfl (lv_at hl 5 rfl) ?_
      refine lv_iconst (v := 0) hx hb dL_law_520 (by decide) ?_
      obtain ⟨hi_11, hf⟩ := am_chk_some hf
      refine am_lald hx hb hK hH (am_al_of (N := 1) (by decide +kernel)) hi_11 dL_law_521 ?_
      refine lv_iload hx hb dL_law_522 (lv_at hl 0 rfl) ?_
      refine lv_i2l hx hb dL_law_524 rfl ?_
      refine W.lcmp hx hb dL_law_525 ?_
      refine lv_if_eq (tgt := 531) hx hb dL_law_526 (by decide) (fun hc_12 => ?_) (fun hc_12 => ?_)
      · have hf := (if_pos hc_12).symm.trans hf
        refine lv_goto (tgt := 1962) hx hb dL_law_531 (by decide) ?_
        obtain rfl := Option.some.inj hf
        exact kk H locs ls hH (lv_sub hl [2, 3, 4, 5, 6] rfl)
      · have hf := (if_neg hc_12).symm.trans hf
        refine lv_iconst (v := 0) hx hb dL_law_529 (by decide) ?_
        cases hf
  · have hf := (if_neg hc_9).symm.trans hf
    refine lv_iconst (v := 0) hx hb dL_law_512 (by decide) ?_
    cases hf
