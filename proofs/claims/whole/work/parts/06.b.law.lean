/-! the cases of the law, by program (wip/whole/law.py) -/
def f_law_0 (Ls : Nat) (xs : Nat → Int32) (x4 : Int32) (w : am_S) : Option am_S :=
  am_chk (x4 + (1 : Int32)) Ls (am_chk (x4 + (2 : Int32)) Ls (am_chk (x4 + (3 : Int32)) Ls (am_chk (x4 + (4 : Int32)) Ls (am_chk (x4 + (5 : Int32)) Ls (am_b2 (f_X11_feed (xs (x4 + (1 : Int32)).toNatClampNeg) (xs (x4 + (2 : Int32)).toNatClampNeg) (xs (x4 + (3 : Int32)).toNatClampNeg) (xs (x4 + (4 : Int32)).toNatClampNeg) (xs (x4 + (5 : Int32)).toNatClampNeg) w) fun r_8 w_6 => am_chk (x4 + (1 : Int32)) Ls (am_chk (x4 + (2 : Int32)) Ls (am_chk (x4 + (3 : Int32)) Ls (am_chk (x4 + (4 : Int32)) Ls (am_chk (x4 + (5 : Int32)) Ls (am_b2 (f_X12_feed (xs (x4 + (1 : Int32)).toNatClampNeg) (xs (x4 + (2 : Int32)).toNatClampNeg) (xs (x4 + (3 : Int32)).toNatClampNeg) (xs (x4 + (4 : Int32)).toNatClampNeg) (xs (x4 + (5 : Int32)).toNatClampNeg) w_6) fun r_16 w_14 => if r_8 = r_16 then (some w_14) else none))))))))))
set_option maxRecDepth 100000 in
set_option maxHeartbeats 4000000 in
theorem k_law_0 {p : Program} {l : Launch} {e : Env} {s : State} {m : MethodId} {below : List Frame} {meth : Method} {c : Code} {Q : State → Prop} {cells slots b0 Ls : Nat} {xs : Nat → Int32} {x4 : Int32} {G : am_G} {w ww : am_S} {H : Heap} {locs : List Loc} {ls : Array Slot} (hx : p.tables.exec = Jvm.exec) (hb : c.code = cL_law) (hml : c.maxLocals = 7) (hown : s.vm.findClass RL = some m.cls) (hts : ∀ w ∈ am_T, w.before #[Value.ref b0] s = true) (hK : va_K G.2.2.1 vwCl (am_tys G) s) (hE : am_E G s s.heap) (hXs : va_X b0 Ls xs s s.heap) (hbl : b0 < s.heap.size) (hbA : ¬ G.1 ≤ b0) (hf0 : cells ≤ room_1.cells ∧ slots ≤ room_1.slots) (hf : f_law_0 Ls xs x4 w = some ww) (hH : am_H G w s H locs) (hl : lv_has ls 7 [(0, .ref b0), (1, .ref (G.1 + 0)), (2, .ref (G.1 + 271)), (3, .ref (G.1 + 290)), (4, .int x4)]) (kk : ∀ (H : Heap) (locs : List Loc) (ls : Array Slot), am_H G ww s H locs → lv_has ls 7 [(0, .ref b0), (1, .ref (G.1 + 0)), (2, .ref (G.1 + 271)), (3, .ref (G.1 + 290)), (4, .int x4)] → W p l e room_1 s m #[Value.ref b0] below meth c H locs cells slots Q (F0 m 1962 ls [])) : W p l e room_1 s m #[Value.ref b0] below meth c H locs cells slots Q (F0 m 268 ls []) := by
  unfold f_law_0 at hf
  refine lv_aload_n hx hb dL_law_268 rfl (lv_at hl 1 rfl) ?_
  refine lv_aload_n hx hb dL_law_269 rfl (lv_at hl 0 rfl) ?_
  refine lv_iload hx hb dL_law_270 (lv_at hl 4 rfl) ?_
  refine lv_iconst (v := 1) hx hb dL_law_272 (by decide) ?_
  refine lv_iadd hx hb dL_law_273 ?_
  obtain ⟨hi_1, hf⟩ := am_chk_some hf
  refine va_sld hx hb hXs hbl hbA hH.2 hi_1 dL_law_274 ?_
  refine lv_aload_n hx hb dL_law_275 rfl (lv_at hl 0 rfl) ?_
  refine lv_iload hx hb dL_law_276 (lv_at hl 4 rfl) ?_
  refine lv_iconst (v := 2) hx hb dL_law_278 (by decide) ?_
  refine lv_iadd hx hb dL_law_279 ?_
  obtain ⟨hi_2, hf⟩ := am_chk_some hf
  refine va_sld hx hb hXs hbl hbA hH.2 hi_2 dL_law_280 ?_
  refine lv_aload_n hx hb dL_law_281 rfl (lv_at hl 0 rfl) ?_
  refine lv_iload hx hb dL_law_282 (lv_at hl 4 rfl) ?_
  refine lv_iconst (v := 3) hx hb dL_law_284 (by decide) ?_
  refine lv_iadd hx hb dL_law_285 ?_
  obtain ⟨hi_3, hf⟩ := am_chk_some hf
  refine va_sld hx hb hXs hbl hbA hH.2 hi_3 dL_law_286 ?_
  refine lv_aload_n hx hb dL_law_287 rfl (lv_at hl 0 rfl) ?_
  refine lv_iload hx hb dL_law_288 (lv_at hl 4 rfl) ?_
  refine lv_iconst (v := 4) hx hb dL_law_290 (by decide) ?_
  refine lv_iadd hx hb dL_law_291 ?_
  obtain ⟨hi_4, hf⟩ := am_chk_some hf
  refine va_sld hx hb hXs hbl hbA hH.2 hi_4 dL_law_292 ?_
  refine lv_aload_n hx hb dL_law_293 rfl (lv_at hl 0 rfl) ?_
  refine lv_iload hx hb dL_law_294 (lv_at hl 4 rfl) ?_
  refine lv_iconst (v := 5) hx hb dL_law_296 (by decide) ?_
  refine lv_iadd hx hb dL_law_297 ?_
  obtain ⟨hi_5, hf⟩ := am_chk_some hf
  refine va_sld hx hb hXs hbl hbA hH.2 hi_5 dL_law_298 ?_
  obtain ⟨r_8, w_6, hq_7, hf⟩ := am_b2_some hf
  refine am_calli (r := r_8) (w' := w_6) (am_runV (n := 5) (As := [.int (xs (x4 + (1 : Int32)).toNatClampNeg), .int (xs (x4 + (2 : Int32)).toNatClampNeg), .int (xs (x4 + (3 : Int32)).toNatClampNeg), .int (xs (x4 + (4 : Int32)).toNatClampNeg), .int (xs (x4 + (5 : Int32)).toNatClampNeg)]) (rest := []) ⟨hx, hb, hml, hown, hts⟩ hK hE hH (k_X11_feed hq_7) (am_gV am_q389 am_q390 am_q391 am_q1 am_q392) (am_o11 (p := 0) (by decide +kernel)) rfl ⟨rfl, rfl⟩ (by decide +kernel) ⟨Nat.le_of_ble_eq_true rfl, Nat.le_of_ble_eq_true rfl⟩ rfl hl.1 rfl (Nat.le_of_ble_eq_true rfl) hf0 dL_law_299) hH (fun H locs hH => ?_)
  refine lv_aload_n hx hb dL_law_302 rfl (lv_at hl 2 rfl) ?_
  refine lv_aload_n hx hb dL_law_303 rfl (lv_at hl 0 rfl) ?_
  refine lv_iload hx hb dL_law_304 (lv_at hl 4 rfl) ?_
  refine lv_iconst (v := 1) hx hb dL_law_306 (by decide) ?_
  refine lv_iadd hx hb dL_law_307 ?_
  obtain ⟨hi_9, hf⟩ := am_chk_some hf
  refine va_sld hx hb hXs hbl hbA hH.2 hi_9 dL_law_308 ?_
  refine lv_aload_n hx hb dL_law_309 rfl (lv_at hl 0 rfl) ?_
  refine lv_iload hx hb dL_law_310 (lv_at hl 4 rfl) ?_
  refine lv_iconst (v := 2) hx hb dL_law_312 (by decide) ?_
  refine lv_iadd hx hb dL_law_313 ?_
  obtain ⟨hi_10, hf⟩ := am_chk_some hf
  refine va_sld hx hb hXs hbl hbA hH.2 hi_10 dL_law_314 ?_
  refine lv_aload_n hx hb dL_law_315 rfl (lv_at hl 0 rfl) ?_
  refine lv_iload hx hb dL_law_316 (lv_at hl 4 rfl) ?_
  refine lv_iconst (v := 3) hx hb dL_law_318 (by decide) ?_
  refine lv_iadd hx hb dL_law_319 ?_
  obtain ⟨hi_11, hf⟩ := am_chk_some hf
  refine va_sld hx hb hXs hbl hbA hH.2 hi_11 dL_law_320 ?_
  refine lv_aload_n hx hb dL_law_321 rfl (lv_at hl 0 rfl) ?_
  refine lv_iload hx hb dL_law_322 (lv_at hl 4 rfl) ?_
  refine lv_iconst (v := 4) hx hb dL_law_324 (by decide) ?_
  refine lv_iadd hx hb dL_law_325 ?_
  obtain ⟨hi_12, hf⟩ := am_chk_some hf
  refine va_sld hx hb hXs hbl hbA hH.2 hi_12 dL_law_326 ?_
  refine lv_aload_n hx hb dL_law_327 rfl (lv_at hl 0 rfl) ?_
  refine lv_iload hx hb dL_law_328 (lv_at hl 4 rfl) ?_
  refine lv_iconst (v := 5) hx hb dL_law_330 (by decide) ?_
  refine lv_iadd hx hb dL_law_331 ?_
  obtain ⟨hi_13, hf⟩ := am_chk_some hf
  refine va_sld hx hb hXs hbl hbA hH.2 hi_13 dL_law_332 ?_
  obtain ⟨r_16, w_14, hq_15, hf⟩ := am_b2_some hf
  refine am_calli (r := r_16) (w' := w_14) (am_runV (n := 5) (As := [.int (xs (x4 + (1 : Int32)).toNatClampNeg), .int (xs (x4 + (2 : Int32)).toNatClampNeg), .int (xs (x4 + (3 : Int32)).toNatClampNeg), .int (xs (x4 + (4 : Int32)).toNatClampNeg), .int (xs (x4 + (5 : Int32)).toNatClampNeg)]) (rest := [.int r_8]) ⟨hx, hb, hml, hown, hts⟩ hK hE hH (k_X12_feed hq_15) (am_gV am_q1414 am_q1415 am_q1416 am_q13 am_q1417) (am_o12 (p := 271) (by decide +kernel)) rfl ⟨rfl, rfl⟩ (by decide +kernel) ⟨Nat.le_of_ble_eq_true rfl, Nat.le_of_ble_eq_true rfl⟩ rfl hl.1 rfl (Nat.le_of_ble_eq_true rfl) hf0 dL_law_333) hH (fun H locs hH => ?_)
  refine lv_icmp_eq (tgt := 1962) hx hb dL_law_336 (by decide) (fun hc_17 => ?_) (fun hc_17 => ?_)
  · have hf := (if_pos hc_17).symm.trans hf
    obtain rfl := Option.some.inj hf
    exact kk H locs ls hH (lv_sub hl [0, 1, 2, 3, 4] rfl)
  · have hf := (if_neg hc_17).symm.trans hf
    refine lv_iconst (v := 0) hx hb dL_law_339 (by decide) ?_
    cases hf
def f_law_1 (Ls : Nat) (xs : Nat → Int32) (x4 : Int32) (w : am_S) : Option am_S :=
  am_chk (x4 + (1 : Int32)) Ls (am_b2 (f_X11_end (xs (x4 + (1 : Int32)).toNatClampNeg) w) fun r_4 w_2 => am_chk (x4 + (1 : Int32)) Ls (am_b2 (f_X12_end (xs (x4 + (1 : Int32)).toNatClampNeg) w_2) fun r_8 w_6 => if r_4 = r_8 then (some w_6) else none))
set_option maxRecDepth 100000 in
set_option maxHeartbeats 4000000 in
theorem k_law_1 {p : Program} {l : Launch} {e : Env} {s : State} {m : MethodId} {below : List Frame} {meth : Method} {c : Code} {Q : State → Prop} {cells slots b0 Ls : Nat} {xs : Nat → Int32} {x4 : Int32} {G : am_G} {w ww : am_S} {H : Heap} {locs : List Loc} {ls : Array Slot} (hx : p.tables.exec = Jvm.exec) (hb : c.code = cL_law) (hml : c.maxLocals = 7) (hown : s.vm.findClass RL = some m.cls) (hts : ∀ w ∈ am_T, w.before #[Value.ref b0] s = true) (hK : va_K G.2.2.1 vwCl (am_tys G) s) (hE : am_E G s s.heap) (hXs : va_X b0 Ls xs s s.heap) (hbl : b0 < s.heap.size) (hbA : ¬ G.1 ≤ b0) (hf0 : cells ≤ room_1.cells ∧ slots ≤ room_1.slots) (hf : f_law_1 Ls xs x4 w = some ww) (hH : am_H G w s H locs) (hl : lv_has ls 7 [(0, .ref b0), (1, .ref (G.1 + 0)), (2, .ref (G.1 + 271)), (3, .ref (G.1 + 290)), (4, .int x4)]) (kk : ∀ (H : Heap) (locs : List Loc) (ls : Array Slot), am_H G ww s H locs → lv_has ls 7 [(0, .ref b0), (1, .ref (G.1 + 0)), (2, .ref (G.1 + 271)), (3, .ref (G.1 + 290)), (4, .int x4)] → W p l e room_1 s m #[Value.ref b0] below meth c H locs cells slots Q (F0 m 1962 ls [])) : W p l e room_1 s m #[Value.ref b0] below meth c H locs cells slots Q (F0 m 341 ls []) := by
  unfold f_law_1 at hf
  refine lv_aload_n hx hb dL_law_341 rfl (lv_at hl 1 rfl) ?_
  refine lv_aload_n hx hb dL_law_342 rfl (lv_at hl 0 rfl) ?_
  refine lv_iload hx hb dL_law_343 (lv_at hl 4 rfl) ?_
  refine lv_iconst (v := 1) hx hb dL_law_345 (by decide) ?_
  refine lv_iadd hx hb dL_law_346 ?_
  obtain ⟨hi_1, hf⟩ := am_chk_some hf
  refine va_sld hx hb hXs hbl hbA hH.2 hi_1 dL_law_347 ?_
  obtain ⟨r_4, w_2, hq_3, hf⟩ := am_b2_some hf
  refine am_calli (r := r_4) (w' := w_2) (am_runV (n := 1) (As := [.int (xs (x4 + (1 : Int32)).toNatClampNeg)]) (rest := []) ⟨hx, hb, hml, hown, hts⟩ hK hE hH (k_X11_end hq_3) (am_gV am_q400 am_q401 am_q402 am_q1 am_q403) (am_o11 (p := 0) (by decide +kernel)) rfl ⟨rfl, rfl⟩ (by decide +kernel) ⟨Nat.le_of_ble_eq_true rfl, Nat.le_of_ble_eq_true rfl⟩ rfl hl.1 rfl (Nat.le_of_ble_eq_true rfl) hf0 dL_law_348) hH (fun H locs hH => ?_)
  refine lv_aload_n hx hb dL_law_351 rfl (lv_at hl 2 rfl) ?_
  refine lv_aload_n hx hb dL_law_352 rfl (lv_at hl 0 rfl) ?_
  refine lv_iload hx hb dL_law_353 (lv_at hl 4 rfl) ?_
  refine lv_iconst (v := 1) hx hb dL_law_355 (by decide) ?_
  refine lv_iadd hx hb dL_law_356 ?_
  obtain ⟨hi_5, hf⟩ := am_chk_some hf
  refine va_sld hx hb hXs hbl hbA hH.2 hi_5 dL_law_357 ?_
  obtain ⟨r_8, w_6, hq_7, hf⟩ := am_b2_some hf
  refine am_calli (r := r_8) (w' := w_6) (am_runV (n := 1) (As := [.int (xs (x4 + (1 : Int32)).toNatClampNeg)]) (rest := [.int r_4]) ⟨hx, hb, hml, hown, hts⟩ hK hE hH (k_X12_end hq_7) (am_gV am_q1421 am_q1422 am_q1423 am_q13 am_q1424) (am_o12 (p := 271) (by decide +kernel)) rfl ⟨rfl, rfl⟩ (by decide +kernel) ⟨Nat.le_of_ble_eq_true rfl, Nat.le_of_ble_eq_true rfl⟩ rfl hl.1 rfl (Nat.le_of_ble_eq_true rfl) hf0 dL_law_358) hH (fun H locs hH => ?_)
  refine lv_icmp_eq (tgt := 1962) hx hb dL_law_361 (by decide) (fun hc_9 => ?_) (fun hc_9 => ?_)
  · have hf := (if_pos hc_9).symm.trans hf
    obtain rfl := Option.some.inj hf
    exact kk H locs ls hH (lv_sub hl [0, 1, 2, 3, 4] rfl)
  · have hf := (if_neg hc_9).symm.trans hf
    refine lv_iconst (v := 0) hx hb dL_law_364 (by decide) ?_
    cases hf
def f_law_2 (Ls : Nat) (xs : Nat → Int32) (x4 : Int32) (w : am_S) : Option am_S :=
  am_chk (x4 + (1 : Int32)) Ls (am_b2 (f_X11_fault (xs (x4 + (1 : Int32)).toNatClampNeg) w) fun r_4 w_2 => am_chk (x4 + (1 : Int32)) Ls (am_b2 (f_X12_fault (xs (x4 + (1 : Int32)).toNatClampNeg) w_2) fun r_8 w_6 => if r_4 = r_8 then (some w_6) else none))
set_option maxRecDepth 100000 in
set_option maxHeartbeats 4000000 in
theorem k_law_2 {p : Program} {l : Launch} {e : Env} {s : State} {m : MethodId} {below : List Frame} {meth : Method} {c : Code} {Q : State → Prop} {cells slots b0 Ls : Nat} {xs : Nat → Int32} {x4 : Int32} {G : am_G} {w ww : am_S} {H : Heap} {locs : List Loc} {ls : Array Slot} (hx : p.tables.exec = Jvm.exec) (hb : c.code = cL_law) (hml : c.maxLocals = 7) (hown : s.vm.findClass RL = some m.cls) (hts : ∀ w ∈ am_T, w.before #[Value.ref b0] s = true) (hK : va_K G.2.2.1 vwCl (am_tys G) s) (hE : am_E G s s.heap) (hXs : va_X b0 Ls xs s s.heap) (hbl : b0 < s.heap.size) (hbA : ¬ G.1 ≤ b0) (hf0 : cells ≤ room_1.cells ∧ slots ≤ room_1.slots) (hf : f_law_2 Ls xs x4 w = some ww) (hH : am_H G w s H locs) (hl : lv_has ls 7 [(0, .ref b0), (1, .ref (G.1 + 0)), (2, .ref (G.1 + 271)), (3, .ref (G.1 + 290)), (4, .int x4)]) (kk : ∀ (H : Heap) (locs : List Loc) (ls : Array Slot), am_H G ww s H locs → lv_has ls 7 [(0, .ref b0), (1, .ref (G.1 + 0)), (2, .ref (G.1 + 271)), (3, .ref (G.1 + 290)), (4, .int x4)] → W p l e room_1 s m #[Value.ref b0] below meth c H locs cells slots Q (F0 m 1962 ls [])) : W p l e room_1 s m #[Value.ref b0] below meth c H locs cells slots Q (F0 m 366 ls []) := by
  unfold f_law_2 at hf
  refine lv_aload_n hx hb dL_law_366 rfl (lv_at hl 1 rfl) ?_
  refine lv_aload_n hx hb dL_law_367 rfl (lv_at hl 0 rfl) ?_
  refine lv_iload hx hb dL_law_368 (lv_at hl 4 rfl) ?_
  refine lv_iconst (v := 1) hx hb dL_law_370 (by decide) ?_
  refine lv_iadd hx hb dL_law_371 ?_
  obtain ⟨hi_1, hf⟩ := am_chk_some hf
  refine va_sld hx hb hXs hbl hbA hH.2 hi_1 dL_law_372 ?_
  obtain ⟨r_4, w_2, hq_3, hf⟩ := am_b2_some hf
  refine am_calli (r := r_4) (w' := w_2) (am_runV (n := 1) (As := [.int (xs (x4 + (1 : Int32)).toNatClampNeg)]) (rest := []) ⟨hx, hb, hml, hown, hts⟩ hK hE hH (k_X11_fault hq_3) (am_gV am_q404 am_q405 am_q406 am_q1 am_q407) (am_o11 (p := 0) (by decide +kernel)) rfl ⟨rfl, rfl⟩ (by decide +kernel) ⟨Nat.le_of_ble_eq_true rfl, Nat.le_of_ble_eq_true rfl⟩ rfl hl.1 rfl (Nat.le_of_ble_eq_true rfl) hf0 dL_law_373) hH (fun H locs hH => ?_)
  refine lv_aload_n hx hb dL_law_376 rfl (lv_at hl 2 rfl) ?_
  refine lv_aload_n hx hb dL_law_377 rfl (lv_at hl 0 rfl) ?_
  refine lv_iload hx hb dL_law_378 (lv_at hl 4 rfl) ?_
  refine lv_iconst (v := 1) hx hb dL_law_380 (by decide) ?_
  refine lv_iadd hx hb dL_law_381 ?_
  obtain ⟨hi_5, hf⟩ := am_chk_some hf
  refine va_sld hx hb hXs hbl hbA hH.2 hi_5 dL_law_382 ?_
  obtain ⟨r_8, w_6, hq_7, hf⟩ := am_b2_some hf
  refine am_calli (r := r_8) (w' := w_6) (am_runV (n := 1) (As := [.int (xs (x4 + (1 : Int32)).toNatClampNeg)]) (rest := [.int r_4]) ⟨hx, hb, hml, hown, hts⟩ hK hE hH (k_X12_fault hq_7) (am_gV am_q1428 am_q1429 am_q1430 am_q13 am_q1431) (am_o12 (p := 271) (by decide +kernel)) rfl ⟨rfl, rfl⟩ (by decide +kernel) ⟨Nat.le_of_ble_eq_true rfl, Nat.le_of_ble_eq_true rfl⟩ rfl hl.1 rfl (Nat.le_of_ble_eq_true rfl) hf0 dL_law_383) hH (fun H locs hH => ?_)
  refine lv_icmp_eq (tgt := 1962) hx hb dL_law_386 (by decide) (fun hc_9 => ?_) (fun hc_9 => ?_)
  · have hf := (if_pos hc_9).symm.trans hf
    obtain rfl := Option.some.inj hf
    exact kk H locs ls hH (lv_sub hl [0, 1, 2, 3, 4] rfl)
  · have hf := (if_neg hc_9).symm.trans hf
    refine lv_iconst (v := 0) hx hb dL_law_389 (by decide) ?_
    cases hf
def f_law_3 (Ls : Nat) (xs : Nat → Int32) (x4 : Int32) (w : am_S) : Option am_S :=
  am_chk (x4 + (1 : Int32)) Ls (am_b2 (f_X11_text (xs (x4 + (1 : Int32)).toNatClampNeg) w) fun r_4 w_2 => am_chk (x4 + (1 : Int32)) Ls (am_b2 (f_X12_text (xs (x4 + (1 : Int32)).toNatClampNeg) w_2) fun r_8 w_6 => if r_4 = r_8 then (some w_6) else none))
set_option maxRecDepth 100000 in
set_option maxHeartbeats 4000000 in
theorem k_law_3 {p : Program} {l : Launch} {e : Env} {s : State} {m : MethodId} {below : List Frame} {meth : Method} {c : Code} {Q : State → Prop} {cells slots b0 Ls : Nat} {xs : Nat → Int32} {x4 : Int32} {G : am_G} {w ww : am_S} {H : Heap} {locs : List Loc} {ls : Array Slot} (hx : p.tables.exec = Jvm.exec) (hb : c.code = cL_law) (hml : c.maxLocals = 7) (hown : s.vm.findClass RL = some m.cls) (hts : ∀ w ∈ am_T, w.before #[Value.ref b0] s = true) (hK : va_K G.2.2.1 vwCl (am_tys G) s) (hE : am_E G s s.heap) (hXs : va_X b0 Ls xs s s.heap) (hbl : b0 < s.heap.size) (hbA : ¬ G.1 ≤ b0) (hf0 : cells ≤ room_1.cells ∧ slots ≤ room_1.slots) (hf : f_law_3 Ls xs x4 w = some ww) (hH : am_H G w s H locs) (hl : lv_has ls 7 [(0, .ref b0), (1, .ref (G.1 + 0)), (2, .ref (G.1 + 271)), (3, .ref (G.1 + 290)), (4, .int x4)]) (kk : ∀ (H : Heap) (locs : List Loc) (ls : Array Slot), am_H G ww s H locs → lv_has ls 7 [(0, .ref b0), (1, .ref (G.1 + 0)), (2, .ref (G.1 + 271)), (3, .ref (G.1 + 290)), (4, .int x4)] → W p l e room_1 s m #[Value.ref b0] below meth c H locs cells slots Q (F0 m 1962 ls [])) : W p l e room_1 s m #[Value.ref b0] below meth c H locs cells slots Q (F0 m 391 ls []) := by
  unfold f_law_3 at hf
  refine lv_aload_n hx hb dL_law_391 rfl (lv_at hl 1 rfl) ?_
  refine lv_aload_n hx hb dL_law_392 rfl (lv_at hl 0 rfl) ?_
  refine lv_iload hx hb dL_law_393 (lv_at hl 4 rfl) ?_
  refine lv_iconst (v := 1) hx hb dL_law_395 (by decide) ?_
  refine lv_iadd hx hb dL_law_396 ?_
  obtain ⟨hi_1, hf⟩ := am_chk_some hf
  refine va_sld hx hb hXs hbl hbA hH.2 hi_1 dL_law_397 ?_
  obtain ⟨r_4, w_2, hq_3, hf⟩ := am_b2_some hf
  refine am_calli (r := r_4) (w' := w_2) (am_runV (n := 1) (As := [.int (xs (x4 + (1 : Int32)).toNatClampNeg)]) (rest := []) ⟨hx, hb, hml, hown, hts⟩ hK hE hH (k_X11_text hq_3) (am_gV am_q584 am_q585 am_q586 am_q1 am_q587) (am_o11 (p := 0) (by decide +kernel)) rfl ⟨rfl, rfl⟩ (by decide +kernel) ⟨Nat.le_of_ble_eq_true rfl, Nat.le_of_ble_eq_true rfl⟩ rfl hl.1 rfl (Nat.le_of_ble_eq_true rfl) hf0 dL_law_398) hH (fun H locs hH => ?_)
  refine lv_aload_n hx hb dL_law_401 rfl (lv_at hl 2 rfl) ?_
  refine lv_aload_n hx hb dL_law_402 rfl (lv_at hl 0 rfl) ?_
  refine lv_iload hx hb dL_law_403 (lv_at hl 4 rfl) ?_
  refine lv_iconst (v := 1) hx hb dL_law_405 (by decide) ?_
  refine lv_iadd hx hb dL_law_406 ?_
  obtain ⟨hi_5, hf⟩ := am_chk_some hf
  refine va_sld hx hb hXs hbl hbA hH.2 hi_5 dL_law_407 ?_
  obtain ⟨r_8, w_6, hq_7, hf⟩ := am_b2_some hf
  refine am_calli (r := r_8) (w' := w_6) (am_runV (n := 1) (As := [.int (xs (x4 + (1 : Int32)).toNatClampNeg)]) (rest := [.int r_4]) ⟨hx, hb, hml, hown, hts⟩ hK hE hH (k_X12_text hq_7) (am_gV am_q1489 am_q1490 am_q1491 am_q13 am_q1492) (am_o12 (p := 271) (by decide +kernel)) rfl ⟨rfl, rfl⟩ (by decide +kernel) ⟨Nat.le_of_ble_eq_true rfl, Nat.le_of_ble_eq_true rfl⟩ rfl hl.1 rfl (Nat.le_of_ble_eq_true rfl) hf0 dL_law_408) hH (fun H locs hH => ?_)
  refine lv_icmp_eq (tgt := 1962) hx hb dL_law_411 (by decide) (fun hc_9 => ?_) (fun hc_9 => ?_)
  · have hf := (if_pos hc_9).symm.trans hf
    obtain rfl := Option.some.inj hf
    exact kk H locs ls hH (lv_sub hl [0, 1, 2, 3, 4] rfl)
  · have hf := (if_neg hc_9).symm.trans hf
    refine lv_iconst (v := 0) hx hb dL_law_414 (by decide) ?_
    cases hf
def f_law_4 (Ls : Nat) (xs : Nat → Int32) (x4 : Int32) (w : am_S) : Option am_S :=
  am_chk (x4 + (1 : Int32)) Ls (am_b2 (f_X11_rule (xs (x4 + (1 : Int32)).toNatClampNeg) w) fun r_4 w_2 => am_chk (x4 + (1 : Int32)) Ls (am_b2 (f_X12_rule (xs (x4 + (1 : Int32)).toNatClampNeg) w_2) fun r_8 w_6 => if r_4 = r_8 then (some w_6) else none))
set_option maxRecDepth 100000 in
set_option maxHeartbeats 4000000 in
theorem k_law_4 {p : Program} {l : Launch} {e : Env} {s : State} {m : MethodId} {below : List Frame} {meth : Method} {c : Code} {Q : State → Prop} {cells slots b0 Ls : Nat} {xs : Nat → Int32} {x4 : Int32} {G : am_G} {w ww : am_S} {H : Heap} {locs : List Loc} {ls : Array Slot} (hx : p.tables.exec = Jvm.exec) (hb : c.code = cL_law) (hml : c.maxLocals = 7) (hown : s.vm.findClass RL = some m.cls) (hts : ∀ w ∈ am_T, w.before #[Value.ref b0] s = true) (hK : va_K G.2.2.1 vwCl (am_tys G) s) (hE : am_E G s s.heap) (hXs : va_X b0 Ls xs s s.heap) (hbl : b0 < s.heap.size) (hbA : ¬ G.1 ≤ b0) (hf0 : cells ≤ room_1.cells ∧ slots ≤ room_1.slots) (hf : f_law_4 Ls xs x4 w = some ww) (hH : am_H G w s H locs) (hl : lv_has ls 7 [(0, .ref b0), (1, .ref (G.1 + 0)), (2, .ref (G.1 + 271)), (3, .ref (G.1 + 290)), (4, .int x4)]) (kk : ∀ (H : Heap) (locs : List Loc) (ls : Array Slot), am_H G ww s H locs → lv_has ls 7 [(0, .ref b0), (1, .ref (G.1 + 0)), (2, .ref (G.1 + 271)), (3, .ref (G.1 + 290)), (4, .int x4)] → W p l e room_1 s m #[Value.ref b0] below meth c H locs cells slots Q (F0 m 1962 ls [])) : W p l e room_1 s m #[Value.ref b0] below meth c H locs cells slots Q (F0 m 416 ls []) := by
  unfold f_law_4 at hf
  refine lv_aload_n hx hb dL_law_416 rfl (lv_at hl 1 rfl) ?_
  refine lv_aload_n hx hb dL_law_417 rfl (lv_at hl 0 rfl) ?_
  refine lv_iload hx hb dL_law_418 (lv_at hl 4 rfl) ?_
  refine lv_iconst (v := 1) hx hb dL_law_420 (by decide) ?_
  refine lv_iadd hx hb dL_law_421 ?_
  obtain ⟨hi_1, hf⟩ := am_chk_some hf
  refine va_sld hx hb hXs hbl hbA hH.2 hi_1 dL_law_422 ?_
  obtain ⟨r_4, w_2, hq_3, hf⟩ := am_b2_some hf
  refine am_calli (r := r_4) (w' := w_2) (am_runV (n := 1) (As := [.int (xs (x4 + (1 : Int32)).toNatClampNeg)]) (rest := []) ⟨hx, hb, hml, hown, hts⟩ hK hE hH (k_X11_rule hq_3) (am_gV am_q621 am_q622 am_q623 am_q1 am_q624) (am_o11 (p := 0) (by decide +kernel)) rfl ⟨rfl, rfl⟩ (by decide +kernel) ⟨Nat.le_of_ble_eq_true rfl, Nat.le_of_ble_eq_true rfl⟩ rfl hl.1 rfl (Nat.le_of_ble_eq_true rfl) hf0 dL_law_423) hH (fun H locs hH => ?_)
  refine lv_aload_n hx hb dL_law_426 rfl (lv_at hl 2 rfl) ?_
  refine lv_aload_n hx hb dL_law_427 rfl (lv_at hl 0 rfl) ?_
  refine lv_iload hx hb dL_law_428 (lv_at hl 4 rfl) ?_
  refine lv_iconst (v := 1) hx hb dL_law_430 (by decide) ?_
  refine lv_iadd hx hb dL_law_431 ?_
  obtain ⟨hi_5, hf⟩ := am_chk_some hf
  refine va_sld hx hb hXs hbl hbA hH.2 hi_5 dL_law_432 ?_
  obtain ⟨r_8, w_6, hq_7, hf⟩ := am_b2_some hf
  refine am_calli (r := r_8) (w' := w_6) (am_runV (n := 1) (As := [.int (xs (x4 + (1 : Int32)).toNatClampNeg)]) (rest := [.int r_4]) ⟨hx, hb, hml, hown, hts⟩ hK hE hH (k_X12_rule hq_7) (am_gV am_q1724 am_q1725 am_q1726 am_q13 am_q1727) (am_o12 (p := 271) (by decide +kernel)) rfl ⟨rfl, rfl⟩ (by decide +kernel) ⟨Nat.le_of_ble_eq_true rfl, Nat.le_of_ble_eq_true rfl⟩ rfl hl.1 rfl (Nat.le_of_ble_eq_true rfl) hf0 dL_law_433) hH (fun H locs hH => ?_)
  refine lv_icmp_eq (tgt := 1962) hx hb dL_law_436 (by decide) (fun hc_9 => ?_) (fun hc_9 => ?_)
  · have hf := (if_pos hc_9).symm.trans hf
    obtain rfl := Option.some.inj hf
    exact kk H locs ls hH (lv_sub hl [0, 1, 2, 3, 4] rfl)
  · have hf := (if_neg hc_9).symm.trans hf
    refine lv_iconst (v := 0) hx hb dL_law_439 (by decide) ?_
    cases hf
def f_law_5 (Ls : Nat) (xs : Nat → Int32) (x4 : Int32) (w : am_S) : Option am_S :=
  am_chk (x4 + (1 : Int32)) Ls (am_b2 (f_X11_weight (xs (x4 + (1 : Int32)).toNatClampNeg) w) fun r_4 w_2 => am_chk (x4 + (1 : Int32)) Ls (am_b2 (f_X12_weight (xs (x4 + (1 : Int32)).toNatClampNeg) w_2) fun r_8 w_6 => if r_4 = r_8 then (some w_6) else none))
set_option maxRecDepth 100000 in
set_option maxHeartbeats 4000000 in
theorem k_law_5 {p : Program} {l : Launch} {e : Env} {s : State} {m : MethodId} {below : List Frame} {meth : Method} {c : Code} {Q : State → Prop} {cells slots b0 Ls : Nat} {xs : Nat → Int32} {x4 : Int32} {G : am_G} {w ww : am_S} {H : Heap} {locs : List Loc} {ls : Array Slot} (hx : p.tables.exec = Jvm.exec) (hb : c.code = cL_law) (hml : c.maxLocals = 7) (hown : s.vm.findClass RL = some m.cls) (hts : ∀ w ∈ am_T, w.before #[Value.ref b0] s = true) (hK : va_K G.2.2.1 vwCl (am_tys G) s) (hE : am_E G s s.heap) (hXs : va_X b0 Ls xs s s.heap) (hbl : b0 < s.heap.size) (hbA : ¬ G.1 ≤ b0) (hf0 : cells ≤ room_1.cells ∧ slots ≤ room_1.slots) (hf : f_law_5 Ls xs x4 w = some ww) (hH : am_H G w s H locs) (hl : lv_has ls 7 [(0, .ref b0), (1, .ref (G.1 + 0)), (2, .ref (G.1 + 271)), (3, .ref (G.1 + 290)), (4, .int x4)]) (kk : ∀ (H : Heap) (locs : List Loc) (ls : Array Slot), am_H G ww s H locs → lv_has ls 7 [(0, .ref b0), (1, .ref (G.1 + 0)), (2, .ref (G.1 + 271)), (3, .ref (G.1 + 290)), (4, .int x4)] → W p l e room_1 s m #[Value.ref b0] below meth c H locs cells slots Q (F0 m 1962 ls [])) : W p l e room_1 s m #[Value.ref b0] below meth c H locs cells slots Q (F0 m 441 ls []) := by
  unfold f_law_5 at hf
  refine lv_aload_n hx hb dL_law_441 rfl (lv_at hl 1 rfl) ?_
  refine lv_aload_n hx hb dL_law_442 rfl (lv_at hl 0 rfl) ?_
  refine lv_iload hx hb dL_law_443 (lv_at hl 4 rfl) ?_
  refine lv_iconst (v := 1) hx hb dL_law_445 (by decide) ?_
  refine lv_iadd hx hb dL_law_446 ?_
  obtain ⟨hi_1, hf⟩ := am_chk_some hf
  refine va_sld hx hb hXs hbl hbA hH.2 hi_1 dL_law_447 ?_
  obtain ⟨r_4, w_2, hq_3, hf⟩ := am_b2_some hf
  refine am_calli (r := r_4) (w' := w_2) (am_runV (n := 1) (As := [.int (xs (x4 + (1 : Int32)).toNatClampNeg)]) (rest := []) ⟨hx, hb, hml, hown, hts⟩ hK hE hH (k_X11_weight hq_3) (am_gV am_q633 am_q634 am_q635 am_q1 am_q636) (am_o11 (p := 0) (by decide +kernel)) rfl ⟨rfl, rfl⟩ (by decide +kernel) ⟨Nat.le_of_ble_eq_true rfl, Nat.le_of_ble_eq_true rfl⟩ rfl hl.1 rfl (Nat.le_of_ble_eq_true rfl) hf0 dL_law_448) hH (fun H locs hH => ?_)
  refine lv_aload_n hx hb dL_law_451 rfl (lv_at hl 2 rfl) ?_
  refine lv_aload_n hx hb dL_law_452 rfl (lv_at hl 0 rfl) ?_
  refine lv_iload hx hb dL_law_453 (lv_at hl 4 rfl) ?_
  refine lv_iconst (v := 1) hx hb dL_law_455 (by decide) ?_
  refine lv_iadd hx hb dL_law_456 ?_
  obtain ⟨hi_5, hf⟩ := am_chk_some hf
  refine va_sld hx hb hXs hbl hbA hH.2 hi_5 dL_law_457 ?_
  obtain ⟨r_8, w_6, hq_7, hf⟩ := am_b2_some hf
  refine am_calli (r := r_8) (w' := w_6) (am_runV (n := 1) (As := [.int (xs (x4 + (1 : Int32)).toNatClampNeg)]) (rest := [.int r_4]) ⟨hx, hb, hml, hown, hts⟩ hK hE hH (k_X12_weight hq_7) (am_gV am_q1728 am_q1729 am_q1730 am_q13 am_q1731) (am_o12 (p := 271) (by decide +kernel)) rfl ⟨rfl, rfl⟩ (by decide +kernel) ⟨Nat.le_of_ble_eq_true rfl, Nat.le_of_ble_eq_true rfl⟩ rfl hl.1 rfl (Nat.le_of_ble_eq_true rfl) hf0 dL_law_458) hH (fun H locs hH => ?_)
  refine lv_icmp_eq (tgt := 1962) hx hb dL_law_461 (by decide) (fun hc_9 => ?_) (fun hc_9 => ?_)
  · have hf := (if_pos hc_9).symm.trans hf
    obtain rfl := Option.some.inj hf
    exact kk H locs ls hH (lv_sub hl [0, 1, 2, 3, 4] rfl)
  · have hf := (if_neg hc_9).symm.trans hf
    refine lv_iconst (v := 0) hx hb dL_law_464 (by decide) ?_
    cases hf
def f_law_7 (Ls : Nat) (xs : Nat → Int32) (x4 : Int32) (w : am_S) : Option am_S :=
  am_chk (x4 + (1 : Int32)) Ls (am_b2 (f_X11_copies (xs (x4 + (1 : Int32)).toNatClampNeg) w) fun r_4 w_2 => am_chk (x4 + (1 : Int32)) Ls (am_b2 (f_X12_copies (xs (x4 + (1 : Int32)).toNatClampNeg) w_2) fun r_8 w_6 => if (lg_cmp r_4 r_8) = 0 then (some w_6) else none))
set_option maxRecDepth 100000 in
set_option maxHeartbeats 4000000 in
theorem k_law_7 {p : Program} {l : Launch} {e : Env} {s : State} {m : MethodId} {below : List Frame} {meth : Method} {c : Code} {Q : State → Prop} {cells slots b0 Ls : Nat} {xs : Nat → Int32} {x4 : Int32} {G : am_G} {w ww : am_S} {H : Heap} {locs : List Loc} {ls : Array Slot} (hx : p.tables.exec = Jvm.exec) (hb : c.code = cL_law) (hml : c.maxLocals = 7) (hown : s.vm.findClass RL = some m.cls) (hts : ∀ w ∈ am_T, w.before #[Value.ref b0] s = true) (hK : va_K G.2.2.1 vwCl (am_tys G) s) (hE : am_E G s s.heap) (hXs : va_X b0 Ls xs s s.heap) (hbl : b0 < s.heap.size) (hbA : ¬ G.1 ≤ b0) (hf0 : cells ≤ room_1.cells ∧ slots ≤ room_1.slots) (hf : f_law_7 Ls xs x4 w = some ww) (hH : am_H G w s H locs) (hl : lv_has ls 7 [(0, .ref b0), (1, .ref (G.1 + 0)), (2, .ref (G.1 + 271)), (3, .ref (G.1 + 290)), (4, .int x4)]) (kk : ∀ (H : Heap) (locs : List Loc) (ls : Array Slot), am_H G ww s H locs → lv_has ls 7 [(0, .ref b0), (1, .ref (G.1 + 0)), (2, .ref (G.1 + 271)), (3, .ref (G.1 + 290)), (4, .int x4)] → W p l e room_1 s m #[Value.ref b0] below meth c H locs cells slots Q (F0 m 1962 ls [])) : W p l e room_1 s m #[Value.ref b0] below meth c H locs cells slots Q (F0 m 534 ls []) := by
  unfold f_law_7 at hf
  refine lv_aload_n hx hb dL_law_534 rfl (lv_at hl 1 rfl) ?_
  refine lv_aload_n hx hb dL_law_535 rfl (lv_at hl 0 rfl) ?_
  refine lv_iload hx hb dL_law_536 (lv_at hl 4 rfl) ?_
  refine lv_iconst (v := 1) hx hb dL_law_538 (by decide) ?_
  refine lv_iadd hx hb dL_law_539 ?_
  obtain ⟨hi_1, hf⟩ := am_chk_some hf
  refine va_sld hx hb hXs hbl hbA hH.2 hi_1 dL_law_540 ?_
  obtain ⟨r_4, w_2, hq_3, hf⟩ := am_b2_some hf
  refine am_calll (r := r_4) (w' := w_2) (am_runV (n := 1) (As := [.int (xs (x4 + (1 : Int32)).toNatClampNeg)]) (rest := []) ⟨hx, hb, hml, hown, hts⟩ hK hE hH (k_X11_copies hq_3) (am_gV am_q637 am_q638 am_q639 am_q1 am_q640) (am_o11 (p := 0) (by decide +kernel)) rfl ⟨rfl, rfl⟩ (by decide +kernel) ⟨Nat.le_of_ble_eq_true rfl, Nat.le_of_ble_eq_true rfl⟩ rfl hl.1 rfl (Nat.le_of_ble_eq_true rfl) hf0 dL_law_541) hH (fun H locs hH => ?_)
  refine lv_aload_n hx hb dL_law_544 rfl (lv_at hl 2 rfl) ?_
  refine lv_aload_n hx hb dL_law_545 rfl (lv_at hl 0 rfl) ?_
  refine lv_iload hx hb dL_law_546 (lv_at hl 4 rfl) ?_
  refine lv_iconst (v := 1) hx hb dL_law_548 (by decide) ?_
  refine lv_iadd hx hb dL_law_549 ?_
  obtain ⟨hi_5, hf⟩ := am_chk_some hf
  refine va_sld hx hb hXs hbl hbA hH.2 hi_5 dL_law_550 ?_
  obtain ⟨r_8, w_6, hq_7, hf⟩ := am_b2_some hf
  refine am_calll (r := r_8) (w' := w_6) (am_runV (n := 1) (As := [.int (xs (x4 + (1 : Int32)).toNatClampNeg)]) (rest := [.long r_4]) ⟨hx, hb, hml, hown, hts⟩ hK hE hH (k_X12_copies hq_7) (am_gV am_q1748 am_q1749 am_q1750 am_q13 am_q1751) (am_o12 (p := 271) (by decide +kernel)) rfl ⟨rfl, rfl⟩ (by decide +kernel) ⟨Nat.le_of_ble_eq_true rfl, Nat.le_of_ble_eq_true rfl⟩ rfl hl.1 rfl (Nat.le_of_ble_eq_true rfl) hf0 dL_law_551) hH (fun H locs hH => ?_)
  refine W.lcmp hx hb dL_law_554 ?_
  refine lv_if_eq (tgt := 1962) hx hb dL_law_555 (by decide) (fun hc_9 => ?_) (fun hc_9 => ?_)
  · have hf := (if_pos hc_9).symm.trans hf
    obtain rfl := Option.some.inj hf
    exact kk H locs ls hH (lv_sub hl [0, 1, 2, 3, 4] rfl)
  · have hf := (if_neg hc_9).symm.trans hf
    refine lv_iconst (v := 0) hx hb dL_law_558 (by decide) ?_
    cases hf
def f_law_8 (Ls : Nat) (xs : Nat → Int32) (x4 : Int32) (w : am_S) : Option am_S :=
  am_chk (x4 + (1 : Int32)) Ls (am_b2 (f_X11_strength (xs (x4 + (1 : Int32)).toNatClampNeg) w) fun r_4 w_2 => am_chk (x4 + (1 : Int32)) Ls (am_b2 (f_X12_strength (xs (x4 + (1 : Int32)).toNatClampNeg) w_2) fun r_8 w_6 => if r_4 = r_8 then (some w_6) else none))
set_option maxRecDepth 100000 in
set_option maxHeartbeats 4000000 in
theorem k_law_8 {p : Program} {l : Launch} {e : Env} {s : State} {m : MethodId} {below : List Frame} {meth : Method} {c : Code} {Q : State → Prop} {cells slots b0 Ls : Nat} {xs : Nat → Int32} {x4 : Int32} {G : am_G} {w ww : am_S} {H : Heap} {locs : List Loc} {ls : Array Slot} (hx : p.tables.exec = Jvm.exec) (hb : c.code = cL_law) (hml : c.maxLocals = 7) (hown : s.vm.findClass RL = some m.cls) (hts : ∀ w ∈ am_T, w.before #[Value.ref b0] s = true) (hK : va_K G.2.2.1 vwCl (am_tys G) s) (hE : am_E G s s.heap) (hXs : va_X b0 Ls xs s s.heap) (hbl : b0 < s.heap.size) (hbA : ¬ G.1 ≤ b0) (hf0 : cells ≤ room_1.cells ∧ slots ≤ room_1.slots) (hf : f_law_8 Ls xs x4 w = some ww) (hH : am_H G w s H locs) (hl : lv_has ls 7 [(0, .ref b0), (1, .ref (G.1 + 0)), (2, .ref (G.1 + 271)), (3, .ref (G.1 + 290)), (4, .int x4)]) (kk : ∀ (H : Heap) (locs : List Loc) (ls : Array Slot), am_H G ww s H locs → lv_has ls 7 [(0, .ref b0), (1, .ref (G.1 + 0)), (2, .ref (G.1 + 271)), (3, .ref (G.1 + 290)), (4, .int x4)] → W p l e room_1 s m #[Value.ref b0] below meth c H locs cells slots Q (F0 m 1962 ls [])) : W p l e room_1 s m #[Value.ref b0] below meth c H locs cells slots Q (F0 m 560 ls []) := by
  unfold f_law_8 at hf
  refine lv_aload_n hx hb dL_law_560 rfl (lv_at hl 1 rfl) ?_
  refine lv_aload_n hx hb dL_law_561 rfl (lv_at hl 0 rfl) ?_
  refine lv_iload hx hb dL_law_562 (lv_at hl 4 rfl) ?_
  refine lv_iconst (v := 1) hx hb dL_law_564 (by decide) ?_
  refine lv_iadd hx hb dL_law_565 ?_
  obtain ⟨hi_1, hf⟩ := am_chk_some hf
  refine va_sld hx hb hXs hbl hbA hH.2 hi_1 dL_law_566 ?_
  obtain ⟨r_4, w_2, hq_3, hf⟩ := am_b2_some hf
  refine am_calli (r := r_4) (w' := w_2) (am_runV (n := 1) (As := [.int (xs (x4 + (1 : Int32)).toNatClampNeg)]) (rest := []) ⟨hx, hb, hml, hown, hts⟩ hK hE hH (k_X11_strength hq_3) (am_gV am_q645 am_q646 am_q647 am_q1 am_q648) (am_o11 (p := 0) (by decide +kernel)) rfl ⟨rfl, rfl⟩ (by decide +kernel) ⟨Nat.le_of_ble_eq_true rfl, Nat.le_of_ble_eq_true rfl⟩ rfl hl.1 rfl (Nat.le_of_ble_eq_true rfl) hf0 dL_law_567) hH (fun H locs hH => ?_)
  refine lv_aload_n hx hb dL_law_570 rfl (lv_at hl 2 rfl) ?_
  refine lv_aload_n hx hb dL_law_571 rfl (lv_at hl 0 rfl) ?_
  refine lv_iload hx hb dL_law_572 (lv_at hl 4 rfl) ?_
  refine lv_iconst (v := 1) hx hb dL_law_574 (by decide) ?_
  refine lv_iadd hx hb dL_law_575 ?_
  obtain ⟨hi_5, hf⟩ := am_chk_some hf
  refine va_sld hx hb hXs hbl hbA hH.2 hi_5 dL_law_576 ?_
  obtain ⟨r_8, w_6, hq_7, hf⟩ := am_b2_some hf
  refine am_calli (r := r_8) (w' := w_6) (am_runV (n := 1) (As := [.int (xs (x4 + (1 : Int32)).toNatClampNeg)]) (rest := [.int r_4]) ⟨hx, hb, hml, hown, hts⟩ hK hE hH (k_X12_strength hq_7) (am_gV am_q1752 am_q1753 am_q1754 am_q13 am_q1755) (am_o12 (p := 271) (by decide +kernel)) rfl ⟨rfl, rfl⟩ (by decide +kernel) ⟨Nat.le_of_ble_eq_true rfl, Nat.le_of_ble_eq_true rfl⟩ rfl hl.1 rfl (Nat.le_of_ble_eq_true rfl) hf0 dL_law_577) hH (fun H locs hH => ?_)
  refine lv_icmp_eq (tgt := 1962) hx hb dL_law_580 (by decide) (fun hc_9 => ?_) (fun hc_9 => ?_)
  · have hf := (if_pos hc_9).symm.trans hf
    obtain rfl := Option.some.inj hf
    exact kk H locs ls hH (lv_sub hl [0, 1, 2, 3, 4] rfl)
  · have hf := (if_neg hc_9).symm.trans hf
    refine lv_iconst (v := 0) hx hb dL_law_583 (by decide) ?_
    cases hf
def f_law_9 (Ls : Nat) (xs : Nat → Int32) (x4 : Int32) (w : am_S) : Option am_S :=
  am_chk (x4 + (1 : Int32)) Ls (am_chk (x4 + (2 : Int32)) Ls (am_b2 (f_X11_din (xs (x4 + (1 : Int32)).toNatClampNeg) (xs (x4 + (2 : Int32)).toNatClampNeg) w) fun r_5 w_3 => am_chk (x4 + (1 : Int32)) Ls (am_chk (x4 + (2 : Int32)) Ls (am_b2 (f_X12_din (xs (x4 + (1 : Int32)).toNatClampNeg) (xs (x4 + (2 : Int32)).toNatClampNeg) w_3) fun r_10 w_8 => if r_5 = r_10 then (some w_8) else none))))
set_option maxRecDepth 100000 in
set_option maxHeartbeats 4000000 in
theorem k_law_9 {p : Program} {l : Launch} {e : Env} {s : State} {m : MethodId} {below : List Frame} {meth : Method} {c : Code} {Q : State → Prop} {cells slots b0 Ls : Nat} {xs : Nat → Int32} {x4 : Int32} {G : am_G} {w ww : am_S} {H : Heap} {locs : List Loc} {ls : Array Slot} (hx : p.tables.exec = Jvm.exec) (hb : c.code = cL_law) (hml : c.maxLocals = 7) (hown : s.vm.findClass RL = some m.cls) (hts : ∀ w ∈ am_T, w.before #[Value.ref b0] s = true) (hK : va_K G.2.2.1 vwCl (am_tys G) s) (hE : am_E G s s.heap) (hXs : va_X b0 Ls xs s s.heap) (hbl : b0 < s.heap.size) (hbA : ¬ G.1 ≤ b0) (hf0 : cells ≤ room_1.cells ∧ slots ≤ room_1.slots) (hf : f_law_9 Ls xs x4 w = some ww) (hH : am_H G w s H locs) (hl : lv_has ls 7 [(0, .ref b0), (1, .ref (G.1 + 0)), (2, .ref (G.1 + 271)), (3, .ref (G.1 + 290)), (4, .int x4)]) (kk : ∀ (H : Heap) (locs : List Loc) (ls : Array Slot), am_H G ww s H locs → lv_has ls 7 [(0, .ref b0), (1, .ref (G.1 + 0)), (2, .ref (G.1 + 271)), (3, .ref (G.1 + 290)), (4, .int x4)] → W p l e room_1 s m #[Value.ref b0] below meth c H locs cells slots Q (F0 m 1962 ls [])) : W p l e room_1 s m #[Value.ref b0] below meth c H locs cells slots Q (F0 m 585 ls []) := by
  unfold f_law_9 at hf
  refine lv_aload_n hx hb dL_law_585 rfl (lv_at hl 1 rfl) ?_
  refine lv_aload_n hx hb dL_law_586 rfl (lv_at hl 0 rfl) ?_
  refine lv_iload hx hb dL_law_587 (lv_at hl 4 rfl) ?_
  refine lv_iconst (v := 1) hx hb dL_law_589 (by decide) ?_
  refine lv_iadd hx hb dL_law_590 ?_
  obtain ⟨hi_1, hf⟩ := am_chk_some hf
  refine va_sld hx hb hXs hbl hbA hH.2 hi_1 dL_law_591 ?_
  refine lv_aload_n hx hb dL_law_592 rfl (lv_at hl 0 rfl) ?_
  refine lv_iload hx hb dL_law_593 (lv_at hl 4 rfl) ?_
  refine lv_iconst (v := 2) hx hb dL_law_595 (by decide) ?_
  refine lv_iadd hx hb dL_law_596 ?_
  obtain ⟨hi_2, hf⟩ := am_chk_some hf
  refine va_sld hx hb hXs hbl hbA hH.2 hi_2 dL_law_597 ?_
  obtain ⟨r_5, w_3, hq_4, hf⟩ := am_b2_some hf
  refine am_calli (r := r_5) (w' := w_3) (am_runV (n := 2) (As := [.int (xs (x4 + (1 : Int32)).toNatClampNeg), .int (xs (x4 + (2 : Int32)).toNatClampNeg)]) (rest := []) ⟨hx, hb, hml, hown, hts⟩ hK hE hH (k_X11_din hq_4) (am_gV am_q654 am_q655 am_q656 am_q1 am_q657) (am_o11 (p := 0) (by decide +kernel)) rfl ⟨rfl, rfl⟩ (by decide +kernel) ⟨Nat.le_of_ble_eq_true rfl, Nat.le_of_ble_eq_true rfl⟩ rfl hl.1 rfl (Nat.le_of_ble_eq_true rfl) hf0 dL_law_598) hH (fun H locs hH => ?_)
  refine lv_aload_n hx hb dL_law_601 rfl (lv_at hl 2 rfl) ?_
  refine lv_aload_n hx hb dL_law_602 rfl (lv_at hl 0 rfl) ?_
  refine lv_iload hx hb dL_law_603 (lv_at hl 4 rfl) ?_
  refine lv_iconst (v := 1) hx hb dL_law_605 (by decide) ?_
  refine lv_iadd hx hb dL_law_606 ?_
  obtain ⟨hi_6, hf⟩ := am_chk_some hf
  refine va_sld hx hb hXs hbl hbA hH.2 hi_6 dL_law_607 ?_
  refine lv_aload_n hx hb dL_law_608 rfl (lv_at hl 0 rfl) ?_
  refine lv_iload hx hb dL_law_609 (lv_at hl 4 rfl) ?_
  refine lv_iconst (v := 2) hx hb dL_law_611 (by decide) ?_
  refine lv_iadd hx hb dL_law_612 ?_
  obtain ⟨hi_7, hf⟩ := am_chk_some hf
  refine va_sld hx hb hXs hbl hbA hH.2 hi_7 dL_law_613 ?_
  obtain ⟨r_10, w_8, hq_9, hf⟩ := am_b2_some hf
  refine am_calli (r := r_10) (w' := w_8) (am_runV (n := 2) (As := [.int (xs (x4 + (1 : Int32)).toNatClampNeg), .int (xs (x4 + (2 : Int32)).toNatClampNeg)]) (rest := [.int r_5]) ⟨hx, hb, hml, hown, hts⟩ hK hE hH (k_X12_din hq_9) (am_gV am_q1766 am_q1767 am_q1768 am_q13 am_q1769) (am_o12 (p := 271) (by decide +kernel)) rfl ⟨rfl, rfl⟩ (by decide +kernel) ⟨Nat.le_of_ble_eq_true rfl, Nat.le_of_ble_eq_true rfl⟩ rfl hl.1 rfl (Nat.le_of_ble_eq_true rfl) hf0 dL_law_614) hH (fun H locs hH => ?_)
  refine lv_icmp_eq (tgt := 1962) hx hb dL_law_617 (by decide) (fun hc_11 => ?_) (fun hc_11 => ?_)
  · have hf := (if_pos hc_11).symm.trans hf
    obtain rfl := Option.some.inj hf
    exact kk H locs ls hH (lv_sub hl [0, 1, 2, 3, 4] rfl)
  · have hf := (if_neg hc_11).symm.trans hf
    refine lv_iconst (v := 0) hx hb dL_law_620 (by decide) ?_
    cases hf
def f_law_10 (Ls : Nat) (xs : Nat → Int32) (x4 : Int32) (w : am_S) : Option am_S :=
  am_chk (x4 + (1 : Int32)) Ls (am_chk (x4 + (2 : Int32)) Ls (am_b2 (f_X11_margin (xs (x4 + (1 : Int32)).toNatClampNeg) (xs (x4 + (2 : Int32)).toNatClampNeg) w) fun r_5 w_3 => am_chk (x4 + (1 : Int32)) Ls (am_chk (x4 + (2 : Int32)) Ls (am_b2 (f_X12_margin (xs (x4 + (1 : Int32)).toNatClampNeg) (xs (x4 + (2 : Int32)).toNatClampNeg) w_3) fun r_10 w_8 => if r_5 = r_10 then (some w_8) else none))))
set_option maxRecDepth 100000 in
set_option maxHeartbeats 4000000 in
theorem k_law_10 {p : Program} {l : Launch} {e : Env} {s : State} {m : MethodId} {below : List Frame} {meth : Method} {c : Code} {Q : State → Prop} {cells slots b0 Ls : Nat} {xs : Nat → Int32} {x4 : Int32} {G : am_G} {w ww : am_S} {H : Heap} {locs : List Loc} {ls : Array Slot} (hx : p.tables.exec = Jvm.exec) (hb : c.code = cL_law) (hml : c.maxLocals = 7) (hown : s.vm.findClass RL = some m.cls) (hts : ∀ w ∈ am_T, w.before #[Value.ref b0] s = true) (hK : va_K G.2.2.1 vwCl (am_tys G) s) (hE : am_E G s s.heap) (hXs : va_X b0 Ls xs s s.heap) (hbl : b0 < s.heap.size) (hbA : ¬ G.1 ≤ b0) (hf0 : cells ≤ room_1.cells ∧ slots ≤ room_1.slots) (hf : f_law_10 Ls xs x4 w = some ww) (hH : am_H G w s H locs) (hl : lv_has ls 7 [(0, .ref b0), (1, .ref (G.1 + 0)), (2, .ref (G.1 + 271)), (3, .ref (G.1 + 290)), (4, .int x4)]) (kk : ∀ (H : Heap) (locs : List Loc) (ls : Array Slot), am_H G ww s H locs → lv_has ls 7 [(0, .ref b0), (1, .ref (G.1 + 0)), (2, .ref (G.1 + 271)), (3, .ref (G.1 + 290)), (4, .int x4)] → W p l e room_1 s m #[Value.ref b0] below meth c H locs cells slots Q (F0 m 1962 ls [])) : W p l e room_1 s m #[Value.ref b0] below meth c H locs cells slots Q (F0 m 622 ls []) := by
  unfold f_law_10 at hf
  refine lv_aload_n hx hb dL_law_622 rfl (lv_at hl 1 rfl) ?_
  refine lv_aload_n hx hb dL_law_623 rfl (lv_at hl 0 rfl) ?_
  refine lv_iload hx hb dL_law_624 (lv_at hl 4 rfl) ?_
  refine lv_iconst (v := 1) hx hb dL_law_626 (by decide) ?_
  refine lv_iadd hx hb dL_law_627 ?_
  obtain ⟨hi_1, hf⟩ := am_chk_some hf
  refine va_sld hx hb hXs hbl hbA hH.2 hi_1 dL_law_628 ?_
  refine lv_aload_n hx hb dL_law_629 rfl (lv_at hl 0 rfl) ?_
  refine lv_iload hx hb dL_law_630 (lv_at hl 4 rfl) ?_
  refine lv_iconst (v := 2) hx hb dL_law_632 (by decide) ?_
  refine lv_iadd hx hb dL_law_633 ?_
  obtain ⟨hi_2, hf⟩ := am_chk_some hf
  refine va_sld hx hb hXs hbl hbA hH.2 hi_2 dL_law_634 ?_
  obtain ⟨r_5, w_3, hq_4, hf⟩ := am_b2_some hf
  refine am_calli (r := r_5) (w' := w_3) (am_runV (n := 2) (As := [.int (xs (x4 + (1 : Int32)).toNatClampNeg), .int (xs (x4 + (2 : Int32)).toNatClampNeg)]) (rest := []) ⟨hx, hb, hml, hown, hts⟩ hK hE hH (k_X11_margin hq_4) (am_gV am_q689 am_q690 am_q691 am_q1 am_q692) (am_o11 (p := 0) (by decide +kernel)) rfl ⟨rfl, rfl⟩ (by decide +kernel) ⟨Nat.le_of_ble_eq_true rfl, Nat.le_of_ble_eq_true rfl⟩ rfl hl.1 rfl (Nat.le_of_ble_eq_true rfl) hf0 dL_law_635) hH (fun H locs hH => ?_)
  refine lv_aload_n hx hb dL_law_638 rfl (lv_at hl 2 rfl) ?_
  refine lv_aload_n hx hb dL_law_639 rfl (lv_at hl 0 rfl) ?_
  refine lv_iload hx hb dL_law_640 (lv_at hl 4 rfl) ?_
  refine lv_iconst (v := 1) hx hb dL_law_642 (by decide) ?_
  refine lv_iadd hx hb dL_law_643 ?_
  obtain ⟨hi_6, hf⟩ := am_chk_some hf
  refine va_sld hx hb hXs hbl hbA hH.2 hi_6 dL_law_644 ?_
  refine lv_aload_n hx hb dL_law_645 rfl (lv_at hl 0 rfl) ?_
  refine lv_iload hx hb dL_law_646 (lv_at hl 4 rfl) ?_
  refine lv_iconst (v := 2) hx hb dL_law_648 (by decide) ?_
  refine lv_iadd hx hb dL_law_649 ?_
  obtain ⟨hi_7, hf⟩ := am_chk_some hf
  refine va_sld hx hb hXs hbl hbA hH.2 hi_7 dL_law_650 ?_
  obtain ⟨r_10, w_8, hq_9, hf⟩ := am_b2_some hf
  refine am_calli (r := r_10) (w' := w_8) (am_runV (n := 2) (As := [.int (xs (x4 + (1 : Int32)).toNatClampNeg), .int (xs (x4 + (2 : Int32)).toNatClampNeg)]) (rest := [.int r_5]) ⟨hx, hb, hml, hown, hts⟩ hK hE hH (k_X12_margin hq_9) (am_gV am_q1774 am_q1775 am_q1776 am_q13 am_q1777) (am_o12 (p := 271) (by decide +kernel)) rfl ⟨rfl, rfl⟩ (by decide +kernel) ⟨Nat.le_of_ble_eq_true rfl, Nat.le_of_ble_eq_true rfl⟩ rfl hl.1 rfl (Nat.le_of_ble_eq_true rfl) hf0 dL_law_651) hH (fun H locs hH => ?_)
  refine lv_icmp_eq (tgt := 1962) hx hb dL_law_654 (by decide) (fun hc_11 => ?_) (fun hc_11 => ?_)
  · have hf := (if_pos hc_11).symm.trans hf
    obtain rfl := Option.some.inj hf
    exact kk H locs ls hH (lv_sub hl [0, 1, 2, 3, 4] rfl)
  · have hf := (if_neg hc_11).symm.trans hf
    refine lv_iconst (v := 0) hx hb dL_law_657 (by decide) ?_
    cases hf
def f_law_11 (Ls : Nat) (xs : Nat → Int32) (x4 : Int32) (w : am_S) : Option am_S :=
  am_chk (x4 + (1 : Int32)) Ls (am_chk (x4 + (2 : Int32)) Ls (am_b2 (f_X11_clear (xs (x4 + (1 : Int32)).toNatClampNeg) (xs (x4 + (2 : Int32)).toNatClampNeg) w) fun r_5 w_3 => am_chk (x4 + (1 : Int32)) Ls (am_chk (x4 + (2 : Int32)) Ls (am_b2 (f_X12_clear (xs (x4 + (1 : Int32)).toNatClampNeg) (xs (x4 + (2 : Int32)).toNatClampNeg) w_3) fun r_10 w_8 => if r_5 = r_10 then (some w_8) else none))))
set_option maxRecDepth 100000 in
set_option maxHeartbeats 4000000 in
theorem k_law_11 {p : Program} {l : Launch} {e : Env} {s : State} {m : MethodId} {below : List Frame} {meth : Method} {c : Code} {Q : State → Prop} {cells slots b0 Ls : Nat} {xs : Nat → Int32} {x4 : Int32} {G : am_G} {w ww : am_S} {H : Heap} {locs : List Loc} {ls : Array Slot} (hx : p.tables.exec = Jvm.exec) (hb : c.code = cL_law) (hml : c.maxLocals = 7) (hown : s.vm.findClass RL = some m.cls) (hts : ∀ w ∈ am_T, w.before #[Value.ref b0] s = true) (hK : va_K G.2.2.1 vwCl (am_tys G) s) (hE : am_E G s s.heap) (hXs : va_X b0 Ls xs s s.heap) (hbl : b0 < s.heap.size) (hbA : ¬ G.1 ≤ b0) (hf0 : cells ≤ room_1.cells ∧ slots ≤ room_1.slots) (hf : f_law_11 Ls xs x4 w = some ww) (hH : am_H G w s H locs) (hl : lv_has ls 7 [(0, .ref b0), (1, .ref (G.1 + 0)), (2, .ref (G.1 + 271)), (3, .ref (G.1 + 290)), (4, .int x4)]) (kk : ∀ (H : Heap) (locs : List Loc) (ls : Array Slot), am_H G ww s H locs → lv_has ls 7 [(0, .ref b0), (1, .ref (G.1 + 0)), (2, .ref (G.1 + 271)), (3, .ref (G.1 + 290)), (4, .int x4)] → W p l e room_1 s m #[Value.ref b0] below meth c H locs cells slots Q (F0 m 1962 ls [])) : W p l e room_1 s m #[Value.ref b0] below meth c H locs cells slots Q (F0 m 659 ls []) := by
  unfold f_law_11 at hf
  refine lv_aload_n hx hb dL_law_659 rfl (lv_at hl 1 rfl) ?_
  refine lv_aload_n hx hb dL_law_660 rfl (lv_at hl 0 rfl) ?_
  refine lv_iload hx hb dL_law_661 (lv_at hl 4 rfl) ?_
  refine lv_iconst (v := 1) hx hb dL_law_663 (by decide) ?_
  refine lv_iadd hx hb dL_law_664 ?_
  obtain ⟨hi_1, hf⟩ := am_chk_some hf
  refine va_sld hx hb hXs hbl hbA hH.2 hi_1 dL_law_665 ?_
  refine lv_aload_n hx hb dL_law_666 rfl (lv_at hl 0 rfl) ?_
  refine lv_iload hx hb dL_law_667 (lv_at hl 4 rfl) ?_
  refine lv_iconst (v := 2) hx hb dL_law_669 (by decide) ?_
  refine lv_iadd hx hb dL_law_670 ?_
  obtain ⟨hi_2, hf⟩ := am_chk_some hf
  refine va_sld hx hb hXs hbl hbA hH.2 hi_2 dL_law_671 ?_
  obtain ⟨r_5, w_3, hq_4, hf⟩ := am_b2_some hf
  refine am_calli (r := r_5) (w' := w_3) (am_runV (n := 2) (As := [.int (xs (x4 + (1 : Int32)).toNatClampNeg), .int (xs (x4 + (2 : Int32)).toNatClampNeg)]) (rest := []) ⟨hx, hb, hml, hown, hts⟩ hK hE hH (k_X11_clear hq_4) (am_gV am_q698 am_q699 am_q700 am_q1 am_q701) (am_o11 (p := 0) (by decide +kernel)) rfl ⟨rfl, rfl⟩ (by decide +kernel) ⟨Nat.le_of_ble_eq_true rfl, Nat.le_of_ble_eq_true rfl⟩ rfl hl.1 rfl (Nat.le_of_ble_eq_true rfl) hf0 dL_law_672) hH (fun H locs hH => ?_)
  refine lv_aload_n hx hb dL_law_675 rfl (lv_at hl 2 rfl) ?_
  refine lv_aload_n hx hb dL_law_676 rfl (lv_at hl 0 rfl) ?_
  refine lv_iload hx hb dL_law_677 (lv_at hl 4 rfl) ?_
  refine lv_iconst (v := 1) hx hb dL_law_679 (by decide) ?_
  refine lv_iadd hx hb dL_law_680 ?_
  obtain ⟨hi_6, hf⟩ := am_chk_some hf
  refine va_sld hx hb hXs hbl hbA hH.2 hi_6 dL_law_681 ?_
  refine lv_aload_n hx hb dL_law_682 rfl (lv_at hl 0 rfl) ?_
  refine lv_iload hx hb dL_law_683 (lv_at hl 4 rfl) ?_
  refine lv_iconst (v := 2) hx hb dL_law_685 (by decide) ?_
  refine lv_iadd hx hb dL_law_686 ?_
  obtain ⟨hi_7, hf⟩ := am_chk_some hf
  refine va_sld hx hb hXs hbl hbA hH.2 hi_7 dL_law_687 ?_
  obtain ⟨r_10, w_8, hq_9, hf⟩ := am_b2_some hf
  refine am_calli (r := r_10) (w' := w_8) (am_runV (n := 2) (As := [.int (xs (x4 + (1 : Int32)).toNatClampNeg), .int (xs (x4 + (2 : Int32)).toNatClampNeg)]) (rest := [.int r_5]) ⟨hx, hb, hml, hown, hts⟩ hK hE hH (k_X12_clear hq_9) (am_gV am_q1778 am_q1779 am_q1780 am_q13 am_q1781) (am_o12 (p := 271) (by decide +kernel)) rfl ⟨rfl, rfl⟩ (by decide +kernel) ⟨Nat.le_of_ble_eq_true rfl, Nat.le_of_ble_eq_true rfl⟩ rfl hl.1 rfl (Nat.le_of_ble_eq_true rfl) hf0 dL_law_688) hH (fun H locs hH => ?_)
  refine lv_icmp_eq (tgt := 1962) hx hb dL_law_691 (by decide) (fun hc_11 => ?_) (fun hc_11 => ?_)
  · have hf := (if_pos hc_11).symm.trans hf
    obtain rfl := Option.some.inj hf
    exact kk H locs ls hH (lv_sub hl [0, 1, 2, 3, 4] rfl)
  · have hf := (if_neg hc_11).symm.trans hf
    refine lv_iconst (v := 0) hx hb dL_law_694 (by decide) ?_
    cases hf
def f_law_12 (Ls : Nat) (xs : Nat → Int32) (x4 : Int32) (w : am_S) : Option am_S :=
  am_chk (x4 + (1 : Int32)) Ls (am_chk (x4 + (2 : Int32)) Ls (am_b2 (f_X11_slot (xs (x4 + (1 : Int32)).toNatClampNeg) (xs (x4 + (2 : Int32)).toNatClampNeg) w) fun r_5 w_3 => am_chk (x4 + (1 : Int32)) Ls (am_chk (x4 + (2 : Int32)) Ls (am_b2 (f_X12_slot (xs (x4 + (1 : Int32)).toNatClampNeg) (xs (x4 + (2 : Int32)).toNatClampNeg) w_3) fun r_10 w_8 => if r_5 = r_10 then (some w_8) else none))))
set_option maxRecDepth 100000 in
set_option maxHeartbeats 4000000 in
theorem k_law_12 {p : Program} {l : Launch} {e : Env} {s : State} {m : MethodId} {below : List Frame} {meth : Method} {c : Code} {Q : State → Prop} {cells slots b0 Ls : Nat} {xs : Nat → Int32} {x4 : Int32} {G : am_G} {w ww : am_S} {H : Heap} {locs : List Loc} {ls : Array Slot} (hx : p.tables.exec = Jvm.exec) (hb : c.code = cL_law) (hml : c.maxLocals = 7) (hown : s.vm.findClass RL = some m.cls) (hts : ∀ w ∈ am_T, w.before #[Value.ref b0] s = true) (hK : va_K G.2.2.1 vwCl (am_tys G) s) (hE : am_E G s s.heap) (hXs : va_X b0 Ls xs s s.heap) (hbl : b0 < s.heap.size) (hbA : ¬ G.1 ≤ b0) (hf0 : cells ≤ room_1.cells ∧ slots ≤ room_1.slots) (hf : f_law_12 Ls xs x4 w = some ww) (hH : am_H G w s H locs) (hl : lv_has ls 7 [(0, .ref b0), (1, .ref (G.1 + 0)), (2, .ref (G.1 + 271)), (3, .ref (G.1 + 290)), (4, .int x4)]) (kk : ∀ (H : Heap) (locs : List Loc) (ls : Array Slot), am_H G ww s H locs → lv_has ls 7 [(0, .ref b0), (1, .ref (G.1 + 0)), (2, .ref (G.1 + 271)), (3, .ref (G.1 + 290)), (4, .int x4)] → W p l e room_1 s m #[Value.ref b0] below meth c H locs cells slots Q (F0 m 1962 ls [])) : W p l e room_1 s m #[Value.ref b0] below meth c H locs cells slots Q (F0 m 696 ls []) := by
  unfold f_law_12 at hf
  refine lv_aload_n hx hb dL_law_696 rfl (lv_at hl 1 rfl) ?_
  refine lv_aload_n hx hb dL_law_697 rfl (lv_at hl 0 rfl) ?_
  refine lv_iload hx hb dL_law_698 (lv_at hl 4 rfl) ?_
  refine lv_iconst (v := 1) hx hb dL_law_700 (by decide) ?_
  refine lv_iadd hx hb dL_law_701 ?_
  obtain ⟨hi_1, hf⟩ := am_chk_some hf
  refine va_sld hx hb hXs hbl hbA hH.2 hi_1 dL_law_702 ?_
  refine lv_aload_n hx hb dL_law_703 rfl (lv_at hl 0 rfl) ?_
  refine lv_iload hx hb dL_law_704 (lv_at hl 4 rfl) ?_
  refine lv_iconst (v := 2) hx hb dL_law_706 (by decide) ?_
  refine lv_iadd hx hb dL_law_707 ?_
  obtain ⟨hi_2, hf⟩ := am_chk_some hf
  refine va_sld hx hb hXs hbl hbA hH.2 hi_2 dL_law_708 ?_
  obtain ⟨r_5, w_3, hq_4, hf⟩ := am_b2_some hf
  refine am_calli (r := r_5) (w' := w_3) (am_runV (n := 2) (As := [.int (xs (x4 + (1 : Int32)).toNatClampNeg), .int (xs (x4 + (2 : Int32)).toNatClampNeg)]) (rest := []) ⟨hx, hb, hml, hown, hts⟩ hK hE hH (k_X11_slot hq_4) (am_gV am_q710 am_q711 am_q712 am_q1 am_q713) (am_o11 (p := 0) (by decide +kernel)) rfl ⟨rfl, rfl⟩ (by decide +kernel) ⟨Nat.le_of_ble_eq_true rfl, Nat.le_of_ble_eq_true rfl⟩ rfl hl.1 rfl (Nat.le_of_ble_eq_true rfl) hf0 dL_law_709) hH (fun H locs hH => ?_)
  refine lv_aload_n hx hb dL_law_712 rfl (lv_at hl 2 rfl) ?_
  refine lv_aload_n hx hb dL_law_713 rfl (lv_at hl 0 rfl) ?_
  refine lv_iload hx hb dL_law_714 (lv_at hl 4 rfl) ?_
  refine lv_iconst (v := 1) hx hb dL_law_716 (by decide) ?_
  refine lv_iadd hx hb dL_law_717 ?_
  obtain ⟨hi_6, hf⟩ := am_chk_some hf
  refine va_sld hx hb hXs hbl hbA hH.2 hi_6 dL_law_718 ?_
  refine lv_aload_n hx hb dL_law_719 rfl (lv_at hl 0 rfl) ?_
  refine lv_iload hx hb dL_law_720 (lv_at hl 4 rfl) ?_
  refine lv_iconst (v := 2) hx hb dL_law_722 (by decide) ?_
  refine lv_iadd hx hb dL_law_723 ?_
  obtain ⟨hi_7, hf⟩ := am_chk_some hf
  refine va_sld hx hb hXs hbl hbA hH.2 hi_7 dL_law_724 ?_
  obtain ⟨r_10, w_8, hq_9, hf⟩ := am_b2_some hf
  refine am_calli (r := r_10) (w' := w_8) (am_runV (n := 2) (As := [.int (xs (x4 + (1 : Int32)).toNatClampNeg), .int (xs (x4 + (2 : Int32)).toNatClampNeg)]) (rest := [.int r_5]) ⟨hx, hb, hml, hown, hts⟩ hK hE hH (k_X12_slot hq_9) (am_gV am_q1782 am_q1783 am_q1784 am_q13 am_q1785) (am_o12 (p := 271) (by decide +kernel)) rfl ⟨rfl, rfl⟩ (by decide +kernel) ⟨Nat.le_of_ble_eq_true rfl, Nat.le_of_ble_eq_true rfl⟩ rfl hl.1 rfl (Nat.le_of_ble_eq_true rfl) hf0 dL_law_725) hH (fun H locs hH => ?_)
  refine lv_icmp_eq (tgt := 1962) hx hb dL_law_728 (by decide) (fun hc_11 => ?_) (fun hc_11 => ?_)
  · have hf := (if_pos hc_11).symm.trans hf
    obtain rfl := Option.some.inj hf
    exact kk H locs ls hH (lv_sub hl [0, 1, 2, 3, 4] rfl)
  · have hf := (if_neg hc_11).symm.trans hf
    refine lv_iconst (v := 0) hx hb dL_law_731 (by decide) ?_
    cases hf
def f_law_13 (Ls : Nat) (xs : Nat → Int32) (x4 : Int32) (w : am_S) : Option am_S :=
  am_b2 (f_X11_peel w) fun r_3 w_1 => am_b2 (f_X12_peel w_1) fun r_6 w_4 => if r_3 = r_6 then (some w_4) else none
set_option maxRecDepth 100000 in
set_option maxHeartbeats 4000000 in
theorem k_law_13 {p : Program} {l : Launch} {e : Env} {s : State} {m : MethodId} {below : List Frame} {meth : Method} {c : Code} {Q : State → Prop} {cells slots b0 Ls : Nat} {xs : Nat → Int32} {x4 : Int32} {G : am_G} {w ww : am_S} {H : Heap} {locs : List Loc} {ls : Array Slot} (hx : p.tables.exec = Jvm.exec) (hb : c.code = cL_law) (hml : c.maxLocals = 7) (hown : s.vm.findClass RL = some m.cls) (hts : ∀ w ∈ am_T, w.before #[Value.ref b0] s = true) (hK : va_K G.2.2.1 vwCl (am_tys G) s) (hE : am_E G s s.heap) (hXs : va_X b0 Ls xs s s.heap) (hbl : b0 < s.heap.size) (hbA : ¬ G.1 ≤ b0) (hf0 : cells ≤ room_1.cells ∧ slots ≤ room_1.slots) (hf : f_law_13 Ls xs x4 w = some ww) (hH : am_H G w s H locs) (hl : lv_has ls 7 [(0, .ref b0), (1, .ref (G.1 + 0)), (2, .ref (G.1 + 271)), (3, .ref (G.1 + 290)), (4, .int x4)]) (kk : ∀ (H : Heap) (locs : List Loc) (ls : Array Slot), am_H G ww s H locs → lv_has ls 7 [(0, .ref b0), (1, .ref (G.1 + 0)), (2, .ref (G.1 + 271)), (3, .ref (G.1 + 290)), (4, .int x4)] → W p l e room_1 s m #[Value.ref b0] below meth c H locs cells slots Q (F0 m 1962 ls [])) : W p l e room_1 s m #[Value.ref b0] below meth c H locs cells slots Q (F0 m 733 ls []) := by
  unfold f_law_13 at hf
  refine lv_aload_n hx hb dL_law_733 rfl (lv_at hl 1 rfl) ?_
  obtain ⟨r_3, w_1, hq_2, hf⟩ := am_b2_some hf
  refine am_calli (r := r_3) (w' := w_1) (am_runV (n := 0) (As := []) (rest := []) ⟨hx, hb, hml, hown, hts⟩ hK hE hH (k_X11_peel hq_2) (am_gV am_q721 am_q722 am_q723 am_q1 am_q724) (am_o11 (p := 0) (by decide +kernel)) rfl ⟨rfl, rfl⟩ (by decide +kernel) ⟨Nat.le_of_ble_eq_true rfl, Nat.le_of_ble_eq_true rfl⟩ rfl hl.1 rfl (Nat.le_of_ble_eq_true rfl) hf0 dL_law_734) hH (fun H locs hH => ?_)
  refine lv_aload_n hx hb dL_law_737 rfl (lv_at hl 2 rfl) ?_
  obtain ⟨r_6, w_4, hq_5, hf⟩ := am_b2_some hf
  refine am_calli (r := r_6) (w' := w_4) (am_runV (n := 0) (As := []) (rest := [.int r_3]) ⟨hx, hb, hml, hown, hts⟩ hK hE hH (k_X12_peel hq_5) (am_gV am_q1502 am_q1503 am_q1504 am_q13 am_q1505) (am_o12 (p := 271) (by decide +kernel)) rfl ⟨rfl, rfl⟩ (by decide +kernel) ⟨Nat.le_of_ble_eq_true rfl, Nat.le_of_ble_eq_true rfl⟩ rfl hl.1 rfl (Nat.le_of_ble_eq_true rfl) hf0 dL_law_738) hH (fun H locs hH => ?_)
  refine lv_icmp_eq (tgt := 1962) hx hb dL_law_741 (by decide) (fun hc_7 => ?_) (fun hc_7 => ?_)
  · have hf := (if_pos hc_7).symm.trans hf
    obtain rfl := Option.some.inj hf
    exact kk H locs ls hH (lv_sub hl [0, 1, 2, 3, 4] rfl)
  · have hf := (if_neg hc_7).symm.trans hf
    refine lv_iconst (v := 0) hx hb dL_law_744 (by decide) ?_
    cases hf
def f_law_14 (Ls : Nat) (xs : Nat → Int32) (x4 : Int32) (w : am_S) : Option am_S :=
  am_b2 (f_X11_round w) fun r_3 w_1 => am_b2 (f_X12_round w_1) fun r_6 w_4 => if r_3 = r_6 then (some w_4) else none
set_option maxRecDepth 100000 in
set_option maxHeartbeats 4000000 in
theorem k_law_14 {p : Program} {l : Launch} {e : Env} {s : State} {m : MethodId} {below : List Frame} {meth : Method} {c : Code} {Q : State → Prop} {cells slots b0 Ls : Nat} {xs : Nat → Int32} {x4 : Int32} {G : am_G} {w ww : am_S} {H : Heap} {locs : List Loc} {ls : Array Slot} (hx : p.tables.exec = Jvm.exec) (hb : c.code = cL_law) (hml : c.maxLocals = 7) (hown : s.vm.findClass RL = some m.cls) (hts : ∀ w ∈ am_T, w.before #[Value.ref b0] s = true) (hK : va_K G.2.2.1 vwCl (am_tys G) s) (hE : am_E G s s.heap) (hXs : va_X b0 Ls xs s s.heap) (hbl : b0 < s.heap.size) (hbA : ¬ G.1 ≤ b0) (hf0 : cells ≤ room_1.cells ∧ slots ≤ room_1.slots) (hf : f_law_14 Ls xs x4 w = some ww) (hH : am_H G w s H locs) (hl : lv_has ls 7 [(0, .ref b0), (1, .ref (G.1 + 0)), (2, .ref (G.1 + 271)), (3, .ref (G.1 + 290)), (4, .int x4)]) (kk : ∀ (H : Heap) (locs : List Loc) (ls : Array Slot), am_H G ww s H locs → lv_has ls 7 [(0, .ref b0), (1, .ref (G.1 + 0)), (2, .ref (G.1 + 271)), (3, .ref (G.1 + 290)), (4, .int x4)] → W p l e room_1 s m #[Value.ref b0] below meth c H locs cells slots Q (F0 m 1962 ls [])) : W p l e room_1 s m #[Value.ref b0] below meth c H locs cells slots Q (F0 m 746 ls []) := by
  unfold f_law_14 at hf
  refine lv_aload_n hx hb dL_law_746 rfl (lv_at hl 1 rfl) ?_
  obtain ⟨r_3, w_1, hq_2, hf⟩ := am_b2_some hf
  refine am_calli (r := r_3) (w' := w_1) (am_runV (n := 0) (As := []) (rest := []) ⟨hx, hb, hml, hown, hts⟩ hK hE hH (k_X11_round hq_2) (am_gV am_q863 am_q864 am_q865 am_q1 am_q866) (am_o11 (p := 0) (by decide +kernel)) rfl ⟨rfl, rfl⟩ (by decide +kernel) ⟨Nat.le_of_ble_eq_true rfl, Nat.le_of_ble_eq_true rfl⟩ rfl hl.1 rfl (Nat.le_of_ble_eq_true rfl) hf0 dL_law_747) hH (fun H locs hH => ?_)
  refine lv_aload_n hx hb dL_law_750 rfl (lv_at hl 2 rfl) ?_
  obtain ⟨r_6, w_4, hq_5, hf⟩ := am_b2_some hf
  refine am_calli (r := r_6) (w' := w_4) (am_runV (n := 0) (As := []) (rest := [.int r_3]) ⟨hx, hb, hml, hown, hts⟩ hK hE hH (k_X12_round hq_5) (am_gV am_q1663 am_q1664 am_q1665 am_q13 am_q1666) (am_o12 (p := 271) (by decide +kernel)) rfl ⟨rfl, rfl⟩ (by decide +kernel) ⟨Nat.le_of_ble_eq_true rfl, Nat.le_of_ble_eq_true rfl⟩ rfl hl.1 rfl (Nat.le_of_ble_eq_true rfl) hf0 dL_law_751) hH (fun H locs hH => ?_)
  refine lv_icmp_eq (tgt := 1962) hx hb dL_law_754 (by decide) (fun hc_7 => ?_) (fun hc_7 => ?_)
  · have hf := (if_pos hc_7).symm.trans hf
    obtain rfl := Option.some.inj hf
    exact kk H locs ls hH (lv_sub hl [0, 1, 2, 3, 4] rfl)
  · have hf := (if_neg hc_7).symm.trans hf
    refine lv_iconst (v := 0) hx hb dL_law_757 (by decide) ?_
    cases hf
def f_law_15 (Ls : Nat) (xs : Nat → Int32) (x4 : Int32) (w : am_S) : Option am_S :=
  am_chk (x4 + (1 : Int32)) Ls (am_b2 (f_X11_tell (xs (x4 + (1 : Int32)).toNatClampNeg) w) fun r_4 w_2 => am_chk (x4 + (1 : Int32)) Ls (am_b2 (f_X12_tell (xs (x4 + (1 : Int32)).toNatClampNeg) w_2) fun r_8 w_6 => if r_4 = r_8 then (some w_6) else none))
set_option maxRecDepth 100000 in
set_option maxHeartbeats 4000000 in
theorem k_law_15 {p : Program} {l : Launch} {e : Env} {s : State} {m : MethodId} {below : List Frame} {meth : Method} {c : Code} {Q : State → Prop} {cells slots b0 Ls : Nat} {xs : Nat → Int32} {x4 : Int32} {G : am_G} {w ww : am_S} {H : Heap} {locs : List Loc} {ls : Array Slot} (hx : p.tables.exec = Jvm.exec) (hb : c.code = cL_law) (hml : c.maxLocals = 7) (hown : s.vm.findClass RL = some m.cls) (hts : ∀ w ∈ am_T, w.before #[Value.ref b0] s = true) (hK : va_K G.2.2.1 vwCl (am_tys G) s) (hE : am_E G s s.heap) (hXs : va_X b0 Ls xs s s.heap) (hbl : b0 < s.heap.size) (hbA : ¬ G.1 ≤ b0) (hf0 : cells ≤ room_1.cells ∧ slots ≤ room_1.slots) (hf : f_law_15 Ls xs x4 w = some ww) (hH : am_H G w s H locs) (hl : lv_has ls 7 [(0, .ref b0), (1, .ref (G.1 + 0)), (2, .ref (G.1 + 271)), (3, .ref (G.1 + 290)), (4, .int x4)]) (kk : ∀ (H : Heap) (locs : List Loc) (ls : Array Slot), am_H G ww s H locs → lv_has ls 7 [(0, .ref b0), (1, .ref (G.1 + 0)), (2, .ref (G.1 + 271)), (3, .ref (G.1 + 290)), (4, .int x4)] → W p l e room_1 s m #[Value.ref b0] below meth c H locs cells slots Q (F0 m 1962 ls [])) : W p l e room_1 s m #[Value.ref b0] below meth c H locs cells slots Q (F0 m 759 ls []) := by
  unfold f_law_15 at hf
  refine lv_aload_n hx hb dL_law_759 rfl (lv_at hl 1 rfl) ?_
  refine lv_aload_n hx hb dL_law_760 rfl (lv_at hl 0 rfl) ?_
  refine lv_iload hx hb dL_law_761 (lv_at hl 4 rfl) ?_
  refine lv_iconst (v := 1) hx hb dL_law_763 (by decide) ?_
  refine lv_iadd hx hb dL_law_764 ?_
  obtain ⟨hi_1, hf⟩ := am_chk_some hf
  refine va_sld hx hb hXs hbl hbA hH.2 hi_1 dL_law_765 ?_
  obtain ⟨r_4, w_2, hq_3, hf⟩ := am_b2_some hf
  refine am_calli (r := r_4) (w' := w_2) (am_runV (n := 1) (As := [.int (xs (x4 + (1 : Int32)).toNatClampNeg)]) (rest := []) ⟨hx, hb, hml, hown, hts⟩ hK hE hH (k_X11_tell hq_3) (am_gV am_q867 am_q868 am_q869 am_q1 am_q870) (am_o11 (p := 0) (by decide +kernel)) rfl ⟨rfl, rfl⟩ (by decide +kernel) ⟨Nat.le_of_ble_eq_true rfl, Nat.le_of_ble_eq_true rfl⟩ rfl hl.1 rfl (Nat.le_of_ble_eq_true rfl) hf0 dL_law_766) hH (fun H locs hH => ?_)
  refine lv_aload_n hx hb dL_law_769 rfl (lv_at hl 2 rfl) ?_
  refine lv_aload_n hx hb dL_law_770 rfl (lv_at hl 0 rfl) ?_
  refine lv_iload hx hb dL_law_771 (lv_at hl 4 rfl) ?_
  refine lv_iconst (v := 1) hx hb dL_law_773 (by decide) ?_
  refine lv_iadd hx hb dL_law_774 ?_
  obtain ⟨hi_5, hf⟩ := am_chk_some hf
  refine va_sld hx hb hXs hbl hbA hH.2 hi_5 dL_law_775 ?_
  obtain ⟨r_8, w_6, hq_7, hf⟩ := am_b2_some hf
  refine am_calli (r := r_8) (w' := w_6) (am_runV (n := 1) (As := [.int (xs (x4 + (1 : Int32)).toNatClampNeg)]) (rest := [.int r_4]) ⟨hx, hb, hml, hown, hts⟩ hK hE hH (k_X12_tell hq_7) (am_gV am_q1667 am_q1668 am_q1669 am_q13 am_q1670) (am_o12 (p := 271) (by decide +kernel)) rfl ⟨rfl, rfl⟩ (by decide +kernel) ⟨Nat.le_of_ble_eq_true rfl, Nat.le_of_ble_eq_true rfl⟩ rfl hl.1 rfl (Nat.le_of_ble_eq_true rfl) hf0 dL_law_776) hH (fun H locs hH => ?_)
  refine lv_icmp_eq (tgt := 1962) hx hb dL_law_779 (by decide) (fun hc_9 => ?_) (fun hc_9 => ?_)
  · have hf := (if_pos hc_9).symm.trans hf
    obtain rfl := Option.some.inj hf
    exact kk H locs ls hH (lv_sub hl [0, 1, 2, 3, 4] rfl)
  · have hf := (if_neg hc_9).symm.trans hf
    refine lv_iconst (v := 0) hx hb dL_law_782 (by decide) ?_
    cases hf
def f_law_16 (Ls : Nat) (xs : Nat → Int32) (x4 : Int32) (w : am_S) : Option am_S :=
  am_chk (x4 + (1 : Int32)) Ls (am_b2 (f_X11_forget (xs (x4 + (1 : Int32)).toNatClampNeg) w) fun r_4 w_2 => am_chk (x4 + (1 : Int32)) Ls (am_b2 (f_X12_forget (xs (x4 + (1 : Int32)).toNatClampNeg) w_2) fun r_8 w_6 => if r_4 = r_8 then (some w_6) else none))
set_option maxRecDepth 100000 in
set_option maxHeartbeats 4000000 in
theorem k_law_16 {p : Program} {l : Launch} {e : Env} {s : State} {m : MethodId} {below : List Frame} {meth : Method} {c : Code} {Q : State → Prop} {cells slots b0 Ls : Nat} {xs : Nat → Int32} {x4 : Int32} {G : am_G} {w ww : am_S} {H : Heap} {locs : List Loc} {ls : Array Slot} (hx : p.tables.exec = Jvm.exec) (hb : c.code = cL_law) (hml : c.maxLocals = 7) (hown : s.vm.findClass RL = some m.cls) (hts : ∀ w ∈ am_T, w.before #[Value.ref b0] s = true) (hK : va_K G.2.2.1 vwCl (am_tys G) s) (hE : am_E G s s.heap) (hXs : va_X b0 Ls xs s s.heap) (hbl : b0 < s.heap.size) (hbA : ¬ G.1 ≤ b0) (hf0 : cells ≤ room_1.cells ∧ slots ≤ room_1.slots) (hf : f_law_16 Ls xs x4 w = some ww) (hH : am_H G w s H locs) (hl : lv_has ls 7 [(0, .ref b0), (1, .ref (G.1 + 0)), (2, .ref (G.1 + 271)), (3, .ref (G.1 + 290)), (4, .int x4)]) (kk : ∀ (H : Heap) (locs : List Loc) (ls : Array Slot), am_H G ww s H locs → lv_has ls 7 [(0, .ref b0), (1, .ref (G.1 + 0)), (2, .ref (G.1 + 271)), (3, .ref (G.1 + 290)), (4, .int x4)] → W p l e room_1 s m #[Value.ref b0] below meth c H locs cells slots Q (F0 m 1962 ls [])) : W p l e room_1 s m #[Value.ref b0] below meth c H locs cells slots Q (F0 m 784 ls []) := by
  unfold f_law_16 at hf
  refine lv_aload_n hx hb dL_law_784 rfl (lv_at hl 1 rfl) ?_
  refine lv_aload_n hx hb dL_law_785 rfl (lv_at hl 0 rfl) ?_
  refine lv_iload hx hb dL_law_786 (lv_at hl 4 rfl) ?_
  refine lv_iconst (v := 1) hx hb dL_law_788 (by decide) ?_
  refine lv_iadd hx hb dL_law_789 ?_
  obtain ⟨hi_1, hf⟩ := am_chk_some hf
  refine va_sld hx hb hXs hbl hbA hH.2 hi_1 dL_law_790 ?_
  obtain ⟨r_4, w_2, hq_3, hf⟩ := am_b2_some hf
  refine am_calli (r := r_4) (w' := w_2) (am_runV (n := 1) (As := [.int (xs (x4 + (1 : Int32)).toNatClampNeg)]) (rest := []) ⟨hx, hb, hml, hown, hts⟩ hK hE hH (k_X11_forget hq_3) (am_gV am_q871 am_q872 am_q873 am_q1 am_q874) (am_o11 (p := 0) (by decide +kernel)) rfl ⟨rfl, rfl⟩ (by decide +kernel) ⟨Nat.le_of_ble_eq_true rfl, Nat.le_of_ble_eq_true rfl⟩ rfl hl.1 rfl (Nat.le_of_ble_eq_true rfl) hf0 dL_law_791) hH (fun H locs hH => ?_)
  refine lv_aload_n hx hb dL_law_794 rfl (lv_at hl 2 rfl) ?_
  refine lv_aload_n hx hb dL_law_795 rfl (lv_at hl 0 rfl) ?_
  refine lv_iload hx hb dL_law_796 (lv_at hl 4 rfl) ?_
  refine lv_iconst (v := 1) hx hb dL_law_798 (by decide) ?_
  refine lv_iadd hx hb dL_law_799 ?_
  obtain ⟨hi_5, hf⟩ := am_chk_some hf
  refine va_sld hx hb hXs hbl hbA hH.2 hi_5 dL_law_800 ?_
  obtain ⟨r_8, w_6, hq_7, hf⟩ := am_b2_some hf
  refine am_calli (r := r_8) (w' := w_6) (am_runV (n := 1) (As := [.int (xs (x4 + (1 : Int32)).toNatClampNeg)]) (rest := [.int r_4]) ⟨hx, hb, hml, hown, hts⟩ hK hE hH (k_X12_forget hq_7) (am_gV am_q1671 am_q1672 am_q1673 am_q13 am_q1674) (am_o12 (p := 271) (by decide +kernel)) rfl ⟨rfl, rfl⟩ (by decide +kernel) ⟨Nat.le_of_ble_eq_true rfl, Nat.le_of_ble_eq_true rfl⟩ rfl hl.1 rfl (Nat.le_of_ble_eq_true rfl) hf0 dL_law_801) hH (fun H locs hH => ?_)
  refine lv_icmp_eq (tgt := 1962) hx hb dL_law_804 (by decide) (fun hc_9 => ?_) (fun hc_9 => ?_)
  · have hf := (if_pos hc_9).symm.trans hf
    obtain rfl := Option.some.inj hf
    exact kk H locs ls hH (lv_sub hl [0, 1, 2, 3, 4] rfl)
  · have hf := (if_neg hc_9).symm.trans hf
    refine lv_iconst (v := 0) hx hb dL_law_807 (by decide) ?_
    cases hf
def f_law_17 (Ls : Nat) (xs : Nat → Int32) (x4 : Int32) (w : am_S) : Option am_S :=
  am_chk (x4 + (1 : Int32)) Ls (am_chk (x4 + (2 : Int32)) Ls (am_b2 (f_X11_turn (xs (x4 + (1 : Int32)).toNatClampNeg) (xs (x4 + (2 : Int32)).toNatClampNeg) w) fun r_5 w_3 => am_chk (x4 + (1 : Int32)) Ls (am_chk (x4 + (2 : Int32)) Ls (am_b2 (f_X12_turn (xs (x4 + (1 : Int32)).toNatClampNeg) (xs (x4 + (2 : Int32)).toNatClampNeg) w_3) fun r_10 w_8 => if r_5 = r_10 then (some w_8) else none))))
set_option maxRecDepth 100000 in
set_option maxHeartbeats 4000000 in
theorem k_law_17 {p : Program} {l : Launch} {e : Env} {s : State} {m : MethodId} {below : List Frame} {meth : Method} {c : Code} {Q : State → Prop} {cells slots b0 Ls : Nat} {xs : Nat → Int32} {x4 : Int32} {G : am_G} {w ww : am_S} {H : Heap} {locs : List Loc} {ls : Array Slot} (hx : p.tables.exec = Jvm.exec) (hb : c.code = cL_law) (hml : c.maxLocals = 7) (hown : s.vm.findClass RL = some m.cls) (hts : ∀ w ∈ am_T, w.before #[Value.ref b0] s = true) (hK : va_K G.2.2.1 vwCl (am_tys G) s) (hE : am_E G s s.heap) (hXs : va_X b0 Ls xs s s.heap) (hbl : b0 < s.heap.size) (hbA : ¬ G.1 ≤ b0) (hf0 : cells ≤ room_1.cells ∧ slots ≤ room_1.slots) (hf : f_law_17 Ls xs x4 w = some ww) (hH : am_H G w s H locs) (hl : lv_has ls 7 [(0, .ref b0), (1, .ref (G.1 + 0)), (2, .ref (G.1 + 271)), (3, .ref (G.1 + 290)), (4, .int x4)]) (kk : ∀ (H : Heap) (locs : List Loc) (ls : Array Slot), am_H G ww s H locs → lv_has ls 7 [(0, .ref b0), (1, .ref (G.1 + 0)), (2, .ref (G.1 + 271)), (3, .ref (G.1 + 290)), (4, .int x4)] → W p l e room_1 s m #[Value.ref b0] below meth c H locs cells slots Q (F0 m 1962 ls [])) : W p l e room_1 s m #[Value.ref b0] below meth c H locs cells slots Q (F0 m 809 ls []) := by
  unfold f_law_17 at hf
  refine lv_aload_n hx hb dL_law_809 rfl (lv_at hl 1 rfl) ?_
  refine lv_aload_n hx hb dL_law_810 rfl (lv_at hl 0 rfl) ?_
  refine lv_iload hx hb dL_law_811 (lv_at hl 4 rfl) ?_
  refine lv_iconst (v := 1) hx hb dL_law_813 (by decide) ?_
  refine lv_iadd hx hb dL_law_814 ?_
  obtain ⟨hi_1, hf⟩ := am_chk_some hf
  refine va_sld hx hb hXs hbl hbA hH.2 hi_1 dL_law_815 ?_
  refine lv_aload_n hx hb dL_law_816 rfl (lv_at hl 0 rfl) ?_
  refine lv_iload hx hb dL_law_817 (lv_at hl 4 rfl) ?_
  refine lv_iconst (v := 2) hx hb dL_law_819 (by decide) ?_
  refine lv_iadd hx hb dL_law_820 ?_
  obtain ⟨hi_2, hf⟩ := am_chk_some hf
  refine va_sld hx hb hXs hbl hbA hH.2 hi_2 dL_law_821 ?_
  obtain ⟨r_5, w_3, hq_4, hf⟩ := am_b2_some hf
  refine am_calli (r := r_5) (w' := w_3) (am_runV (n := 2) (As := [.int (xs (x4 + (1 : Int32)).toNatClampNeg), .int (xs (x4 + (2 : Int32)).toNatClampNeg)]) (rest := []) ⟨hx, hb, hml, hown, hts⟩ hK hE hH (k_X11_turn hq_4) (am_gV am_q875 am_q876 am_q877 am_q1 am_q878) (am_o11 (p := 0) (by decide +kernel)) rfl ⟨rfl, rfl⟩ (by decide +kernel) ⟨Nat.le_of_ble_eq_true rfl, Nat.le_of_ble_eq_true rfl⟩ rfl hl.1 rfl (Nat.le_of_ble_eq_true rfl) hf0 dL_law_822) hH (fun H locs hH => ?_)
  refine lv_aload_n hx hb dL_law_825 rfl (lv_at hl 2 rfl) ?_
  refine lv_aload_n hx hb dL_law_826 rfl (lv_at hl 0 rfl) ?_
  refine lv_iload hx hb dL_law_827 (lv_at hl 4 rfl) ?_
  refine lv_iconst (v := 1) hx hb dL_law_829 (by decide) ?_
  refine lv_iadd hx hb dL_law_830 ?_
  obtain ⟨hi_6, hf⟩ := am_chk_some hf
  refine va_sld hx hb hXs hbl hbA hH.2 hi_6 dL_law_831 ?_
  refine lv_aload_n hx hb dL_law_832 rfl (lv_at hl 0 rfl) ?_
  refine lv_iload hx hb dL_law_833 (lv_at hl 4 rfl) ?_
  refine lv_iconst (v := 2) hx hb dL_law_835 (by decide) ?_
  refine lv_iadd hx hb dL_law_836 ?_
  obtain ⟨hi_7, hf⟩ := am_chk_some hf
  refine va_sld hx hb hXs hbl hbA hH.2 hi_7 dL_law_837 ?_
  obtain ⟨r_10, w_8, hq_9, hf⟩ := am_b2_some hf
  refine am_calli (r := r_10) (w' := w_8) (am_runV (n := 2) (As := [.int (xs (x4 + (1 : Int32)).toNatClampNeg), .int (xs (x4 + (2 : Int32)).toNatClampNeg)]) (rest := [.int r_5]) ⟨hx, hb, hml, hown, hts⟩ hK hE hH (k_X12_turn hq_9) (am_gV am_q1675 am_q1676 am_q1677 am_q13 am_q1678) (am_o12 (p := 271) (by decide +kernel)) rfl ⟨rfl, rfl⟩ (by decide +kernel) ⟨Nat.le_of_ble_eq_true rfl, Nat.le_of_ble_eq_true rfl⟩ rfl hl.1 rfl (Nat.le_of_ble_eq_true rfl) hf0 dL_law_838) hH (fun H locs hH => ?_)
  refine lv_icmp_eq (tgt := 1962) hx hb dL_law_841 (by decide) (fun hc_11 => ?_) (fun hc_11 => ?_)
  · have hf := (if_pos hc_11).symm.trans hf
    obtain rfl := Option.some.inj hf
    exact kk H locs ls hH (lv_sub hl [0, 1, 2, 3, 4] rfl)
  · have hf := (if_neg hc_11).symm.trans hf
    refine lv_iconst (v := 0) hx hb dL_law_844 (by decide) ?_
    cases hf
def f_law_18 (Ls : Nat) (xs : Nat → Int32) (x4 : Int32) (w : am_S) : Option am_S :=
  am_chk (x4 + (1 : Int32)) Ls (am_b2 (f_X11_capture (xs (x4 + (1 : Int32)).toNatClampNeg) w) fun r_4 w_2 => am_chk (x4 + (1 : Int32)) Ls (am_b2 (f_X12_capture (xs (x4 + (1 : Int32)).toNatClampNeg) w_2) fun r_8 w_6 => if r_4 = r_8 then (some w_6) else none))
set_option maxRecDepth 100000 in
set_option maxHeartbeats 4000000 in
theorem k_law_18 {p : Program} {l : Launch} {e : Env} {s : State} {m : MethodId} {below : List Frame} {meth : Method} {c : Code} {Q : State → Prop} {cells slots b0 Ls : Nat} {xs : Nat → Int32} {x4 : Int32} {G : am_G} {w ww : am_S} {H : Heap} {locs : List Loc} {ls : Array Slot} (hx : p.tables.exec = Jvm.exec) (hb : c.code = cL_law) (hml : c.maxLocals = 7) (hown : s.vm.findClass RL = some m.cls) (hts : ∀ w ∈ am_T, w.before #[Value.ref b0] s = true) (hK : va_K G.2.2.1 vwCl (am_tys G) s) (hE : am_E G s s.heap) (hXs : va_X b0 Ls xs s s.heap) (hbl : b0 < s.heap.size) (hbA : ¬ G.1 ≤ b0) (hf0 : cells ≤ room_1.cells ∧ slots ≤ room_1.slots) (hf : f_law_18 Ls xs x4 w = some ww) (hH : am_H G w s H locs) (hl : lv_has ls 7 [(0, .ref b0), (1, .ref (G.1 + 0)), (2, .ref (G.1 + 271)), (3, .ref (G.1 + 290)), (4, .int x4)]) (kk : ∀ (H : Heap) (locs : List Loc) (ls : Array Slot), am_H G ww s H locs → lv_has ls 7 [(0, .ref b0), (1, .ref (G.1 + 0)), (2, .ref (G.1 + 271)), (3, .ref (G.1 + 290)), (4, .int x4)] → W p l e room_1 s m #[Value.ref b0] below meth c H locs cells slots Q (F0 m 1962 ls [])) : W p l e room_1 s m #[Value.ref b0] below meth c H locs cells slots Q (F0 m 846 ls []) := by
  unfold f_law_18 at hf
  refine lv_aload_n hx hb dL_law_846 rfl (lv_at hl 1 rfl) ?_
  refine lv_aload_n hx hb dL_law_847 rfl (lv_at hl 0 rfl) ?_
  refine lv_iload hx hb dL_law_848 (lv_at hl 4 rfl) ?_
  refine lv_iconst (v := 1) hx hb dL_law_850 (by decide) ?_
  refine lv_iadd hx hb dL_law_851 ?_
  obtain ⟨hi_1, hf⟩ := am_chk_some hf
  refine va_sld hx hb hXs hbl hbA hH.2 hi_1 dL_law_852 ?_
  obtain ⟨r_4, w_2, hq_3, hf⟩ := am_b2_some hf
  refine am_calli (r := r_4) (w' := w_2) (am_runV (n := 1) (As := [.int (xs (x4 + (1 : Int32)).toNatClampNeg)]) (rest := []) ⟨hx, hb, hml, hown, hts⟩ hK hE hH (k_X11_capture hq_3) (am_gV am_q879 am_q880 am_q881 am_q1 am_q882) (am_o11 (p := 0) (by decide +kernel)) rfl ⟨rfl, rfl⟩ (by decide +kernel) ⟨Nat.le_of_ble_eq_true rfl, Nat.le_of_ble_eq_true rfl⟩ rfl hl.1 rfl (Nat.le_of_ble_eq_true rfl) hf0 dL_law_853) hH (fun H locs hH => ?_)
  refine lv_aload_n hx hb dL_law_856 rfl (lv_at hl 2 rfl) ?_
  refine lv_aload_n hx hb dL_law_857 rfl (lv_at hl 0 rfl) ?_
  refine lv_iload hx hb dL_law_858 (lv_at hl 4 rfl) ?_
  refine lv_iconst (v := 1) hx hb dL_law_860 (by decide) ?_
  refine lv_iadd hx hb dL_law_861 ?_
  obtain ⟨hi_5, hf⟩ := am_chk_some hf
  refine va_sld hx hb hXs hbl hbA hH.2 hi_5 dL_law_862 ?_
  obtain ⟨r_8, w_6, hq_7, hf⟩ := am_b2_some hf
  refine am_calli (r := r_8) (w' := w_6) (am_runV (n := 1) (As := [.int (xs (x4 + (1 : Int32)).toNatClampNeg)]) (rest := [.int r_4]) ⟨hx, hb, hml, hown, hts⟩ hK hE hH (k_X12_capture hq_7) (am_gV am_q1679 am_q1680 am_q1681 am_q13 am_q1682) (am_o12 (p := 271) (by decide +kernel)) rfl ⟨rfl, rfl⟩ (by decide +kernel) ⟨Nat.le_of_ble_eq_true rfl, Nat.le_of_ble_eq_true rfl⟩ rfl hl.1 rfl (Nat.le_of_ble_eq_true rfl) hf0 dL_law_863) hH (fun H locs hH => ?_)
  refine lv_icmp_eq (tgt := 1962) hx hb dL_law_866 (by decide) (fun hc_9 => ?_) (fun hc_9 => ?_)
  · have hf := (if_pos hc_9).symm.trans hf
    obtain rfl := Option.some.inj hf
    exact kk H locs ls hH (lv_sub hl [0, 1, 2, 3, 4] rfl)
  · have hf := (if_neg hc_9).symm.trans hf
    refine lv_iconst (v := 0) hx hb dL_law_869 (by decide) ?_
    cases hf
def f_law_19 (Ls : Nat) (xs : Nat → Int32) (x4 : Int32) (w : am_S) : Option am_S :=
  am_chk (x4 + (1 : Int32)) Ls (am_chk (x4 + (2 : Int32)) Ls (am_chk (x4 + (3 : Int32)) Ls (am_b2 (f_X11_draw (xs (x4 + (1 : Int32)).toNatClampNeg) ((am_lshl ((xs (x4 + (2 : Int32)).toNatClampNeg).toInt64) (32 : Int32)) ||| (((xs (x4 + (3 : Int32)).toNatClampNeg).toInt64) &&& (4294967295 : Int64))) w) fun r_6 w_4 => am_chk (x4 + (1 : Int32)) Ls (am_chk (x4 + (2 : Int32)) Ls (am_chk (x4 + (3 : Int32)) Ls (am_b2 (f_X12_draw_ (xs (x4 + (1 : Int32)).toNatClampNeg) ((am_lshl ((xs (x4 + (2 : Int32)).toNatClampNeg).toInt64) (32 : Int32)) ||| (((xs (x4 + (3 : Int32)).toNatClampNeg).toInt64) &&& (4294967295 : Int64))) w_4) fun r_12 w_10 => if r_6 = r_12 then (some w_10) else none))))))
set_option maxRecDepth 100000 in
set_option maxHeartbeats 4000000 in
theorem k_law_19 {p : Program} {l : Launch} {e : Env} {s : State} {m : MethodId} {below : List Frame} {meth : Method} {c : Code} {Q : State → Prop} {cells slots b0 Ls : Nat} {xs : Nat → Int32} {x4 : Int32} {G : am_G} {w ww : am_S} {H : Heap} {locs : List Loc} {ls : Array Slot} (hx : p.tables.exec = Jvm.exec) (hb : c.code = cL_law) (hml : c.maxLocals = 7) (hown : s.vm.findClass RL = some m.cls) (hts : ∀ w ∈ am_T, w.before #[Value.ref b0] s = true) (hK : va_K G.2.2.1 vwCl (am_tys G) s) (hE : am_E G s s.heap) (hXs : va_X b0 Ls xs s s.heap) (hbl : b0 < s.heap.size) (hbA : ¬ G.1 ≤ b0) (hf0 : cells ≤ room_1.cells ∧ slots ≤ room_1.slots) (hf : f_law_19 Ls xs x4 w = some ww) (hH : am_H G w s H locs) (hl : lv_has ls 7 [(0, .ref b0), (1, .ref (G.1 + 0)), (2, .ref (G.1 + 271)), (3, .ref (G.1 + 290)), (4, .int x4)]) (kk : ∀ (H : Heap) (locs : List Loc) (ls : Array Slot), am_H G ww s H locs → lv_has ls 7 [(0, .ref b0), (1, .ref (G.1 + 0)), (2, .ref (G.1 + 271)), (3, .ref (G.1 + 290)), (4, .int x4)] → W p l e room_1 s m #[Value.ref b0] below meth c H locs cells slots Q (F0 m 1962 ls [])) : W p l e room_1 s m #[Value.ref b0] below meth c H locs cells slots Q (F0 m 871 ls []) := by
  unfold f_law_19 at hf
  refine lv_aload_n hx hb dL_law_871 rfl (lv_at hl 1 rfl) ?_
  refine lv_aload_n hx hb dL_law_872 rfl (lv_at hl 0 rfl) ?_
  refine lv_iload hx hb dL_law_873 (lv_at hl 4 rfl) ?_
  refine lv_iconst (v := 1) hx hb dL_law_875 (by decide) ?_
  refine lv_iadd hx hb dL_law_876 ?_
  obtain ⟨hi_1, hf⟩ := am_chk_some hf
  refine va_sld hx hb hXs hbl hbA hH.2 hi_1 dL_law_877 ?_
  refine lv_aload_n hx hb dL_law_878 rfl (lv_at hl 0 rfl) ?_
  refine lv_iload hx hb dL_law_879 (lv_at hl 4 rfl) ?_
  refine lv_iconst (v := 2) hx hb dL_law_881 (by decide) ?_
  refine lv_iadd hx hb dL_law_882 ?_
  obtain ⟨hi_2, hf⟩ := am_chk_some hf
  refine va_sld hx hb hXs hbl hbA hH.2 hi_2 dL_law_883 ?_
  refine lv_i2l hx hb dL_law_884 rfl ?_
  refine lv_bipush (v := 32) hx hb dL_law_885 (by decide) ?_
  refine lv_lshl (v := am_lshl ((xs (x4 + (2 : Int32)).toNatClampNeg).toInt64) (32 : Int32)) hx hb dL_law_887 rfl ?_
  refine lv_aload_n hx hb dL_law_888 rfl (lv_at hl 0 rfl) ?_
  refine lv_iload hx hb dL_law_889 (lv_at hl 4 rfl) ?_
  refine lv_iconst (v := 3) hx hb dL_law_891 (by decide) ?_
  refine lv_iadd hx hb dL_law_892 ?_
  obtain ⟨hi_3, hf⟩ := am_chk_some hf
  refine va_sld hx hb hXs hbl hbA hH.2 hi_3 dL_law_893 ?_
  refine lv_i2l hx hb dL_law_894 rfl ?_
  refine lv_ldc2 (v := 4294967295) hx hb hown (hts _ am_q2005) dL_law_895 ?_
  refine lv_land hx hb dL_law_898 ?_
  refine lv_lor hx hb dL_law_899 ?_
  obtain ⟨r_6, w_4, hq_5, hf⟩ := am_b2_some hf
  refine am_calli (r := r_6) (w' := w_4) (am_runV (n := 2) (As := [.int (xs (x4 + (1 : Int32)).toNatClampNeg), .long ((am_lshl ((xs (x4 + (2 : Int32)).toNatClampNeg).toInt64) (32 : Int32)) ||| (((xs (x4 + (3 : Int32)).toNatClampNeg).toInt64) &&& (4294967295 : Int64)))]) (rest := []) ⟨hx, hb, hml, hown, hts⟩ hK hE hH (k_X11_draw hq_5) (am_gV am_q883 am_q884 am_q885 am_q1 am_q886) (am_o11 (p := 0) (by decide +kernel)) rfl ⟨rfl, rfl⟩ (by decide +kernel) ⟨Nat.le_of_ble_eq_true rfl, Nat.le_of_ble_eq_true rfl⟩ rfl hl.1 rfl (Nat.le_of_ble_eq_true rfl) hf0 dL_law_900) hH (fun H locs hH => ?_)
  refine lv_aload_n hx hb dL_law_903 rfl (lv_at hl 2 rfl) ?_
  refine lv_aload_n hx hb dL_law_904 rfl (lv_at hl 0 rfl) ?_
  refine lv_iload hx hb dL_law_905 (lv_at hl 4 rfl) ?_
  refine lv_iconst (v := 1) hx hb dL_law_907 (by decide) ?_
  refine lv_iadd hx hb dL_law_908 ?_
  obtain ⟨hi_7, hf⟩ := am_chk_some hf
  refine va_sld hx hb hXs hbl hbA hH.2 hi_7 dL_law_909 ?_
  refine lv_aload_n hx hb dL_law_910 rfl (lv_at hl 0 rfl) ?_
  refine lv_iload hx hb dL_law_911 (lv_at hl 4 rfl) ?_
  refine lv_iconst (v := 2) hx hb dL_law_913 (by decide) ?_
  refine lv_iadd hx hb dL_law_914 ?_
  obtain ⟨hi_8, hf⟩ := am_chk_some hf
  refine va_sld hx hb hXs hbl hbA hH.2 hi_8 dL_law_915 ?_
  refine lv_i2l hx hb dL_law_916 rfl ?_
  refine lv_bipush (v := 32) hx hb dL_law_917 (by decide) ?_
  refine lv_lshl (v := am_lshl ((xs (x4 + (2 : Int32)).toNatClampNeg).toInt64) (32 : Int32)) hx hb dL_law_919 rfl ?_
  refine lv_aload_n hx hb dL_law_920 rfl (lv_at hl 0 rfl) ?_
  refine lv_iload hx hb dL_law_921 (lv_at hl 4 rfl) ?_
  refine lv_iconst (v := 3) hx hb dL_law_923 (by decide) ?_
  refine lv_iadd hx hb dL_law_924 ?_
  obtain ⟨hi_9, hf⟩ := am_chk_some hf
  refine va_sld hx hb hXs hbl hbA hH.2 hi_9 dL_law_925 ?_
  refine lv_i2l hx hb dL_law_926 rfl ?_
  refine lv_ldc2 (v := 4294967295) hx hb hown (hts _ am_q2005) dL_law_927 ?_
  refine lv_land hx hb dL_law_930 ?_
  refine lv_lor hx hb dL_law_931 ?_
  obtain ⟨r_12, w_10, hq_11, hf⟩ := am_b2_some hf
  refine am_calli (r := r_12) (w' := w_10) (am_runV (n := 2) (As := [.int (xs (x4 + (1 : Int32)).toNatClampNeg), .long ((am_lshl ((xs (x4 + (2 : Int32)).toNatClampNeg).toInt64) (32 : Int32)) ||| (((xs (x4 + (3 : Int32)).toNatClampNeg).toInt64) &&& (4294967295 : Int64)))]) (rest := [.int r_6]) ⟨hx, hb, hml, hown, hts⟩ hK hE hH (k_X12_draw_ hq_11) (am_gV am_q1683 am_q1684 am_q1685 am_q13 am_q1686) (am_o12 (p := 271) (by decide +kernel)) rfl ⟨rfl, rfl⟩ (by decide +kernel) ⟨Nat.le_of_ble_eq_true rfl, Nat.le_of_ble_eq_true rfl⟩ rfl hl.1 rfl (Nat.le_of_ble_eq_true rfl) hf0 dL_law_932) hH (fun H locs hH => ?_)
  refine lv_icmp_eq (tgt := 1962) hx hb dL_law_935 (by decide) (fun hc_13 => ?_) (fun hc_13 => ?_)
  · have hf := (if_pos hc_13).symm.trans hf
    obtain rfl := Option.some.inj hf
    exact kk H locs ls hH (lv_sub hl [0, 1, 2, 3, 4] rfl)
  · have hf := (if_neg hc_13).symm.trans hf
    refine lv_iconst (v := 0) hx hb dL_law_938 (by decide) ?_
    cases hf
def f_law_20 (Ls : Nat) (xs : Nat → Int32) (x4 : Int32) (w : am_S) : Option am_S :=
  am_chk (x4 + (1 : Int32)) Ls (am_chk (x4 + (2 : Int32)) Ls (am_b2 (f_X11_swap (xs (x4 + (1 : Int32)).toNatClampNeg) (xs (x4 + (2 : Int32)).toNatClampNeg) w) fun r_5 w_3 => am_chk (x4 + (1 : Int32)) Ls (am_chk (x4 + (2 : Int32)) Ls (am_b2 (f_X12_swap (xs (x4 + (1 : Int32)).toNatClampNeg) (xs (x4 + (2 : Int32)).toNatClampNeg) w_3) fun r_10 w_8 => if r_5 = r_10 then (some w_8) else none))))
set_option maxRecDepth 100000 in
set_option maxHeartbeats 4000000 in
theorem k_law_20 {p : Program} {l : Launch} {e : Env} {s : State} {m : MethodId} {below : List Frame} {meth : Method} {c : Code} {Q : State → Prop} {cells slots b0 Ls : Nat} {xs : Nat → Int32} {x4 : Int32} {G : am_G} {w ww : am_S} {H : Heap} {locs : List Loc} {ls : Array Slot} (hx : p.tables.exec = Jvm.exec) (hb : c.code = cL_law) (hml : c.maxLocals = 7) (hown : s.vm.findClass RL = some m.cls) (hts : ∀ w ∈ am_T, w.before #[Value.ref b0] s = true) (hK : va_K G.2.2.1 vwCl (am_tys G) s) (hE : am_E G s s.heap) (hXs : va_X b0 Ls xs s s.heap) (hbl : b0 < s.heap.size) (hbA : ¬ G.1 ≤ b0) (hf0 : cells ≤ room_1.cells ∧ slots ≤ room_1.slots) (hf : f_law_20 Ls xs x4 w = some ww) (hH : am_H G w s H locs) (hl : lv_has ls 7 [(0, .ref b0), (1, .ref (G.1 + 0)), (2, .ref (G.1 + 271)), (3, .ref (G.1 + 290)), (4, .int x4)]) (kk : ∀ (H : Heap) (locs : List Loc) (ls : Array Slot), am_H G ww s H locs → lv_has ls 7 [(0, .ref b0), (1, .ref (G.1 + 0)), (2, .ref (G.1 + 271)), (3, .ref (G.1 + 290)), (4, .int x4)] → W p l e room_1 s m #[Value.ref b0] below meth c H locs cells slots Q (F0 m 1962 ls [])) : W p l e room_1 s m #[Value.ref b0] below meth c H locs cells slots Q (F0 m 940 ls []) := by
  unfold f_law_20 at hf
  refine lv_aload_n hx hb dL_law_940 rfl (lv_at hl 1 rfl) ?_
  refine lv_aload_n hx hb dL_law_941 rfl (lv_at hl 0 rfl) ?_
  refine lv_iload hx hb dL_law_942 (lv_at hl 4 rfl) ?_
  refine lv_iconst (v := 1) hx hb dL_law_944 (by decide) ?_
  refine lv_iadd hx hb dL_law_945 ?_
  obtain ⟨hi_1, hf⟩ := am_chk_some hf
  refine va_sld hx hb hXs hbl hbA hH.2 hi_1 dL_law_946 ?_
  refine lv_aload_n hx hb dL_law_947 rfl (lv_at hl 0 rfl) ?_
  refine lv_iload hx hb dL_law_948 (lv_at hl 4 rfl) ?_
  refine lv_iconst (v := 2) hx hb dL_law_950 (by decide) ?_
  refine lv_iadd hx hb dL_law_951 ?_
  obtain ⟨hi_2, hf⟩ := am_chk_some hf
  refine va_sld hx hb hXs hbl hbA hH.2 hi_2 dL_law_952 ?_
  obtain ⟨r_5, w_3, hq_4, hf⟩ := am_b2_some hf
  refine am_calli (r := r_5) (w' := w_3) (am_runV (n := 2) (As := [.int (xs (x4 + (1 : Int32)).toNatClampNeg), .int (xs (x4 + (2 : Int32)).toNatClampNeg)]) (rest := []) ⟨hx, hb, hml, hown, hts⟩ hK hE hH (k_X11_swap hq_4) (am_gV am_q887 am_q888 am_q889 am_q1 am_q890) (am_o11 (p := 0) (by decide +kernel)) rfl ⟨rfl, rfl⟩ (by decide +kernel) ⟨Nat.le_of_ble_eq_true rfl, Nat.le_of_ble_eq_true rfl⟩ rfl hl.1 rfl (Nat.le_of_ble_eq_true rfl) hf0 dL_law_953) hH (fun H locs hH => ?_)
  refine lv_aload_n hx hb dL_law_956 rfl (lv_at hl 2 rfl) ?_
  refine lv_aload_n hx hb dL_law_957 rfl (lv_at hl 0 rfl) ?_
  refine lv_iload hx hb dL_law_958 (lv_at hl 4 rfl) ?_
  refine lv_iconst (v := 1) hx hb dL_law_960 (by decide) ?_
  refine lv_iadd hx hb dL_law_961 ?_
  obtain ⟨hi_6, hf⟩ := am_chk_some hf
  refine va_sld hx hb hXs hbl hbA hH.2 hi_6 dL_law_962 ?_
  refine lv_aload_n hx hb dL_law_963 rfl (lv_at hl 0 rfl) ?_
  refine lv_iload hx hb dL_law_964 (lv_at hl 4 rfl) ?_
  refine lv_iconst (v := 2) hx hb dL_law_966 (by decide) ?_
  refine lv_iadd hx hb dL_law_967 ?_
  obtain ⟨hi_7, hf⟩ := am_chk_some hf
  refine va_sld hx hb hXs hbl hbA hH.2 hi_7 dL_law_968 ?_
  obtain ⟨r_10, w_8, hq_9, hf⟩ := am_b2_some hf
  refine am_calli (r := r_10) (w' := w_8) (am_runV (n := 2) (As := [.int (xs (x4 + (1 : Int32)).toNatClampNeg), .int (xs (x4 + (2 : Int32)).toNatClampNeg)]) (rest := [.int r_5]) ⟨hx, hb, hml, hown, hts⟩ hK hE hH (k_X12_swap hq_9) (am_gV am_q1687 am_q1688 am_q1689 am_q13 am_q1690) (am_o12 (p := 271) (by decide +kernel)) rfl ⟨rfl, rfl⟩ (by decide +kernel) ⟨Nat.le_of_ble_eq_true rfl, Nat.le_of_ble_eq_true rfl⟩ rfl hl.1 rfl (Nat.le_of_ble_eq_true rfl) hf0 dL_law_969) hH (fun H locs hH => ?_)
  refine lv_icmp_eq (tgt := 1962) hx hb dL_law_972 (by decide) (fun hc_11 => ?_) (fun hc_11 => ?_)
  · have hf := (if_pos hc_11).symm.trans hf
    obtain rfl := Option.some.inj hf
    exact kk H locs ls hH (lv_sub hl [0, 1, 2, 3, 4] rfl)
  · have hf := (if_neg hc_11).symm.trans hf
    refine lv_iconst (v := 0) hx hb dL_law_975 (by decide) ?_
    cases hf
def f_law_21 (Ls : Nat) (xs : Nat → Int32) (x4 : Int32) (w : am_S) : Option am_S :=
  am_chk (x4 + (1 : Int32)) Ls (am_chk (x4 + (2 : Int32)) Ls (am_b2 (f_X11_file (xs (x4 + (1 : Int32)).toNatClampNeg) (xs (x4 + (2 : Int32)).toNatClampNeg) w) fun r_5 w_3 => am_chk (x4 + (1 : Int32)) Ls (am_chk (x4 + (2 : Int32)) Ls (am_b2 (f_X12_file (xs (x4 + (1 : Int32)).toNatClampNeg) (xs (x4 + (2 : Int32)).toNatClampNeg) w_3) fun r_10 w_8 => if r_5 = r_10 then (some w_8) else none))))
set_option maxRecDepth 100000 in
set_option maxHeartbeats 4000000 in
theorem k_law_21 {p : Program} {l : Launch} {e : Env} {s : State} {m : MethodId} {below : List Frame} {meth : Method} {c : Code} {Q : State → Prop} {cells slots b0 Ls : Nat} {xs : Nat → Int32} {x4 : Int32} {G : am_G} {w ww : am_S} {H : Heap} {locs : List Loc} {ls : Array Slot} (hx : p.tables.exec = Jvm.exec) (hb : c.code = cL_law) (hml : c.maxLocals = 7) (hown : s.vm.findClass RL = some m.cls) (hts : ∀ w ∈ am_T, w.before #[Value.ref b0] s = true) (hK : va_K G.2.2.1 vwCl (am_tys G) s) (hE : am_E G s s.heap) (hXs : va_X b0 Ls xs s s.heap) (hbl : b0 < s.heap.size) (hbA : ¬ G.1 ≤ b0) (hf0 : cells ≤ room_1.cells ∧ slots ≤ room_1.slots) (hf : f_law_21 Ls xs x4 w = some ww) (hH : am_H G w s H locs) (hl : lv_has ls 7 [(0, .ref b0), (1, .ref (G.1 + 0)), (2, .ref (G.1 + 271)), (3, .ref (G.1 + 290)), (4, .int x4)]) (kk : ∀ (H : Heap) (locs : List Loc) (ls : Array Slot), am_H G ww s H locs → lv_has ls 7 [(0, .ref b0), (1, .ref (G.1 + 0)), (2, .ref (G.1 + 271)), (3, .ref (G.1 + 290)), (4, .int x4)] → W p l e room_1 s m #[Value.ref b0] below meth c H locs cells slots Q (F0 m 1962 ls [])) : W p l e room_1 s m #[Value.ref b0] below meth c H locs cells slots Q (F0 m 977 ls []) := by
  unfold f_law_21 at hf
  refine lv_aload_n hx hb dL_law_977 rfl (lv_at hl 1 rfl) ?_
  refine lv_aload_n hx hb dL_law_978 rfl (lv_at hl 0 rfl) ?_
  refine lv_iload hx hb dL_law_979 (lv_at hl 4 rfl) ?_
  refine lv_iconst (v := 1) hx hb dL_law_981 (by decide) ?_
  refine lv_iadd hx hb dL_law_982 ?_
  obtain ⟨hi_1, hf⟩ := am_chk_some hf
  refine va_sld hx hb hXs hbl hbA hH.2 hi_1 dL_law_983 ?_
  refine lv_aload_n hx hb dL_law_984 rfl (lv_at hl 0 rfl) ?_
  refine lv_iload hx hb dL_law_985 (lv_at hl 4 rfl) ?_
  refine lv_iconst (v := 2) hx hb dL_law_987 (by decide) ?_
  refine lv_iadd hx hb dL_law_988 ?_
  obtain ⟨hi_2, hf⟩ := am_chk_some hf
  refine va_sld hx hb hXs hbl hbA hH.2 hi_2 dL_law_989 ?_
  obtain ⟨r_5, w_3, hq_4, hf⟩ := am_b2_some hf
  refine am_calli (r := r_5) (w' := w_3) (am_runV (n := 2) (As := [.int (xs (x4 + (1 : Int32)).toNatClampNeg), .int (xs (x4 + (2 : Int32)).toNatClampNeg)]) (rest := []) ⟨hx, hb, hml, hown, hts⟩ hK hE hH (k_X11_file hq_4) (am_gV am_q891 am_q892 am_q893 am_q1 am_q894) (am_o11 (p := 0) (by decide +kernel)) rfl ⟨rfl, rfl⟩ (by decide +kernel) ⟨Nat.le_of_ble_eq_true rfl, Nat.le_of_ble_eq_true rfl⟩ rfl hl.1 rfl (Nat.le_of_ble_eq_true rfl) hf0 dL_law_990) hH (fun H locs hH => ?_)
  refine lv_aload_n hx hb dL_law_993 rfl (lv_at hl 2 rfl) ?_
  refine lv_aload_n hx hb dL_law_994 rfl (lv_at hl 0 rfl) ?_
  refine lv_iload hx hb dL_law_995 (lv_at hl 4 rfl) ?_
  refine lv_iconst (v := 1) hx hb dL_law_997 (by decide) ?_
  refine lv_iadd hx hb dL_law_998 ?_
  obtain ⟨hi_6, hf⟩ := am_chk_some hf
  refine va_sld hx hb hXs hbl hbA hH.2 hi_6 dL_law_999 ?_
  refine lv_aload_n hx hb dL_law_1000 rfl (lv_at hl 0 rfl) ?_
  refine lv_iload hx hb dL_law_1001 (lv_at hl 4 rfl) ?_
  refine lv_iconst (v := 2) hx hb dL_law_1003 (by decide) ?_
  refine lv_iadd hx hb dL_law_1004 ?_
  obtain ⟨hi_7, hf⟩ := am_chk_some hf
  refine va_sld hx hb hXs hbl hbA hH.2 hi_7 dL_law_1005 ?_
  obtain ⟨r_10, w_8, hq_9, hf⟩ := am_b2_some hf
  refine am_calli (r := r_10) (w' := w_8) (am_runV (n := 2) (As := [.int (xs (x4 + (1 : Int32)).toNatClampNeg), .int (xs (x4 + (2 : Int32)).toNatClampNeg)]) (rest := [.int r_5]) ⟨hx, hb, hml, hown, hts⟩ hK hE hH (k_X12_file hq_9) (am_gV am_q1691 am_q1692 am_q1693 am_q13 am_q1694) (am_o12 (p := 271) (by decide +kernel)) rfl ⟨rfl, rfl⟩ (by decide +kernel) ⟨Nat.le_of_ble_eq_true rfl, Nat.le_of_ble_eq_true rfl⟩ rfl hl.1 rfl (Nat.le_of_ble_eq_true rfl) hf0 dL_law_1006) hH (fun H locs hH => ?_)
  refine lv_icmp_eq (tgt := 1962) hx hb dL_law_1009 (by decide) (fun hc_11 => ?_) (fun hc_11 => ?_)
  · have hf := (if_pos hc_11).symm.trans hf
    obtain rfl := Option.some.inj hf
    exact kk H locs ls hH (lv_sub hl [0, 1, 2, 3, 4] rfl)
  · have hf := (if_neg hc_11).symm.trans hf
    refine lv_iconst (v := 0) hx hb dL_law_1012 (by decide) ?_
    cases hf
def f_law_22 (Ls : Nat) (xs : Nat → Int32) (x4 : Int32) (w : am_S) : Option am_S :=
  am_chk (x4 + (1 : Int32)) Ls (am_chk (x4 + (2 : Int32)) Ls (am_b2 (f_X11_shelf (xs (x4 + (1 : Int32)).toNatClampNeg) (xs (x4 + (2 : Int32)).toNatClampNeg) w) fun r_5 w_3 => am_chk (x4 + (1 : Int32)) Ls (am_chk (x4 + (2 : Int32)) Ls (am_b2 (f_X12_shelf (xs (x4 + (1 : Int32)).toNatClampNeg) (xs (x4 + (2 : Int32)).toNatClampNeg) w_3) fun r_10 w_8 => if r_5 = r_10 then (some w_8) else none))))
set_option maxRecDepth 100000 in
set_option maxHeartbeats 4000000 in
theorem k_law_22 {p : Program} {l : Launch} {e : Env} {s : State} {m : MethodId} {below : List Frame} {meth : Method} {c : Code} {Q : State → Prop} {cells slots b0 Ls : Nat} {xs : Nat → Int32} {x4 : Int32} {G : am_G} {w ww : am_S} {H : Heap} {locs : List Loc} {ls : Array Slot} (hx : p.tables.exec = Jvm.exec) (hb : c.code = cL_law) (hml : c.maxLocals = 7) (hown : s.vm.findClass RL = some m.cls) (hts : ∀ w ∈ am_T, w.before #[Value.ref b0] s = true) (hK : va_K G.2.2.1 vwCl (am_tys G) s) (hE : am_E G s s.heap) (hXs : va_X b0 Ls xs s s.heap) (hbl : b0 < s.heap.size) (hbA : ¬ G.1 ≤ b0) (hf0 : cells ≤ room_1.cells ∧ slots ≤ room_1.slots) (hf : f_law_22 Ls xs x4 w = some ww) (hH : am_H G w s H locs) (hl : lv_has ls 7 [(0, .ref b0), (1, .ref (G.1 + 0)), (2, .ref (G.1 + 271)), (3, .ref (G.1 + 290)), (4, .int x4)]) (kk : ∀ (H : Heap) (locs : List Loc) (ls : Array Slot), am_H G ww s H locs → lv_has ls 7 [(0, .ref b0), (1, .ref (G.1 + 0)), (2, .ref (G.1 + 271)), (3, .ref (G.1 + 290)), (4, .int x4)] → W p l e room_1 s m #[Value.ref b0] below meth c H locs cells slots Q (F0 m 1962 ls [])) : W p l e room_1 s m #[Value.ref b0] below meth c H locs cells slots Q (F0 m 1014 ls []) := by
  unfold f_law_22 at hf
  refine lv_aload_n hx hb dL_law_1014 rfl (lv_at hl 1 rfl) ?_
  refine lv_aload_n hx hb dL_law_1015 rfl (lv_at hl 0 rfl) ?_
  refine lv_iload hx hb dL_law_1016 (lv_at hl 4 rfl) ?_
  refine lv_iconst (v := 1) hx hb dL_law_1018 (by decide) ?_
  refine lv_iadd hx hb dL_law_1019 ?_
  obtain ⟨hi_1, hf⟩ := am_chk_some hf
  refine va_sld hx hb hXs hbl hbA hH.2 hi_1 dL_law_1020 ?_
  refine lv_aload_n hx hb dL_law_1021 rfl (lv_at hl 0 rfl) ?_
  refine lv_iload hx hb dL_law_1022 (lv_at hl 4 rfl) ?_
  refine lv_iconst (v := 2) hx hb dL_law_1024 (by decide) ?_
  refine lv_iadd hx hb dL_law_1025 ?_
  obtain ⟨hi_2, hf⟩ := am_chk_some hf
  refine va_sld hx hb hXs hbl hbA hH.2 hi_2 dL_law_1026 ?_
  obtain ⟨r_5, w_3, hq_4, hf⟩ := am_b2_some hf
  refine am_calli (r := r_5) (w' := w_3) (am_runV (n := 2) (As := [.int (xs (x4 + (1 : Int32)).toNatClampNeg), .int (xs (x4 + (2 : Int32)).toNatClampNeg)]) (rest := []) ⟨hx, hb, hml, hown, hts⟩ hK hE hH (k_X11_shelf hq_4) (am_gV am_q895 am_q896 am_q897 am_q1 am_q898) (am_o11 (p := 0) (by decide +kernel)) rfl ⟨rfl, rfl⟩ (by decide +kernel) ⟨Nat.le_of_ble_eq_true rfl, Nat.le_of_ble_eq_true rfl⟩ rfl hl.1 rfl (Nat.le_of_ble_eq_true rfl) hf0 dL_law_1027) hH (fun H locs hH => ?_)
  refine lv_aload_n hx hb dL_law_1030 rfl (lv_at hl 2 rfl) ?_
  refine lv_aload_n hx hb dL_law_1031 rfl (lv_at hl 0 rfl) ?_
  refine lv_iload hx hb dL_law_1032 (lv_at hl 4 rfl) ?_
  refine lv_iconst (v := 1) hx hb dL_law_1034 (by decide) ?_
  refine lv_iadd hx hb dL_law_1035 ?_
  obtain ⟨hi_6, hf⟩ := am_chk_some hf
  refine va_sld hx hb hXs hbl hbA hH.2 hi_6 dL_law_1036 ?_
  refine lv_aload_n hx hb dL_law_1037 rfl (lv_at hl 0 rfl) ?_
  refine lv_iload hx hb dL_law_1038 (lv_at hl 4 rfl) ?_
  refine lv_iconst (v := 2) hx hb dL_law_1040 (by decide) ?_
  refine lv_iadd hx hb dL_law_1041 ?_
  obtain ⟨hi_7, hf⟩ := am_chk_some hf
  refine va_sld hx hb hXs hbl hbA hH.2 hi_7 dL_law_1042 ?_
  obtain ⟨r_10, w_8, hq_9, hf⟩ := am_b2_some hf
  refine am_calli (r := r_10) (w' := w_8) (am_runV (n := 2) (As := [.int (xs (x4 + (1 : Int32)).toNatClampNeg), .int (xs (x4 + (2 : Int32)).toNatClampNeg)]) (rest := [.int r_5]) ⟨hx, hb, hml, hown, hts⟩ hK hE hH (k_X12_shelf hq_9) (am_gV am_q1695 am_q1696 am_q1697 am_q13 am_q1698) (am_o12 (p := 271) (by decide +kernel)) rfl ⟨rfl, rfl⟩ (by decide +kernel) ⟨Nat.le_of_ble_eq_true rfl, Nat.le_of_ble_eq_true rfl⟩ rfl hl.1 rfl (Nat.le_of_ble_eq_true rfl) hf0 dL_law_1043) hH (fun H locs hH => ?_)
  refine lv_icmp_eq (tgt := 1962) hx hb dL_law_1046 (by decide) (fun hc_11 => ?_) (fun hc_11 => ?_)
  · have hf := (if_pos hc_11).symm.trans hf
    obtain rfl := Option.some.inj hf
    exact kk H locs ls hH (lv_sub hl [0, 1, 2, 3, 4] rfl)
  · have hf := (if_neg hc_11).symm.trans hf
    refine lv_iconst (v := 0) hx hb dL_law_1049 (by decide) ?_
    cases hf
def f_law_23 (Ls : Nat) (xs : Nat → Int32) (x4 : Int32) (w : am_S) : Option am_S :=
  am_chk (x4 + (1 : Int32)) Ls (am_chk (x4 + (2 : Int32)) Ls (am_chk (x4 + (3 : Int32)) Ls (am_b2 (f_X11_years (xs (x4 + (1 : Int32)).toNatClampNeg) ((am_lshl ((xs (x4 + (2 : Int32)).toNatClampNeg).toInt64) (32 : Int32)) ||| (((xs (x4 + (3 : Int32)).toNatClampNeg).toInt64) &&& (4294967295 : Int64))) w) fun r_6 w_4 => am_chk (x4 + (1 : Int32)) Ls (am_chk (x4 + (2 : Int32)) Ls (am_chk (x4 + (3 : Int32)) Ls (am_b2 (f_X12_years (xs (x4 + (1 : Int32)).toNatClampNeg) ((am_lshl ((xs (x4 + (2 : Int32)).toNatClampNeg).toInt64) (32 : Int32)) ||| (((xs (x4 + (3 : Int32)).toNatClampNeg).toInt64) &&& (4294967295 : Int64))) w_4) fun r_12 w_10 => if r_6 = r_12 then (some w_10) else none))))))
set_option maxRecDepth 100000 in
set_option maxHeartbeats 4000000 in
theorem k_law_23 {p : Program} {l : Launch} {e : Env} {s : State} {m : MethodId} {below : List Frame} {meth : Method} {c : Code} {Q : State → Prop} {cells slots b0 Ls : Nat} {xs : Nat → Int32} {x4 : Int32} {G : am_G} {w ww : am_S} {H : Heap} {locs : List Loc} {ls : Array Slot} (hx : p.tables.exec = Jvm.exec) (hb : c.code = cL_law) (hml : c.maxLocals = 7) (hown : s.vm.findClass RL = some m.cls) (hts : ∀ w ∈ am_T, w.before #[Value.ref b0] s = true) (hK : va_K G.2.2.1 vwCl (am_tys G) s) (hE : am_E G s s.heap) (hXs : va_X b0 Ls xs s s.heap) (hbl : b0 < s.heap.size) (hbA : ¬ G.1 ≤ b0) (hf0 : cells ≤ room_1.cells ∧ slots ≤ room_1.slots) (hf : f_law_23 Ls xs x4 w = some ww) (hH : am_H G w s H locs) (hl : lv_has ls 7 [(0, .ref b0), (1, .ref (G.1 + 0)), (2, .ref (G.1 + 271)), (3, .ref (G.1 + 290)), (4, .int x4)]) (kk : ∀ (H : Heap) (locs : List Loc) (ls : Array Slot), am_H G ww s H locs → lv_has ls 7 [(0, .ref b0), (1, .ref (G.1 + 0)), (2, .ref (G.1 + 271)), (3, .ref (G.1 + 290)), (4, .int x4)] → W p l e room_1 s m #[Value.ref b0] below meth c H locs cells slots Q (F0 m 1962 ls [])) : W p l e room_1 s m #[Value.ref b0] below meth c H locs cells slots Q (F0 m 1051 ls []) := by
  unfold f_law_23 at hf
  refine lv_aload_n hx hb dL_law_1051 rfl (lv_at hl 1 rfl) ?_
  refine lv_aload_n hx hb dL_law_1052 rfl (lv_at hl 0 rfl) ?_
  refine lv_iload hx hb dL_law_1053 (lv_at hl 4 rfl) ?_
  refine lv_iconst (v := 1) hx hb dL_law_1055 (by decide) ?_
  refine lv_iadd hx hb dL_law_1056 ?_
  obtain ⟨hi_1, hf⟩ := am_chk_some hf
  refine va_sld hx hb hXs hbl hbA hH.2 hi_1 dL_law_1057 ?_
  refine lv_aload_n hx hb dL_law_1058 rfl (lv_at hl 0 rfl) ?_
  refine lv_iload hx hb dL_law_1059 (lv_at hl 4 rfl) ?_
  refine lv_iconst (v := 2) hx hb dL_law_1061 (by decide) ?_
  refine lv_iadd hx hb dL_law_1062 ?_
  obtain ⟨hi_2, hf⟩ := am_chk_some hf
  refine va_sld hx hb hXs hbl hbA hH.2 hi_2 dL_law_1063 ?_
  refine lv_i2l hx hb dL_law_1064 rfl ?_
  refine lv_bipush (v := 32) hx hb dL_law_1065 (by decide) ?_
  refine lv_lshl (v := am_lshl ((xs (x4 + (2 : Int32)).toNatClampNeg).toInt64) (32 : Int32)) hx hb dL_law_1067 rfl ?_
  refine lv_aload_n hx hb dL_law_1068 rfl (lv_at hl 0 rfl) ?_
  refine lv_iload hx hb dL_law_1069 (lv_at hl 4 rfl) ?_
  refine lv_iconst (v := 3) hx hb dL_law_1071 (by decide) ?_
  refine lv_iadd hx hb dL_law_1072 ?_
  obtain ⟨hi_3, hf⟩ := am_chk_some hf
  refine va_sld hx hb hXs hbl hbA hH.2 hi_3 dL_law_1073 ?_
  refine lv_i2l hx hb dL_law_1074 rfl ?_
  refine lv_ldc2 (v := 4294967295) hx hb hown (hts _ am_q2005) dL_law_1075 ?_
  refine lv_land hx hb dL_law_1078 ?_
  refine lv_lor hx hb dL_law_1079 ?_
  obtain ⟨r_6, w_4, hq_5, hf⟩ := am_b2_some hf
  refine am_calli (r := r_6) (w' := w_4) (am_runV (n := 2) (As := [.int (xs (x4 + (1 : Int32)).toNatClampNeg), .long ((am_lshl ((xs (x4 + (2 : Int32)).toNatClampNeg).toInt64) (32 : Int32)) ||| (((xs (x4 + (3 : Int32)).toNatClampNeg).toInt64) &&& (4294967295 : Int64)))]) (rest := []) ⟨hx, hb, hml, hown, hts⟩ hK hE hH (k_X11_years hq_5) (am_gV am_q899 am_q900 am_q901 am_q1 am_q902) (am_o11 (p := 0) (by decide +kernel)) rfl ⟨rfl, rfl⟩ (by decide +kernel) ⟨Nat.le_of_ble_eq_true rfl, Nat.le_of_ble_eq_true rfl⟩ rfl hl.1 rfl (Nat.le_of_ble_eq_true rfl) hf0 dL_law_1080) hH (fun H locs hH => ?_)
  refine lv_aload_n hx hb dL_law_1083 rfl (lv_at hl 2 rfl) ?_
  refine lv_aload_n hx hb dL_law_1084 rfl (lv_at hl 0 rfl) ?_
  refine lv_iload hx hb dL_law_1085 (lv_at hl 4 rfl) ?_
  refine lv_iconst (v := 1) hx hb dL_law_1087 (by decide) ?_
  refine lv_iadd hx hb dL_law_1088 ?_
  obtain ⟨hi_7, hf⟩ := am_chk_some hf
  refine va_sld hx hb hXs hbl hbA hH.2 hi_7 dL_law_1089 ?_
  refine lv_aload_n hx hb dL_law_1090 rfl (lv_at hl 0 rfl) ?_
  refine lv_iload hx hb dL_law_1091 (lv_at hl 4 rfl) ?_
  refine lv_iconst (v := 2) hx hb dL_law_1093 (by decide) ?_
  refine lv_iadd hx hb dL_law_1094 ?_
  obtain ⟨hi_8, hf⟩ := am_chk_some hf
  refine va_sld hx hb hXs hbl hbA hH.2 hi_8 dL_law_1095 ?_
  refine lv_i2l hx hb dL_law_1096 rfl ?_
  refine lv_bipush (v := 32) hx hb dL_law_1097 (by decide) ?_
  refine lv_lshl (v := am_lshl ((xs (x4 + (2 : Int32)).toNatClampNeg).toInt64) (32 : Int32)) hx hb dL_law_1099 rfl ?_
  refine lv_aload_n hx hb dL_law_1100 rfl (lv_at hl 0 rfl) ?_
  refine lv_iload hx hb dL_law_1101 (lv_at hl 4 rfl) ?_
  refine lv_iconst (v := 3) hx hb dL_law_1103 (by decide) ?_
  refine lv_iadd hx hb dL_law_1104 ?_
  obtain ⟨hi_9, hf⟩ := am_chk_some hf
  refine va_sld hx hb hXs hbl hbA hH.2 hi_9 dL_law_1105 ?_
  refine lv_i2l hx hb dL_law_1106 rfl ?_
  refine lv_ldc2 (v := 4294967295) hx hb hown (hts _ am_q2005) dL_law_1107 ?_
  refine lv_land hx hb dL_law_1110 ?_
  refine lv_lor hx hb dL_law_1111 ?_
  obtain ⟨r_12, w_10, hq_11, hf⟩ := am_b2_some hf
  refine am_calli (r := r_12) (w' := w_10) (am_runV (n := 2) (As := [.int (xs (x4 + (1 : Int32)).toNatClampNeg), .long ((am_lshl ((xs (x4 + (2 : Int32)).toNatClampNeg).toInt64) (32 : Int32)) ||| (((xs (x4 + (3 : Int32)).toNatClampNeg).toInt64) &&& (4294967295 : Int64)))]) (rest := [.int r_6]) ⟨hx, hb, hml, hown, hts⟩ hK hE hH (k_X12_years hq_11) (am_gV am_q1699 am_q1700 am_q1701 am_q13 am_q1702) (am_o12 (p := 271) (by decide +kernel)) rfl ⟨rfl, rfl⟩ (by decide +kernel) ⟨Nat.le_of_ble_eq_true rfl, Nat.le_of_ble_eq_true rfl⟩ rfl hl.1 rfl (Nat.le_of_ble_eq_true rfl) hf0 dL_law_1112) hH (fun H locs hH => ?_)
  refine lv_icmp_eq (tgt := 1962) hx hb dL_law_1115 (by decide) (fun hc_13 => ?_) (fun hc_13 => ?_)
  · have hf := (if_pos hc_13).symm.trans hf
    obtain rfl := Option.some.inj hf
    exact kk H locs ls hH (lv_sub hl [0, 1, 2, 3, 4] rfl)
  · have hf := (if_neg hc_13).symm.trans hf
    refine lv_iconst (v := 0) hx hb dL_law_1118 (by decide) ?_
    cases hf
def f_law_24 (Ls : Nat) (xs : Nat → Int32) (x4 : Int32) (w : am_S) : Option am_S :=
  am_chk (x4 + (1 : Int32)) Ls (am_b2 (f_X11_status (xs (x4 + (1 : Int32)).toNatClampNeg) w) fun r_4 w_2 => am_chk (x4 + (1 : Int32)) Ls (am_b2 (f_X12_status (xs (x4 + (1 : Int32)).toNatClampNeg) w_2) fun r_8 w_6 => if r_4 = r_8 then (some w_6) else none))
set_option maxRecDepth 100000 in
set_option maxHeartbeats 4000000 in
theorem k_law_24 {p : Program} {l : Launch} {e : Env} {s : State} {m : MethodId} {below : List Frame} {meth : Method} {c : Code} {Q : State → Prop} {cells slots b0 Ls : Nat} {xs : Nat → Int32} {x4 : Int32} {G : am_G} {w ww : am_S} {H : Heap} {locs : List Loc} {ls : Array Slot} (hx : p.tables.exec = Jvm.exec) (hb : c.code = cL_law) (hml : c.maxLocals = 7) (hown : s.vm.findClass RL = some m.cls) (hts : ∀ w ∈ am_T, w.before #[Value.ref b0] s = true) (hK : va_K G.2.2.1 vwCl (am_tys G) s) (hE : am_E G s s.heap) (hXs : va_X b0 Ls xs s s.heap) (hbl : b0 < s.heap.size) (hbA : ¬ G.1 ≤ b0) (hf0 : cells ≤ room_1.cells ∧ slots ≤ room_1.slots) (hf : f_law_24 Ls xs x4 w = some ww) (hH : am_H G w s H locs) (hl : lv_has ls 7 [(0, .ref b0), (1, .ref (G.1 + 0)), (2, .ref (G.1 + 271)), (3, .ref (G.1 + 290)), (4, .int x4)]) (kk : ∀ (H : Heap) (locs : List Loc) (ls : Array Slot), am_H G ww s H locs → lv_has ls 7 [(0, .ref b0), (1, .ref (G.1 + 0)), (2, .ref (G.1 + 271)), (3, .ref (G.1 + 290)), (4, .int x4)] → W p l e room_1 s m #[Value.ref b0] below meth c H locs cells slots Q (F0 m 1962 ls [])) : W p l e room_1 s m #[Value.ref b0] below meth c H locs cells slots Q (F0 m 1120 ls []) := by
  unfold f_law_24 at hf
  refine lv_aload_n hx hb dL_law_1120 rfl (lv_at hl 1 rfl) ?_
  refine lv_aload_n hx hb dL_law_1121 rfl (lv_at hl 0 rfl) ?_
  refine lv_iload hx hb dL_law_1122 (lv_at hl 4 rfl) ?_
  refine lv_iconst (v := 1) hx hb dL_law_1124 (by decide) ?_
  refine lv_iadd hx hb dL_law_1125 ?_
  obtain ⟨hi_1, hf⟩ := am_chk_some hf
  refine va_sld hx hb hXs hbl hbA hH.2 hi_1 dL_law_1126 ?_
  obtain ⟨r_4, w_2, hq_3, hf⟩ := am_b2_some hf
  refine am_calli (r := r_4) (w' := w_2) (am_runV (n := 1) (As := [.int (xs (x4 + (1 : Int32)).toNatClampNeg)]) (rest := []) ⟨hx, hb, hml, hown, hts⟩ hK hE hH (k_X11_status hq_3) (am_gV am_q911 am_q912 am_q913 am_q1 am_q914) (am_o11 (p := 0) (by decide +kernel)) rfl ⟨rfl, rfl⟩ (by decide +kernel) ⟨Nat.le_of_ble_eq_true rfl, Nat.le_of_ble_eq_true rfl⟩ rfl hl.1 rfl (Nat.le_of_ble_eq_true rfl) hf0 dL_law_1127) hH (fun H locs hH => ?_)
  refine lv_aload_n hx hb dL_law_1130 rfl (lv_at hl 2 rfl) ?_
  refine lv_aload_n hx hb dL_law_1131 rfl (lv_at hl 0 rfl) ?_
  refine lv_iload hx hb dL_law_1132 (lv_at hl 4 rfl) ?_
  refine lv_iconst (v := 1) hx hb dL_law_1134 (by decide) ?_
  refine lv_iadd hx hb dL_law_1135 ?_
  obtain ⟨hi_5, hf⟩ := am_chk_some hf
  refine va_sld hx hb hXs hbl hbA hH.2 hi_5 dL_law_1136 ?_
  obtain ⟨r_8, w_6, hq_7, hf⟩ := am_b2_some hf
  refine am_calli (r := r_8) (w' := w_6) (am_runV (n := 1) (As := [.int (xs (x4 + (1 : Int32)).toNatClampNeg)]) (rest := [.int r_4]) ⟨hx, hb, hml, hown, hts⟩ hK hE hH (k_X12_status hq_7) (am_gV am_q1711 am_q1712 am_q1713 am_q13 am_q1714) (am_o12 (p := 271) (by decide +kernel)) rfl ⟨rfl, rfl⟩ (by decide +kernel) ⟨Nat.le_of_ble_eq_true rfl, Nat.le_of_ble_eq_true rfl⟩ rfl hl.1 rfl (Nat.le_of_ble_eq_true rfl) hf0 dL_law_1137) hH (fun H locs hH => ?_)
  refine lv_icmp_eq (tgt := 1962) hx hb dL_law_1140 (by decide) (fun hc_9 => ?_) (fun hc_9 => ?_)
  · have hf := (if_pos hc_9).symm.trans hf
    obtain rfl := Option.some.inj hf
    exact kk H locs ls hH (lv_sub hl [0, 1, 2, 3, 4] rfl)
  · have hf := (if_neg hc_9).symm.trans hf
    refine lv_iconst (v := 0) hx hb dL_law_1143 (by decide) ?_
    cases hf
def f_law_25 (Ls : Nat) (xs : Nat → Int32) (x4 : Int32) (w : am_S) : Option am_S :=
  am_b2 (f_X11_undo w) fun r_3 w_1 => am_b2 (f_X12_undo w_1) fun r_6 w_4 => if r_3 = r_6 then (some w_4) else none
set_option maxRecDepth 100000 in
set_option maxHeartbeats 4000000 in
theorem k_law_25 {p : Program} {l : Launch} {e : Env} {s : State} {m : MethodId} {below : List Frame} {meth : Method} {c : Code} {Q : State → Prop} {cells slots b0 Ls : Nat} {xs : Nat → Int32} {x4 : Int32} {G : am_G} {w ww : am_S} {H : Heap} {locs : List Loc} {ls : Array Slot} (hx : p.tables.exec = Jvm.exec) (hb : c.code = cL_law) (hml : c.maxLocals = 7) (hown : s.vm.findClass RL = some m.cls) (hts : ∀ w ∈ am_T, w.before #[Value.ref b0] s = true) (hK : va_K G.2.2.1 vwCl (am_tys G) s) (hE : am_E G s s.heap) (hXs : va_X b0 Ls xs s s.heap) (hbl : b0 < s.heap.size) (hbA : ¬ G.1 ≤ b0) (hf0 : cells ≤ room_1.cells ∧ slots ≤ room_1.slots) (hf : f_law_25 Ls xs x4 w = some ww) (hH : am_H G w s H locs) (hl : lv_has ls 7 [(0, .ref b0), (1, .ref (G.1 + 0)), (2, .ref (G.1 + 271)), (3, .ref (G.1 + 290)), (4, .int x4)]) (kk : ∀ (H : Heap) (locs : List Loc) (ls : Array Slot), am_H G ww s H locs → lv_has ls 7 [(0, .ref b0), (1, .ref (G.1 + 0)), (2, .ref (G.1 + 271)), (3, .ref (G.1 + 290)), (4, .int x4)] → W p l e room_1 s m #[Value.ref b0] below meth c H locs cells slots Q (F0 m 1962 ls [])) : W p l e room_1 s m #[Value.ref b0] below meth c H locs cells slots Q (F0 m 1145 ls []) := by
  unfold f_law_25 at hf
  refine lv_aload_n hx hb dL_law_1145 rfl (lv_at hl 1 rfl) ?_
  obtain ⟨r_3, w_1, hq_2, hf⟩ := am_b2_some hf
  refine am_calli (r := r_3) (w' := w_1) (am_runV (n := 0) (As := []) (rest := []) ⟨hx, hb, hml, hown, hts⟩ hK hE hH (k_X11_undo hq_2) (am_gV am_q915 am_q916 am_q917 am_q1 am_q918) (am_o11 (p := 0) (by decide +kernel)) rfl ⟨rfl, rfl⟩ (by decide +kernel) ⟨Nat.le_of_ble_eq_true rfl, Nat.le_of_ble_eq_true rfl⟩ rfl hl.1 rfl (Nat.le_of_ble_eq_true rfl) hf0 dL_law_1146) hH (fun H locs hH => ?_)
  refine lv_aload_n hx hb dL_law_1149 rfl (lv_at hl 2 rfl) ?_
  obtain ⟨r_6, w_4, hq_5, hf⟩ := am_b2_some hf
  refine am_calli (r := r_6) (w' := w_4) (am_runV (n := 0) (As := []) (rest := [.int r_3]) ⟨hx, hb, hml, hown, hts⟩ hK hE hH (k_X12_undo hq_5) (am_gV am_q1715 am_q1716 am_q1717 am_q13 am_q1718) (am_o12 (p := 271) (by decide +kernel)) rfl ⟨rfl, rfl⟩ (by decide +kernel) ⟨Nat.le_of_ble_eq_true rfl, Nat.le_of_ble_eq_true rfl⟩ rfl hl.1 rfl (Nat.le_of_ble_eq_true rfl) hf0 dL_law_1150) hH (fun H locs hH => ?_)
  refine lv_icmp_eq (tgt := 1962) hx hb dL_law_1153 (by decide) (fun hc_7 => ?_) (fun hc_7 => ?_)
  · have hf := (if_pos hc_7).symm.trans hf
    obtain rfl := Option.some.inj hf
    exact kk H locs ls hH (lv_sub hl [0, 1, 2, 3, 4] rfl)
  · have hf := (if_neg hc_7).symm.trans hf
    refine lv_iconst (v := 0) hx hb dL_law_1156 (by decide) ?_
    cases hf
def f_law_26 (Ls : Nat) (xs : Nat → Int32) (x4 : Int32) (w : am_S) : Option am_S :=
  am_chk (x4 + (1 : Int32)) Ls (am_chk (x4 + (2 : Int32)) Ls (am_b2 (f_X11_log (xs (x4 + (1 : Int32)).toNatClampNeg) (xs (x4 + (2 : Int32)).toNatClampNeg) w) fun r_5 w_3 => am_chk (x4 + (1 : Int32)) Ls (am_chk (x4 + (2 : Int32)) Ls (am_b2 (f_X12_log (xs (x4 + (1 : Int32)).toNatClampNeg) (xs (x4 + (2 : Int32)).toNatClampNeg) w_3) fun r_10 w_8 => if r_5 = r_10 then (some w_8) else none))))
set_option maxRecDepth 100000 in
set_option maxHeartbeats 4000000 in
theorem k_law_26 {p : Program} {l : Launch} {e : Env} {s : State} {m : MethodId} {below : List Frame} {meth : Method} {c : Code} {Q : State → Prop} {cells slots b0 Ls : Nat} {xs : Nat → Int32} {x4 : Int32} {G : am_G} {w ww : am_S} {H : Heap} {locs : List Loc} {ls : Array Slot} (hx : p.tables.exec = Jvm.exec) (hb : c.code = cL_law) (hml : c.maxLocals = 7) (hown : s.vm.findClass RL = some m.cls) (hts : ∀ w ∈ am_T, w.before #[Value.ref b0] s = true) (hK : va_K G.2.2.1 vwCl (am_tys G) s) (hE : am_E G s s.heap) (hXs : va_X b0 Ls xs s s.heap) (hbl : b0 < s.heap.size) (hbA : ¬ G.1 ≤ b0) (hf0 : cells ≤ room_1.cells ∧ slots ≤ room_1.slots) (hf : f_law_26 Ls xs x4 w = some ww) (hH : am_H G w s H locs) (hl : lv_has ls 7 [(0, .ref b0), (1, .ref (G.1 + 0)), (2, .ref (G.1 + 271)), (3, .ref (G.1 + 290)), (4, .int x4)]) (kk : ∀ (H : Heap) (locs : List Loc) (ls : Array Slot), am_H G ww s H locs → lv_has ls 7 [(0, .ref b0), (1, .ref (G.1 + 0)), (2, .ref (G.1 + 271)), (3, .ref (G.1 + 290)), (4, .int x4)] → W p l e room_1 s m #[Value.ref b0] below meth c H locs cells slots Q (F0 m 1962 ls [])) : W p l e room_1 s m #[Value.ref b0] below meth c H locs cells slots Q (F0 m 1158 ls []) := by
  unfold f_law_26 at hf
  refine lv_aload_n hx hb dL_law_1158 rfl (lv_at hl 1 rfl) ?_
  refine lv_aload_n hx hb dL_law_1159 rfl (lv_at hl 0 rfl) ?_
  refine lv_iload hx hb dL_law_1160 (lv_at hl 4 rfl) ?_
  refine lv_iconst (v := 1) hx hb dL_law_1162 (by decide) ?_
  refine lv_iadd hx hb dL_law_1163 ?_
  obtain ⟨hi_1, hf⟩ := am_chk_some hf
  refine va_sld hx hb hXs hbl hbA hH.2 hi_1 dL_law_1164 ?_
  refine lv_aload_n hx hb dL_law_1165 rfl (lv_at hl 0 rfl) ?_
  refine lv_iload hx hb dL_law_1166 (lv_at hl 4 rfl) ?_
  refine lv_iconst (v := 2) hx hb dL_law_1168 (by decide) ?_
  refine lv_iadd hx hb dL_law_1169 ?_
  obtain ⟨hi_2, hf⟩ := am_chk_some hf
  refine va_sld hx hb hXs hbl hbA hH.2 hi_2 dL_law_1170 ?_
  obtain ⟨r_5, w_3, hq_4, hf⟩ := am_b2_some hf
  refine am_calli (r := r_5) (w' := w_3) (am_runV (n := 2) (As := [.int (xs (x4 + (1 : Int32)).toNatClampNeg), .int (xs (x4 + (2 : Int32)).toNatClampNeg)]) (rest := []) ⟨hx, hb, hml, hown, hts⟩ hK hE hH (k_X11_log hq_4) (am_gV am_q923 am_q924 am_q925 am_q1 am_q926) (am_o11 (p := 0) (by decide +kernel)) rfl ⟨rfl, rfl⟩ (by decide +kernel) ⟨Nat.le_of_ble_eq_true rfl, Nat.le_of_ble_eq_true rfl⟩ rfl hl.1 rfl (Nat.le_of_ble_eq_true rfl) hf0 dL_law_1171) hH (fun H locs hH => ?_)
  refine lv_aload_n hx hb dL_law_1174 rfl (lv_at hl 2 rfl) ?_
  refine lv_aload_n hx hb dL_law_1175 rfl (lv_at hl 0 rfl) ?_
  refine lv_iload hx hb dL_law_1176 (lv_at hl 4 rfl) ?_
  refine lv_iconst (v := 1) hx hb dL_law_1178 (by decide) ?_
  refine lv_iadd hx hb dL_law_1179 ?_
  obtain ⟨hi_6, hf⟩ := am_chk_some hf
  refine va_sld hx hb hXs hbl hbA hH.2 hi_6 dL_law_1180 ?_
  refine lv_aload_n hx hb dL_law_1181 rfl (lv_at hl 0 rfl) ?_
  refine lv_iload hx hb dL_law_1182 (lv_at hl 4 rfl) ?_
  refine lv_iconst (v := 2) hx hb dL_law_1184 (by decide) ?_
  refine lv_iadd hx hb dL_law_1185 ?_
  obtain ⟨hi_7, hf⟩ := am_chk_some hf
  refine va_sld hx hb hXs hbl hbA hH.2 hi_7 dL_law_1186 ?_
  obtain ⟨r_10, w_8, hq_9, hf⟩ := am_b2_some hf
  refine am_calli (r := r_10) (w' := w_8) (am_runV (n := 2) (As := [.int (xs (x4 + (1 : Int32)).toNatClampNeg), .int (xs (x4 + (2 : Int32)).toNatClampNeg)]) (rest := [.int r_5]) ⟨hx, hb, hml, hown, hts⟩ hK hE hH (k_X12_log hq_9) (am_gV am_q1719 am_q1720 am_q1721 am_q13 am_q1722) (am_o12 (p := 271) (by decide +kernel)) rfl ⟨rfl, rfl⟩ (by decide +kernel) ⟨Nat.le_of_ble_eq_true rfl, Nat.le_of_ble_eq_true rfl⟩ rfl hl.1 rfl (Nat.le_of_ble_eq_true rfl) hf0 dL_law_1187) hH (fun H locs hH => ?_)
  refine lv_icmp_eq (tgt := 1962) hx hb dL_law_1190 (by decide) (fun hc_11 => ?_) (fun hc_11 => ?_)
  · have hf := (if_pos hc_11).symm.trans hf
    obtain rfl := Option.some.inj hf
    exact kk H locs ls hH (lv_sub hl [0, 1, 2, 3, 4] rfl)
  · have hf := (if_neg hc_11).symm.trans hf
    refine lv_iconst (v := 0) hx hb dL_law_1193 (by decide) ?_
    cases hf
def f_law_27 (Ls : Nat) (xs : Nat → Int32) (x4 : Int32) (w : am_S) : Option am_S :=
  am_chk (x4 + (1 : Int32)) Ls (am_b2 (f_X11_solved (xs (x4 + (1 : Int32)).toNatClampNeg) w) fun r_4 w_2 => am_chk (x4 + (1 : Int32)) Ls (am_b2 (f_X12_solved (xs (x4 + (1 : Int32)).toNatClampNeg) w_2) fun r_8 w_6 => if r_4 = r_8 then (some w_6) else none))
set_option maxRecDepth 100000 in
set_option maxHeartbeats 4000000 in
theorem k_law_27 {p : Program} {l : Launch} {e : Env} {s : State} {m : MethodId} {below : List Frame} {meth : Method} {c : Code} {Q : State → Prop} {cells slots b0 Ls : Nat} {xs : Nat → Int32} {x4 : Int32} {G : am_G} {w ww : am_S} {H : Heap} {locs : List Loc} {ls : Array Slot} (hx : p.tables.exec = Jvm.exec) (hb : c.code = cL_law) (hml : c.maxLocals = 7) (hown : s.vm.findClass RL = some m.cls) (hts : ∀ w ∈ am_T, w.before #[Value.ref b0] s = true) (hK : va_K G.2.2.1 vwCl (am_tys G) s) (hE : am_E G s s.heap) (hXs : va_X b0 Ls xs s s.heap) (hbl : b0 < s.heap.size) (hbA : ¬ G.1 ≤ b0) (hf0 : cells ≤ room_1.cells ∧ slots ≤ room_1.slots) (hf : f_law_27 Ls xs x4 w = some ww) (hH : am_H G w s H locs) (hl : lv_has ls 7 [(0, .ref b0), (1, .ref (G.1 + 0)), (2, .ref (G.1 + 271)), (3, .ref (G.1 + 290)), (4, .int x4)]) (kk : ∀ (H : Heap) (locs : List Loc) (ls : Array Slot), am_H G ww s H locs → lv_has ls 7 [(0, .ref b0), (1, .ref (G.1 + 0)), (2, .ref (G.1 + 271)), (3, .ref (G.1 + 290)), (4, .int x4)] → W p l e room_1 s m #[Value.ref b0] below meth c H locs cells slots Q (F0 m 1962 ls [])) : W p l e room_1 s m #[Value.ref b0] below meth c H locs cells slots Q (F0 m 1195 ls []) := by
  unfold f_law_27 at hf
  refine lv_aload_n hx hb dL_law_1195 rfl (lv_at hl 1 rfl) ?_
  refine lv_aload_n hx hb dL_law_1196 rfl (lv_at hl 0 rfl) ?_
  refine lv_iload hx hb dL_law_1197 (lv_at hl 4 rfl) ?_
  refine lv_iconst (v := 1) hx hb dL_law_1199 (by decide) ?_
  refine lv_iadd hx hb dL_law_1200 ?_
  obtain ⟨hi_1, hf⟩ := am_chk_some hf
  refine va_sld hx hb hXs hbl hbA hH.2 hi_1 dL_law_1201 ?_
  obtain ⟨r_4, w_2, hq_3, hf⟩ := am_b2_some hf
  refine am_calli (r := r_4) (w' := w_2) (am_runV (n := 1) (As := [.int (xs (x4 + (1 : Int32)).toNatClampNeg)]) (rest := []) ⟨hx, hb, hml, hown, hts⟩ hK hE hH (k_X11_solved hq_3) (am_gV am_q939 am_q940 am_q941 am_q1 am_q942) (am_o11 (p := 0) (by decide +kernel)) rfl ⟨rfl, rfl⟩ (by decide +kernel) ⟨Nat.le_of_ble_eq_true rfl, Nat.le_of_ble_eq_true rfl⟩ rfl hl.1 rfl (Nat.le_of_ble_eq_true rfl) hf0 dL_law_1202) hH (fun H locs hH => ?_)
  refine lv_aload_n hx hb dL_law_1205 rfl (lv_at hl 2 rfl) ?_
  refine lv_aload_n hx hb dL_law_1206 rfl (lv_at hl 0 rfl) ?_
  refine lv_iload hx hb dL_law_1207 (lv_at hl 4 rfl) ?_
  refine lv_iconst (v := 1) hx hb dL_law_1209 (by decide) ?_
  refine lv_iadd hx hb dL_law_1210 ?_
  obtain ⟨hi_5, hf⟩ := am_chk_some hf
  refine va_sld hx hb hXs hbl hbA hH.2 hi_5 dL_law_1211 ?_
  obtain ⟨r_8, w_6, hq_7, hf⟩ := am_b2_some hf
  refine am_calli (r := r_8) (w' := w_6) (am_runV (n := 1) (As := [.int (xs (x4 + (1 : Int32)).toNatClampNeg)]) (rest := [.int r_4]) ⟨hx, hb, hml, hown, hts⟩ hK hE hH (k_X12_solved hq_7) (am_gV am_q1830 am_q1831 am_q1832 am_q13 am_q1833) (am_o12 (p := 271) (by decide +kernel)) rfl ⟨rfl, rfl⟩ (by decide +kernel) ⟨Nat.le_of_ble_eq_true rfl, Nat.le_of_ble_eq_true rfl⟩ rfl hl.1 rfl (Nat.le_of_ble_eq_true rfl) hf0 dL_law_1212) hH (fun H locs hH => ?_)
  refine lv_icmp_eq (tgt := 1962) hx hb dL_law_1215 (by decide) (fun hc_9 => ?_) (fun hc_9 => ?_)
  · have hf := (if_pos hc_9).symm.trans hf
    obtain rfl := Option.some.inj hf
    exact kk H locs ls hH (lv_sub hl [0, 1, 2, 3, 4] rfl)
  · have hf := (if_neg hc_9).symm.trans hf
    refine lv_iconst (v := 0) hx hb dL_law_1218 (by decide) ?_
    cases hf
def f_law_28 (Ls : Nat) (xs : Nat → Int32) (x4 : Int32) (w : am_S) : Option am_S :=
  am_chk (x4 + (1 : Int32)) Ls (am_b2 (f_X11_ahead (xs (x4 + (1 : Int32)).toNatClampNeg) w) fun r_4 w_2 => am_chk (x4 + (1 : Int32)) Ls (am_b2 (f_X12_ahead_ (xs (x4 + (1 : Int32)).toNatClampNeg) w_2) fun r_8 w_6 => if r_4 = r_8 then (some w_6) else none))
set_option maxRecDepth 100000 in
set_option maxHeartbeats 4000000 in
theorem k_law_28 {p : Program} {l : Launch} {e : Env} {s : State} {m : MethodId} {below : List Frame} {meth : Method} {c : Code} {Q : State → Prop} {cells slots b0 Ls : Nat} {xs : Nat → Int32} {x4 : Int32} {G : am_G} {w ww : am_S} {H : Heap} {locs : List Loc} {ls : Array Slot} (hx : p.tables.exec = Jvm.exec) (hb : c.code = cL_law) (hml : c.maxLocals = 7) (hown : s.vm.findClass RL = some m.cls) (hts : ∀ w ∈ am_T, w.before #[Value.ref b0] s = true) (hK : va_K G.2.2.1 vwCl (am_tys G) s) (hE : am_E G s s.heap) (hXs : va_X b0 Ls xs s s.heap) (hbl : b0 < s.heap.size) (hbA : ¬ G.1 ≤ b0) (hf0 : cells ≤ room_1.cells ∧ slots ≤ room_1.slots) (hf : f_law_28 Ls xs x4 w = some ww) (hH : am_H G w s H locs) (hl : lv_has ls 7 [(0, .ref b0), (1, .ref (G.1 + 0)), (2, .ref (G.1 + 271)), (3, .ref (G.1 + 290)), (4, .int x4)]) (kk : ∀ (H : Heap) (locs : List Loc) (ls : Array Slot), am_H G ww s H locs → lv_has ls 7 [(0, .ref b0), (1, .ref (G.1 + 0)), (2, .ref (G.1 + 271)), (3, .ref (G.1 + 290)), (4, .int x4)] → W p l e room_1 s m #[Value.ref b0] below meth c H locs cells slots Q (F0 m 1962 ls [])) : W p l e room_1 s m #[Value.ref b0] below meth c H locs cells slots Q (F0 m 1220 ls []) := by
  unfold f_law_28 at hf
  refine lv_aload_n hx hb dL_law_1220 rfl (lv_at hl 1 rfl) ?_
  refine lv_aload_n hx hb dL_law_1221 rfl (lv_at hl 0 rfl) ?_
  refine lv_iload hx hb dL_law_1222 (lv_at hl 4 rfl) ?_
  refine lv_iconst (v := 1) hx hb dL_law_1224 (by decide) ?_
  refine lv_iadd hx hb dL_law_1225 ?_
  obtain ⟨hi_1, hf⟩ := am_chk_some hf
  refine va_sld hx hb hXs hbl hbA hH.2 hi_1 dL_law_1226 ?_
  obtain ⟨r_4, w_2, hq_3, hf⟩ := am_b2_some hf
  refine am_calli (r := r_4) (w' := w_2) (am_runV (n := 1) (As := [.int (xs (x4 + (1 : Int32)).toNatClampNeg)]) (rest := []) ⟨hx, hb, hml, hown, hts⟩ hK hE hH (k_X11_ahead hq_3) (am_gV am_q957 am_q958 am_q959 am_q1 am_q960) (am_o11 (p := 0) (by decide +kernel)) rfl ⟨rfl, rfl⟩ (by decide +kernel) ⟨Nat.le_of_ble_eq_true rfl, Nat.le_of_ble_eq_true rfl⟩ rfl hl.1 rfl (Nat.le_of_ble_eq_true rfl) hf0 dL_law_1227) hH (fun H locs hH => ?_)
  refine lv_aload_n hx hb dL_law_1230 rfl (lv_at hl 2 rfl) ?_
  refine lv_aload_n hx hb dL_law_1231 rfl (lv_at hl 0 rfl) ?_
  refine lv_iload hx hb dL_law_1232 (lv_at hl 4 rfl) ?_
  refine lv_iconst (v := 1) hx hb dL_law_1234 (by decide) ?_
  refine lv_iadd hx hb dL_law_1235 ?_
  obtain ⟨hi_5, hf⟩ := am_chk_some hf
  refine va_sld hx hb hXs hbl hbA hH.2 hi_5 dL_law_1236 ?_
  obtain ⟨r_8, w_6, hq_7, hf⟩ := am_b2_some hf
  refine am_calli (r := r_8) (w' := w_6) (am_runV (n := 1) (As := [.int (xs (x4 + (1 : Int32)).toNatClampNeg)]) (rest := [.int r_4]) ⟨hx, hb, hml, hown, hts⟩ hK hE hH (k_X12_ahead_ hq_7) (am_gV am_q1838 am_q1839 am_q1840 am_q13 am_q1841) (am_o12 (p := 271) (by decide +kernel)) rfl ⟨rfl, rfl⟩ (by decide +kernel) ⟨Nat.le_of_ble_eq_true rfl, Nat.le_of_ble_eq_true rfl⟩ rfl hl.1 rfl (Nat.le_of_ble_eq_true rfl) hf0 dL_law_1237) hH (fun H locs hH => ?_)
  refine lv_icmp_eq (tgt := 1962) hx hb dL_law_1240 (by decide) (fun hc_9 => ?_) (fun hc_9 => ?_)
  · have hf := (if_pos hc_9).symm.trans hf
    obtain rfl := Option.some.inj hf
    exact kk H locs ls hH (lv_sub hl [0, 1, 2, 3, 4] rfl)
  · have hf := (if_neg hc_9).symm.trans hf
    refine lv_iconst (v := 0) hx hb dL_law_1243 (by decide) ?_
    cases hf
def f_law_29 (Ls : Nat) (xs : Nat → Int32) (x4 : Int32) (w : am_S) : Option am_S :=
  am_chk (x4 + (1 : Int32)) Ls (am_chk (x4 + (2 : Int32)) Ls (am_b2 (f_X11_fewest (xs (x4 + (1 : Int32)).toNatClampNeg) (xs (x4 + (2 : Int32)).toNatClampNeg) w) fun r_5 w_3 => am_chk (x4 + (1 : Int32)) Ls (am_chk (x4 + (2 : Int32)) Ls (am_b2 (f_X12_fewest (xs (x4 + (1 : Int32)).toNatClampNeg) (xs (x4 + (2 : Int32)).toNatClampNeg) w_3) fun r_10 w_8 => if r_5 = r_10 then (some w_8) else none))))
set_option maxRecDepth 100000 in
set_option maxHeartbeats 4000000 in
theorem k_law_29 {p : Program} {l : Launch} {e : Env} {s : State} {m : MethodId} {below : List Frame} {meth : Method} {c : Code} {Q : State → Prop} {cells slots b0 Ls : Nat} {xs : Nat → Int32} {x4 : Int32} {G : am_G} {w ww : am_S} {H : Heap} {locs : List Loc} {ls : Array Slot} (hx : p.tables.exec = Jvm.exec) (hb : c.code = cL_law) (hml : c.maxLocals = 7) (hown : s.vm.findClass RL = some m.cls) (hts : ∀ w ∈ am_T, w.before #[Value.ref b0] s = true) (hK : va_K G.2.2.1 vwCl (am_tys G) s) (hE : am_E G s s.heap) (hXs : va_X b0 Ls xs s s.heap) (hbl : b0 < s.heap.size) (hbA : ¬ G.1 ≤ b0) (hf0 : cells ≤ room_1.cells ∧ slots ≤ room_1.slots) (hf : f_law_29 Ls xs x4 w = some ww) (hH : am_H G w s H locs) (hl : lv_has ls 7 [(0, .ref b0), (1, .ref (G.1 + 0)), (2, .ref (G.1 + 271)), (3, .ref (G.1 + 290)), (4, .int x4)]) (kk : ∀ (H : Heap) (locs : List Loc) (ls : Array Slot), am_H G ww s H locs → lv_has ls 7 [(0, .ref b0), (1, .ref (G.1 + 0)), (2, .ref (G.1 + 271)), (3, .ref (G.1 + 290)), (4, .int x4)] → W p l e room_1 s m #[Value.ref b0] below meth c H locs cells slots Q (F0 m 1962 ls [])) : W p l e room_1 s m #[Value.ref b0] below meth c H locs cells slots Q (F0 m 1245 ls []) := by
  unfold f_law_29 at hf
  refine lv_aload_n hx hb dL_law_1245 rfl (lv_at hl 1 rfl) ?_
  refine lv_aload_n hx hb dL_law_1246 rfl (lv_at hl 0 rfl) ?_
  refine lv_iload hx hb dL_law_1247 (lv_at hl 4 rfl) ?_
  refine lv_iconst (v := 1) hx hb dL_law_1249 (by decide) ?_
  refine lv_iadd hx hb dL_law_1250 ?_
  obtain ⟨hi_1, hf⟩ := am_chk_some hf
  refine va_sld hx hb hXs hbl hbA hH.2 hi_1 dL_law_1251 ?_
  refine lv_aload_n hx hb dL_law_1252 rfl (lv_at hl 0 rfl) ?_
  refine lv_iload hx hb dL_law_1253 (lv_at hl 4 rfl) ?_
  refine lv_iconst (v := 2) hx hb dL_law_1255 (by decide) ?_
  refine lv_iadd hx hb dL_law_1256 ?_
  obtain ⟨hi_2, hf⟩ := am_chk_some hf
  refine va_sld hx hb hXs hbl hbA hH.2 hi_2 dL_law_1257 ?_
  obtain ⟨r_5, w_3, hq_4, hf⟩ := am_b2_some hf
  refine am_calli (r := r_5) (w' := w_3) (am_runV (n := 2) (As := [.int (xs (x4 + (1 : Int32)).toNatClampNeg), .int (xs (x4 + (2 : Int32)).toNatClampNeg)]) (rest := []) ⟨hx, hb, hml, hown, hts⟩ hK hE hH (k_X11_fewest hq_4) (am_gV am_q965 am_q966 am_q967 am_q1 am_q968) (am_o11 (p := 0) (by decide +kernel)) rfl ⟨rfl, rfl⟩ (by decide +kernel) ⟨Nat.le_of_ble_eq_true rfl, Nat.le_of_ble_eq_true rfl⟩ rfl hl.1 rfl (Nat.le_of_ble_eq_true rfl) hf0 dL_law_1258) hH (fun H locs hH => ?_)
  refine lv_aload_n hx hb dL_law_1261 rfl (lv_at hl 2 rfl) ?_
  refine lv_aload_n hx hb dL_law_1262 rfl (lv_at hl 0 rfl) ?_
  refine lv_iload hx hb dL_law_1263 (lv_at hl 4 rfl) ?_
  refine lv_iconst (v := 1) hx hb dL_law_1265 (by decide) ?_
  refine lv_iadd hx hb dL_law_1266 ?_
  obtain ⟨hi_6, hf⟩ := am_chk_some hf
  refine va_sld hx hb hXs hbl hbA hH.2 hi_6 dL_law_1267 ?_
  refine lv_aload_n hx hb dL_law_1268 rfl (lv_at hl 0 rfl) ?_
  refine lv_iload hx hb dL_law_1269 (lv_at hl 4 rfl) ?_
  refine lv_iconst (v := 2) hx hb dL_law_1271 (by decide) ?_
  refine lv_iadd hx hb dL_law_1272 ?_
  obtain ⟨hi_7, hf⟩ := am_chk_some hf
  refine va_sld hx hb hXs hbl hbA hH.2 hi_7 dL_law_1273 ?_
  obtain ⟨r_10, w_8, hq_9, hf⟩ := am_b2_some hf
  refine am_calli (r := r_10) (w' := w_8) (am_runV (n := 2) (As := [.int (xs (x4 + (1 : Int32)).toNatClampNeg), .int (xs (x4 + (2 : Int32)).toNatClampNeg)]) (rest := [.int r_5]) ⟨hx, hb, hml, hown, hts⟩ hK hE hH (k_X12_fewest hq_9) (am_gV am_q1842 am_q1843 am_q1844 am_q13 am_q1845) (am_o12 (p := 271) (by decide +kernel)) rfl ⟨rfl, rfl⟩ (by decide +kernel) ⟨Nat.le_of_ble_eq_true rfl, Nat.le_of_ble_eq_true rfl⟩ rfl hl.1 rfl (Nat.le_of_ble_eq_true rfl) hf0 dL_law_1274) hH (fun H locs hH => ?_)
  refine lv_icmp_eq (tgt := 1962) hx hb dL_law_1277 (by decide) (fun hc_11 => ?_) (fun hc_11 => ?_)
  · have hf := (if_pos hc_11).symm.trans hf
    obtain rfl := Option.some.inj hf
    exact kk H locs ls hH (lv_sub hl [0, 1, 2, 3, 4] rfl)
  · have hf := (if_neg hc_11).symm.trans hf
    refine lv_iconst (v := 0) hx hb dL_law_1280 (by decide) ?_
    cases hf
def f_law_30 (Ls : Nat) (xs : Nat → Int32) (x4 : Int32) (w : am_S) : Option am_S :=
  am_b2 (f_X11_tight w) fun r_3 w_1 => am_b2 (f_X12_tight w_1) fun r_6 w_4 => if r_3 = r_6 then (some w_4) else none
set_option maxRecDepth 100000 in
set_option maxHeartbeats 4000000 in
theorem k_law_30 {p : Program} {l : Launch} {e : Env} {s : State} {m : MethodId} {below : List Frame} {meth : Method} {c : Code} {Q : State → Prop} {cells slots b0 Ls : Nat} {xs : Nat → Int32} {x4 : Int32} {G : am_G} {w ww : am_S} {H : Heap} {locs : List Loc} {ls : Array Slot} (hx : p.tables.exec = Jvm.exec) (hb : c.code = cL_law) (hml : c.maxLocals = 7) (hown : s.vm.findClass RL = some m.cls) (hts : ∀ w ∈ am_T, w.before #[Value.ref b0] s = true) (hK : va_K G.2.2.1 vwCl (am_tys G) s) (hE : am_E G s s.heap) (hXs : va_X b0 Ls xs s s.heap) (hbl : b0 < s.heap.size) (hbA : ¬ G.1 ≤ b0) (hf0 : cells ≤ room_1.cells ∧ slots ≤ room_1.slots) (hf : f_law_30 Ls xs x4 w = some ww) (hH : am_H G w s H locs) (hl : lv_has ls 7 [(0, .ref b0), (1, .ref (G.1 + 0)), (2, .ref (G.1 + 271)), (3, .ref (G.1 + 290)), (4, .int x4)]) (kk : ∀ (H : Heap) (locs : List Loc) (ls : Array Slot), am_H G ww s H locs → lv_has ls 7 [(0, .ref b0), (1, .ref (G.1 + 0)), (2, .ref (G.1 + 271)), (3, .ref (G.1 + 290)), (4, .int x4)] → W p l e room_1 s m #[Value.ref b0] below meth c H locs cells slots Q (F0 m 1962 ls [])) : W p l e room_1 s m #[Value.ref b0] below meth c H locs cells slots Q (F0 m 1282 ls []) := by
  unfold f_law_30 at hf
  refine lv_aload_n hx hb dL_law_1282 rfl (lv_at hl 1 rfl) ?_
  obtain ⟨r_3, w_1, hq_2, hf⟩ := am_b2_some hf
  refine am_calli (r := r_3) (w' := w_1) (am_runV (n := 0) (As := []) (rest := []) ⟨hx, hb, hml, hown, hts⟩ hK hE hH (k_X11_tight hq_2) (am_gV am_q975 am_q976 am_q977 am_q1 am_q978) (am_o11 (p := 0) (by decide +kernel)) rfl ⟨rfl, rfl⟩ (by decide +kernel) ⟨Nat.le_of_ble_eq_true rfl, Nat.le_of_ble_eq_true rfl⟩ rfl hl.1 rfl (Nat.le_of_ble_eq_true rfl) hf0 dL_law_1283) hH (fun H locs hH => ?_)
  refine lv_aload_n hx hb dL_law_1286 rfl (lv_at hl 2 rfl) ?_
  obtain ⟨r_6, w_4, hq_5, hf⟩ := am_b2_some hf
  refine am_calli (r := r_6) (w' := w_4) (am_runV (n := 0) (As := []) (rest := [.int r_3]) ⟨hx, hb, hml, hown, hts⟩ hK hE hH (k_X12_tight hq_5) (am_gV am_q1850 am_q1851 am_q1852 am_q13 am_q1853) (am_o12 (p := 271) (by decide +kernel)) rfl ⟨rfl, rfl⟩ (by decide +kernel) ⟨Nat.le_of_ble_eq_true rfl, Nat.le_of_ble_eq_true rfl⟩ rfl hl.1 rfl (Nat.le_of_ble_eq_true rfl) hf0 dL_law_1287) hH (fun H locs hH => ?_)
  refine lv_icmp_eq (tgt := 1962) hx hb dL_law_1290 (by decide) (fun hc_7 => ?_) (fun hc_7 => ?_)
  · have hf := (if_pos hc_7).symm.trans hf
    obtain rfl := Option.some.inj hf
    exact kk H locs ls hH (lv_sub hl [0, 1, 2, 3, 4] rfl)
  · have hf := (if_neg hc_7).symm.trans hf
    refine lv_iconst (v := 0) hx hb dL_law_1293 (by decide) ?_
    cases hf
def f_law_31 (Ls : Nat) (xs : Nat → Int32) (x4 : Int32) (w : am_S) : Option am_S :=
  am_chk (x4 + (1 : Int32)) Ls (am_chk (x4 + (2 : Int32)) Ls (am_b2 (f_X11_touch (xs (x4 + (1 : Int32)).toNatClampNeg) (xs (x4 + (2 : Int32)).toNatClampNeg) w) fun r_5 w_3 => am_chk (x4 + (1 : Int32)) Ls (am_chk (x4 + (2 : Int32)) Ls (am_b2 (f_X12_touch (xs (x4 + (1 : Int32)).toNatClampNeg) (xs (x4 + (2 : Int32)).toNatClampNeg) w_3) fun r_10 w_8 => if r_5 = r_10 then (some w_8) else none))))
set_option maxRecDepth 100000 in
set_option maxHeartbeats 4000000 in
theorem k_law_31 {p : Program} {l : Launch} {e : Env} {s : State} {m : MethodId} {below : List Frame} {meth : Method} {c : Code} {Q : State → Prop} {cells slots b0 Ls : Nat} {xs : Nat → Int32} {x4 : Int32} {G : am_G} {w ww : am_S} {H : Heap} {locs : List Loc} {ls : Array Slot} (hx : p.tables.exec = Jvm.exec) (hb : c.code = cL_law) (hml : c.maxLocals = 7) (hown : s.vm.findClass RL = some m.cls) (hts : ∀ w ∈ am_T, w.before #[Value.ref b0] s = true) (hK : va_K G.2.2.1 vwCl (am_tys G) s) (hE : am_E G s s.heap) (hXs : va_X b0 Ls xs s s.heap) (hbl : b0 < s.heap.size) (hbA : ¬ G.1 ≤ b0) (hf0 : cells ≤ room_1.cells ∧ slots ≤ room_1.slots) (hf : f_law_31 Ls xs x4 w = some ww) (hH : am_H G w s H locs) (hl : lv_has ls 7 [(0, .ref b0), (1, .ref (G.1 + 0)), (2, .ref (G.1 + 271)), (3, .ref (G.1 + 290)), (4, .int x4)]) (kk : ∀ (H : Heap) (locs : List Loc) (ls : Array Slot), am_H G ww s H locs → lv_has ls 7 [(0, .ref b0), (1, .ref (G.1 + 0)), (2, .ref (G.1 + 271)), (3, .ref (G.1 + 290)), (4, .int x4)] → W p l e room_1 s m #[Value.ref b0] below meth c H locs cells slots Q (F0 m 1962 ls [])) : W p l e room_1 s m #[Value.ref b0] below meth c H locs cells slots Q (F0 m 1295 ls []) := by
  unfold f_law_31 at hf
  refine lv_aload_n hx hb dL_law_1295 rfl (lv_at hl 1 rfl) ?_
  refine lv_aload_n hx hb dL_law_1296 rfl (lv_at hl 0 rfl) ?_
  refine lv_iload hx hb dL_law_1297 (lv_at hl 4 rfl) ?_
  refine lv_iconst (v := 1) hx hb dL_law_1299 (by decide) ?_
  refine lv_iadd hx hb dL_law_1300 ?_
  obtain ⟨hi_1, hf⟩ := am_chk_some hf
  refine va_sld hx hb hXs hbl hbA hH.2 hi_1 dL_law_1301 ?_
  refine lv_aload_n hx hb dL_law_1302 rfl (lv_at hl 0 rfl) ?_
  refine lv_iload hx hb dL_law_1303 (lv_at hl 4 rfl) ?_
  refine lv_iconst (v := 2) hx hb dL_law_1305 (by decide) ?_
  refine lv_iadd hx hb dL_law_1306 ?_
  obtain ⟨hi_2, hf⟩ := am_chk_some hf
  refine va_sld hx hb hXs hbl hbA hH.2 hi_2 dL_law_1307 ?_
  obtain ⟨r_5, w_3, hq_4, hf⟩ := am_b2_some hf
  refine am_calli (r := r_5) (w' := w_3) (am_runV (n := 2) (As := [.int (xs (x4 + (1 : Int32)).toNatClampNeg), .int (xs (x4 + (2 : Int32)).toNatClampNeg)]) (rest := []) ⟨hx, hb, hml, hown, hts⟩ hK hE hH (k_X11_touch hq_4) (am_gV am_q984 am_q985 am_q986 am_q1 am_q987) (am_o11 (p := 0) (by decide +kernel)) rfl ⟨rfl, rfl⟩ (by decide +kernel) ⟨Nat.le_of_ble_eq_true rfl, Nat.le_of_ble_eq_true rfl⟩ rfl hl.1 rfl (Nat.le_of_ble_eq_true rfl) hf0 dL_law_1308) hH (fun H locs hH => ?_)
  refine lv_aload_n hx hb dL_law_1311 rfl (lv_at hl 2 rfl) ?_
  refine lv_aload_n hx hb dL_law_1312 rfl (lv_at hl 0 rfl) ?_
  refine lv_iload hx hb dL_law_1313 (lv_at hl 4 rfl) ?_
  refine lv_iconst (v := 1) hx hb dL_law_1315 (by decide) ?_
  refine lv_iadd hx hb dL_law_1316 ?_
  obtain ⟨hi_6, hf⟩ := am_chk_some hf
  refine va_sld hx hb hXs hbl hbA hH.2 hi_6 dL_law_1317 ?_
  refine lv_aload_n hx hb dL_law_1318 rfl (lv_at hl 0 rfl) ?_
  refine lv_iload hx hb dL_law_1319 (lv_at hl 4 rfl) ?_
  refine lv_iconst (v := 2) hx hb dL_law_1321 (by decide) ?_
  refine lv_iadd hx hb dL_law_1322 ?_
  obtain ⟨hi_7, hf⟩ := am_chk_some hf
  refine va_sld hx hb hXs hbl hbA hH.2 hi_7 dL_law_1323 ?_
  obtain ⟨r_10, w_8, hq_9, hf⟩ := am_b2_some hf
  refine am_calli (r := r_10) (w' := w_8) (am_runV (n := 2) (As := [.int (xs (x4 + (1 : Int32)).toNatClampNeg), .int (xs (x4 + (2 : Int32)).toNatClampNeg)]) (rest := [.int r_5]) ⟨hx, hb, hml, hown, hts⟩ hK hE hH (k_X12_touch hq_9) (am_gV am_q1818 am_q1819 am_q1820 am_q13 am_q1821) (am_o12 (p := 271) (by decide +kernel)) rfl ⟨rfl, rfl⟩ (by decide +kernel) ⟨Nat.le_of_ble_eq_true rfl, Nat.le_of_ble_eq_true rfl⟩ rfl hl.1 rfl (Nat.le_of_ble_eq_true rfl) hf0 dL_law_1324) hH (fun H locs hH => ?_)
  refine lv_icmp_eq (tgt := 1962) hx hb dL_law_1327 (by decide) (fun hc_11 => ?_) (fun hc_11 => ?_)
  · have hf := (if_pos hc_11).symm.trans hf
    obtain rfl := Option.some.inj hf
    exact kk H locs ls hH (lv_sub hl [0, 1, 2, 3, 4] rfl)
  · have hf := (if_neg hc_11).symm.trans hf
    refine lv_iconst (v := 0) hx hb dL_law_1330 (by decide) ?_
    cases hf
def f_law_32 (Ls : Nat) (xs : Nat → Int32) (x4 : Int32) (w : am_S) : Option am_S :=
  am_chk (x4 + (1 : Int32)) Ls (am_chk (x4 + (2 : Int32)) Ls (am_b2 (f_X11_frame (xs (x4 + (1 : Int32)).toNatClampNeg) (xs (x4 + (2 : Int32)).toNatClampNeg) w) fun r_5 w_3 => am_chk (x4 + (1 : Int32)) Ls (am_chk (x4 + (2 : Int32)) Ls (am_b2 (f_X12_frame (xs (x4 + (1 : Int32)).toNatClampNeg) (xs (x4 + (2 : Int32)).toNatClampNeg) w_3) fun r_10 w_8 => if r_5 = r_10 then (some w_8) else none))))
set_option maxRecDepth 100000 in
set_option maxHeartbeats 4000000 in
theorem k_law_32 {p : Program} {l : Launch} {e : Env} {s : State} {m : MethodId} {below : List Frame} {meth : Method} {c : Code} {Q : State → Prop} {cells slots b0 Ls : Nat} {xs : Nat → Int32} {x4 : Int32} {G : am_G} {w ww : am_S} {H : Heap} {locs : List Loc} {ls : Array Slot} (hx : p.tables.exec = Jvm.exec) (hb : c.code = cL_law) (hml : c.maxLocals = 7) (hown : s.vm.findClass RL = some m.cls) (hts : ∀ w ∈ am_T, w.before #[Value.ref b0] s = true) (hK : va_K G.2.2.1 vwCl (am_tys G) s) (hE : am_E G s s.heap) (hXs : va_X b0 Ls xs s s.heap) (hbl : b0 < s.heap.size) (hbA : ¬ G.1 ≤ b0) (hf0 : cells ≤ room_1.cells ∧ slots ≤ room_1.slots) (hf : f_law_32 Ls xs x4 w = some ww) (hH : am_H G w s H locs) (hl : lv_has ls 7 [(0, .ref b0), (1, .ref (G.1 + 0)), (2, .ref (G.1 + 271)), (3, .ref (G.1 + 290)), (4, .int x4)]) (kk : ∀ (H : Heap) (locs : List Loc) (ls : Array Slot), am_H G ww s H locs → lv_has ls 7 [(0, .ref b0), (1, .ref (G.1 + 0)), (2, .ref (G.1 + 271)), (3, .ref (G.1 + 290)), (4, .int x4)] → W p l e room_1 s m #[Value.ref b0] below meth c H locs cells slots Q (F0 m 1962 ls [])) : W p l e room_1 s m #[Value.ref b0] below meth c H locs cells slots Q (F0 m 1332 ls []) := by
  unfold f_law_32 at hf
  refine lv_aload_n hx hb dL_law_1332 rfl (lv_at hl 1 rfl) ?_
  refine lv_aload_n hx hb dL_law_1333 rfl (lv_at hl 0 rfl) ?_
  refine lv_iload hx hb dL_law_1334 (lv_at hl 4 rfl) ?_
  refine lv_iconst (v := 1) hx hb dL_law_1336 (by decide) ?_
  refine lv_iadd hx hb dL_law_1337 ?_
  obtain ⟨hi_1, hf⟩ := am_chk_some hf
  refine va_sld hx hb hXs hbl hbA hH.2 hi_1 dL_law_1338 ?_
  refine lv_aload_n hx hb dL_law_1339 rfl (lv_at hl 0 rfl) ?_
  refine lv_iload hx hb dL_law_1340 (lv_at hl 4 rfl) ?_
  refine lv_iconst (v := 2) hx hb dL_law_1342 (by decide) ?_
  refine lv_iadd hx hb dL_law_1343 ?_
  obtain ⟨hi_2, hf⟩ := am_chk_some hf
  refine va_sld hx hb hXs hbl hbA hH.2 hi_2 dL_law_1344 ?_
  obtain ⟨r_5, w_3, hq_4, hf⟩ := am_b2_some hf
  refine am_calli (r := r_5) (w' := w_3) (am_runV (n := 2) (As := [.int (xs (x4 + (1 : Int32)).toNatClampNeg), .int (xs (x4 + (2 : Int32)).toNatClampNeg)]) (rest := []) ⟨hx, hb, hml, hown, hts⟩ hK hE hH (k_X11_frame hq_4) (am_gV am_q989 am_q990 am_q991 am_q1 am_q992) (am_o11 (p := 0) (by decide +kernel)) rfl ⟨rfl, rfl⟩ (by decide +kernel) ⟨Nat.le_of_ble_eq_true rfl, Nat.le_of_ble_eq_true rfl⟩ rfl hl.1 rfl (Nat.le_of_ble_eq_true rfl) hf0 dL_law_1345) hH (fun H locs hH => ?_)
  refine lv_aload_n hx hb dL_law_1348 rfl (lv_at hl 2 rfl) ?_
  refine lv_aload_n hx hb dL_law_1349 rfl (lv_at hl 0 rfl) ?_
  refine lv_iload hx hb dL_law_1350 (lv_at hl 4 rfl) ?_
  refine lv_iconst (v := 1) hx hb dL_law_1352 (by decide) ?_
  refine lv_iadd hx hb dL_law_1353 ?_
  obtain ⟨hi_6, hf⟩ := am_chk_some hf
  refine va_sld hx hb hXs hbl hbA hH.2 hi_6 dL_law_1354 ?_
  refine lv_aload_n hx hb dL_law_1355 rfl (lv_at hl 0 rfl) ?_
  refine lv_iload hx hb dL_law_1356 (lv_at hl 4 rfl) ?_
  refine lv_iconst (v := 2) hx hb dL_law_1358 (by decide) ?_
  refine lv_iadd hx hb dL_law_1359 ?_
  obtain ⟨hi_7, hf⟩ := am_chk_some hf
  refine va_sld hx hb hXs hbl hbA hH.2 hi_7 dL_law_1360 ?_
  obtain ⟨r_10, w_8, hq_9, hf⟩ := am_b2_some hf
  refine am_calli (r := r_10) (w' := w_8) (am_runV (n := 2) (As := [.int (xs (x4 + (1 : Int32)).toNatClampNeg), .int (xs (x4 + (2 : Int32)).toNatClampNeg)]) (rest := [.int r_5]) ⟨hx, hb, hml, hown, hts⟩ hK hE hH (k_X12_frame hq_9) (am_gV am_q1790 am_q1791 am_q1792 am_q13 am_q1793) (am_o12 (p := 271) (by decide +kernel)) rfl ⟨rfl, rfl⟩ (by decide +kernel) ⟨Nat.le_of_ble_eq_true rfl, Nat.le_of_ble_eq_true rfl⟩ rfl hl.1 rfl (Nat.le_of_ble_eq_true rfl) hf0 dL_law_1361) hH (fun H locs hH => ?_)
  refine lv_icmp_eq (tgt := 1962) hx hb dL_law_1364 (by decide) (fun hc_11 => ?_) (fun hc_11 => ?_)
  · have hf := (if_pos hc_11).symm.trans hf
    obtain rfl := Option.some.inj hf
    exact kk H locs ls hH (lv_sub hl [0, 1, 2, 3, 4] rfl)
  · have hf := (if_neg hc_11).symm.trans hf
    refine lv_iconst (v := 0) hx hb dL_law_1367 (by decide) ?_
    cases hf
def f_law_33 (Ls : Nat) (xs : Nat → Int32) (x4 : Int32) (w : am_S) : Option am_S :=
  am_chk (x4 + (1 : Int32)) Ls (am_b2 (f_X11_stuck (xs (x4 + (1 : Int32)).toNatClampNeg) w) fun r_4 w_2 => am_chk (x4 + (1 : Int32)) Ls (am_b2 (f_X12_stuck (xs (x4 + (1 : Int32)).toNatClampNeg) w_2) fun r_8 w_6 => if r_4 = r_8 then (some w_6) else none))
set_option maxRecDepth 100000 in
set_option maxHeartbeats 4000000 in
theorem k_law_33 {p : Program} {l : Launch} {e : Env} {s : State} {m : MethodId} {below : List Frame} {meth : Method} {c : Code} {Q : State → Prop} {cells slots b0 Ls : Nat} {xs : Nat → Int32} {x4 : Int32} {G : am_G} {w ww : am_S} {H : Heap} {locs : List Loc} {ls : Array Slot} (hx : p.tables.exec = Jvm.exec) (hb : c.code = cL_law) (hml : c.maxLocals = 7) (hown : s.vm.findClass RL = some m.cls) (hts : ∀ w ∈ am_T, w.before #[Value.ref b0] s = true) (hK : va_K G.2.2.1 vwCl (am_tys G) s) (hE : am_E G s s.heap) (hXs : va_X b0 Ls xs s s.heap) (hbl : b0 < s.heap.size) (hbA : ¬ G.1 ≤ b0) (hf0 : cells ≤ room_1.cells ∧ slots ≤ room_1.slots) (hf : f_law_33 Ls xs x4 w = some ww) (hH : am_H G w s H locs) (hl : lv_has ls 7 [(0, .ref b0), (1, .ref (G.1 + 0)), (2, .ref (G.1 + 271)), (3, .ref (G.1 + 290)), (4, .int x4)]) (kk : ∀ (H : Heap) (locs : List Loc) (ls : Array Slot), am_H G ww s H locs → lv_has ls 7 [(0, .ref b0), (1, .ref (G.1 + 0)), (2, .ref (G.1 + 271)), (3, .ref (G.1 + 290)), (4, .int x4)] → W p l e room_1 s m #[Value.ref b0] below meth c H locs cells slots Q (F0 m 1962 ls [])) : W p l e room_1 s m #[Value.ref b0] below meth c H locs cells slots Q (F0 m 1369 ls []) := by
  unfold f_law_33 at hf
  refine lv_aload_n hx hb dL_law_1369 rfl (lv_at hl 1 rfl) ?_
  refine lv_aload_n hx hb dL_law_1370 rfl (lv_at hl 0 rfl) ?_
  refine lv_iload hx hb dL_law_1371 (lv_at hl 4 rfl) ?_
  refine lv_iconst (v := 1) hx hb dL_law_1373 (by decide) ?_
  refine lv_iadd hx hb dL_law_1374 ?_
  obtain ⟨hi_1, hf⟩ := am_chk_some hf
  refine va_sld hx hb hXs hbl hbA hH.2 hi_1 dL_law_1375 ?_
  obtain ⟨r_4, w_2, hq_3, hf⟩ := am_b2_some hf
  refine am_calli (r := r_4) (w' := w_2) (am_runV (n := 1) (As := [.int (xs (x4 + (1 : Int32)).toNatClampNeg)]) (rest := []) ⟨hx, hb, hml, hown, hts⟩ hK hE hH (k_X11_stuck hq_3) (am_gV am_q1010 am_q1011 am_q1012 am_q1 am_q1013) (am_o11 (p := 0) (by decide +kernel)) rfl ⟨rfl, rfl⟩ (by decide +kernel) ⟨Nat.le_of_ble_eq_true rfl, Nat.le_of_ble_eq_true rfl⟩ rfl hl.1 rfl (Nat.le_of_ble_eq_true rfl) hf0 dL_law_1376) hH (fun H locs hH => ?_)
  refine lv_aload_n hx hb dL_law_1379 rfl (lv_at hl 2 rfl) ?_
  refine lv_aload_n hx hb dL_law_1380 rfl (lv_at hl 0 rfl) ?_
  refine lv_iload hx hb dL_law_1381 (lv_at hl 4 rfl) ?_
  refine lv_iconst (v := 1) hx hb dL_law_1383 (by decide) ?_
  refine lv_iadd hx hb dL_law_1384 ?_
  obtain ⟨hi_5, hf⟩ := am_chk_some hf
  refine va_sld hx hb hXs hbl hbA hH.2 hi_5 dL_law_1385 ?_
  obtain ⟨r_8, w_6, hq_7, hf⟩ := am_b2_some hf
  refine am_calli (r := r_8) (w' := w_6) (am_runV (n := 1) (As := [.int (xs (x4 + (1 : Int32)).toNatClampNeg)]) (rest := [.int r_4]) ⟨hx, hb, hml, hown, hts⟩ hK hE hH (k_X12_stuck hq_7) (am_gV am_q1854 am_q1855 am_q1856 am_q13 am_q1857) (am_o12 (p := 271) (by decide +kernel)) rfl ⟨rfl, rfl⟩ (by decide +kernel) ⟨Nat.le_of_ble_eq_true rfl, Nat.le_of_ble_eq_true rfl⟩ rfl hl.1 rfl (Nat.le_of_ble_eq_true rfl) hf0 dL_law_1386) hH (fun H locs hH => ?_)
  refine lv_icmp_eq (tgt := 1962) hx hb dL_law_1389 (by decide) (fun hc_9 => ?_) (fun hc_9 => ?_)
  · have hf := (if_pos hc_9).symm.trans hf
    obtain rfl := Option.some.inj hf
    exact kk H locs ls hH (lv_sub hl [0, 1, 2, 3, 4] rfl)
  · have hf := (if_neg hc_9).symm.trans hf
    refine lv_iconst (v := 0) hx hb dL_law_1392 (by decide) ?_
    cases hf
def f_law_34 (Ls : Nat) (xs : Nat → Int32) (x4 : Int32) (w : am_S) : Option am_S :=
  am_chk (x4 + (1 : Int32)) Ls (am_b2 (f_X11_slid (xs (x4 + (1 : Int32)).toNatClampNeg) w) fun r_4 w_2 => am_chk (x4 + (1 : Int32)) Ls (am_b2 (f_X12_slid (xs (x4 + (1 : Int32)).toNatClampNeg) w_2) fun r_8 w_6 => if r_4 = r_8 then (some w_6) else none))
set_option maxRecDepth 100000 in
set_option maxHeartbeats 4000000 in
theorem k_law_34 {p : Program} {l : Launch} {e : Env} {s : State} {m : MethodId} {below : List Frame} {meth : Method} {c : Code} {Q : State → Prop} {cells slots b0 Ls : Nat} {xs : Nat → Int32} {x4 : Int32} {G : am_G} {w ww : am_S} {H : Heap} {locs : List Loc} {ls : Array Slot} (hx : p.tables.exec = Jvm.exec) (hb : c.code = cL_law) (hml : c.maxLocals = 7) (hown : s.vm.findClass RL = some m.cls) (hts : ∀ w ∈ am_T, w.before #[Value.ref b0] s = true) (hK : va_K G.2.2.1 vwCl (am_tys G) s) (hE : am_E G s s.heap) (hXs : va_X b0 Ls xs s s.heap) (hbl : b0 < s.heap.size) (hbA : ¬ G.1 ≤ b0) (hf0 : cells ≤ room_1.cells ∧ slots ≤ room_1.slots) (hf : f_law_34 Ls xs x4 w = some ww) (hH : am_H G w s H locs) (hl : lv_has ls 7 [(0, .ref b0), (1, .ref (G.1 + 0)), (2, .ref (G.1 + 271)), (3, .ref (G.1 + 290)), (4, .int x4)]) (kk : ∀ (H : Heap) (locs : List Loc) (ls : Array Slot), am_H G ww s H locs → lv_has ls 7 [(0, .ref b0), (1, .ref (G.1 + 0)), (2, .ref (G.1 + 271)), (3, .ref (G.1 + 290)), (4, .int x4)] → W p l e room_1 s m #[Value.ref b0] below meth c H locs cells slots Q (F0 m 1962 ls [])) : W p l e room_1 s m #[Value.ref b0] below meth c H locs cells slots Q (F0 m 1394 ls []) := by
  unfold f_law_34 at hf
  refine lv_aload_n hx hb dL_law_1394 rfl (lv_at hl 1 rfl) ?_
  refine lv_aload_n hx hb dL_law_1395 rfl (lv_at hl 0 rfl) ?_
  refine lv_iload hx hb dL_law_1396 (lv_at hl 4 rfl) ?_
  refine lv_iconst (v := 1) hx hb dL_law_1398 (by decide) ?_
  refine lv_iadd hx hb dL_law_1399 ?_
  obtain ⟨hi_1, hf⟩ := am_chk_some hf
  refine va_sld hx hb hXs hbl hbA hH.2 hi_1 dL_law_1400 ?_
  obtain ⟨r_4, w_2, hq_3, hf⟩ := am_b2_some hf
  refine am_calli (r := r_4) (w' := w_2) (am_runV (n := 1) (As := [.int (xs (x4 + (1 : Int32)).toNatClampNeg)]) (rest := []) ⟨hx, hb, hml, hown, hts⟩ hK hE hH (k_X11_slid hq_3) (am_gV am_q1026 am_q1027 am_q1028 am_q1 am_q1029) (am_o11 (p := 0) (by decide +kernel)) rfl ⟨rfl, rfl⟩ (by decide +kernel) ⟨Nat.le_of_ble_eq_true rfl, Nat.le_of_ble_eq_true rfl⟩ rfl hl.1 rfl (Nat.le_of_ble_eq_true rfl) hf0 dL_law_1401) hH (fun H locs hH => ?_)
  refine lv_aload_n hx hb dL_law_1404 rfl (lv_at hl 2 rfl) ?_
  refine lv_aload_n hx hb dL_law_1405 rfl (lv_at hl 0 rfl) ?_
  refine lv_iload hx hb dL_law_1406 (lv_at hl 4 rfl) ?_
  refine lv_iconst (v := 1) hx hb dL_law_1408 (by decide) ?_
  refine lv_iadd hx hb dL_law_1409 ?_
  obtain ⟨hi_5, hf⟩ := am_chk_some hf
  refine va_sld hx hb hXs hbl hbA hH.2 hi_5 dL_law_1410 ?_
  obtain ⟨r_8, w_6, hq_7, hf⟩ := am_b2_some hf
  refine am_calli (r := r_8) (w' := w_6) (am_runV (n := 1) (As := [.int (xs (x4 + (1 : Int32)).toNatClampNeg)]) (rest := [.int r_4]) ⟨hx, hb, hml, hown, hts⟩ hK hE hH (k_X12_slid hq_7) (am_gV am_q1862 am_q1863 am_q1864 am_q13 am_q1865) (am_o12 (p := 271) (by decide +kernel)) rfl ⟨rfl, rfl⟩ (by decide +kernel) ⟨Nat.le_of_ble_eq_true rfl, Nat.le_of_ble_eq_true rfl⟩ rfl hl.1 rfl (Nat.le_of_ble_eq_true rfl) hf0 dL_law_1411) hH (fun H locs hH => ?_)
  refine lv_icmp_eq (tgt := 1962) hx hb dL_law_1414 (by decide) (fun hc_9 => ?_) (fun hc_9 => ?_)
  · have hf := (if_pos hc_9).symm.trans hf
    obtain rfl := Option.some.inj hf
    exact kk H locs ls hH (lv_sub hl [0, 1, 2, 3, 4] rfl)
  · have hf := (if_neg hc_9).symm.trans hf
    refine lv_iconst (v := 0) hx hb dL_law_1417 (by decide) ?_
    cases hf
def f_law_35 (Ls : Nat) (xs : Nat → Int32) (x4 : Int32) (w : am_S) : Option am_S :=
  am_chk (x4 + (1 : Int32)) Ls (am_chk (x4 + (2 : Int32)) Ls (am_b2 (f_X11_slidAt (xs (x4 + (1 : Int32)).toNatClampNeg) (xs (x4 + (2 : Int32)).toNatClampNeg) w) fun r_5 w_3 => am_chk (x4 + (1 : Int32)) Ls (am_chk (x4 + (2 : Int32)) Ls (am_b2 (f_X12_slidAt (xs (x4 + (1 : Int32)).toNatClampNeg) (xs (x4 + (2 : Int32)).toNatClampNeg) w_3) fun r_10 w_8 => if r_5 = r_10 then (some w_8) else none))))
set_option maxRecDepth 100000 in
set_option maxHeartbeats 4000000 in
theorem k_law_35 {p : Program} {l : Launch} {e : Env} {s : State} {m : MethodId} {below : List Frame} {meth : Method} {c : Code} {Q : State → Prop} {cells slots b0 Ls : Nat} {xs : Nat → Int32} {x4 : Int32} {G : am_G} {w ww : am_S} {H : Heap} {locs : List Loc} {ls : Array Slot} (hx : p.tables.exec = Jvm.exec) (hb : c.code = cL_law) (hml : c.maxLocals = 7) (hown : s.vm.findClass RL = some m.cls) (hts : ∀ w ∈ am_T, w.before #[Value.ref b0] s = true) (hK : va_K G.2.2.1 vwCl (am_tys G) s) (hE : am_E G s s.heap) (hXs : va_X b0 Ls xs s s.heap) (hbl : b0 < s.heap.size) (hbA : ¬ G.1 ≤ b0) (hf0 : cells ≤ room_1.cells ∧ slots ≤ room_1.slots) (hf : f_law_35 Ls xs x4 w = some ww) (hH : am_H G w s H locs) (hl : lv_has ls 7 [(0, .ref b0), (1, .ref (G.1 + 0)), (2, .ref (G.1 + 271)), (3, .ref (G.1 + 290)), (4, .int x4)]) (kk : ∀ (H : Heap) (locs : List Loc) (ls : Array Slot), am_H G ww s H locs → lv_has ls 7 [(0, .ref b0), (1, .ref (G.1 + 0)), (2, .ref (G.1 + 271)), (3, .ref (G.1 + 290)), (4, .int x4)] → W p l e room_1 s m #[Value.ref b0] below meth c H locs cells slots Q (F0 m 1962 ls [])) : W p l e room_1 s m #[Value.ref b0] below meth c H locs cells slots Q (F0 m 1419 ls []) := by
  unfold f_law_35 at hf
  refine lv_aload_n hx hb dL_law_1419 rfl (lv_at hl 1 rfl) ?_
  refine lv_aload_n hx hb dL_law_1420 rfl (lv_at hl 0 rfl) ?_
  refine lv_iload hx hb dL_law_1421 (lv_at hl 4 rfl) ?_
  refine lv_iconst (v := 1) hx hb dL_law_1423 (by decide) ?_
  refine lv_iadd hx hb dL_law_1424 ?_
  obtain ⟨hi_1, hf⟩ := am_chk_some hf
  refine va_sld hx hb hXs hbl hbA hH.2 hi_1 dL_law_1425 ?_
  refine lv_aload_n hx hb dL_law_1426 rfl (lv_at hl 0 rfl) ?_
  refine lv_iload hx hb dL_law_1427 (lv_at hl 4 rfl) ?_
  refine lv_iconst (v := 2) hx hb dL_law_1429 (by decide) ?_
  refine lv_iadd hx hb dL_law_1430 ?_
  obtain ⟨hi_2, hf⟩ := am_chk_some hf
  refine va_sld hx hb hXs hbl hbA hH.2 hi_2 dL_law_1431 ?_
  obtain ⟨r_5, w_3, hq_4, hf⟩ := am_b2_some hf
  refine am_calli (r := r_5) (w' := w_3) (am_runV (n := 2) (As := [.int (xs (x4 + (1 : Int32)).toNatClampNeg), .int (xs (x4 + (2 : Int32)).toNatClampNeg)]) (rest := []) ⟨hx, hb, hml, hown, hts⟩ hK hE hH (k_X11_slidAt hq_4) (am_gV am_q1039 am_q1040 am_q1041 am_q1 am_q1042) (am_o11 (p := 0) (by decide +kernel)) rfl ⟨rfl, rfl⟩ (by decide +kernel) ⟨Nat.le_of_ble_eq_true rfl, Nat.le_of_ble_eq_true rfl⟩ rfl hl.1 rfl (Nat.le_of_ble_eq_true rfl) hf0 dL_law_1432) hH (fun H locs hH => ?_)
  refine lv_aload_n hx hb dL_law_1435 rfl (lv_at hl 2 rfl) ?_
  refine lv_aload_n hx hb dL_law_1436 rfl (lv_at hl 0 rfl) ?_
  refine lv_iload hx hb dL_law_1437 (lv_at hl 4 rfl) ?_
  refine lv_iconst (v := 1) hx hb dL_law_1439 (by decide) ?_
  refine lv_iadd hx hb dL_law_1440 ?_
  obtain ⟨hi_6, hf⟩ := am_chk_some hf
  refine va_sld hx hb hXs hbl hbA hH.2 hi_6 dL_law_1441 ?_
  refine lv_aload_n hx hb dL_law_1442 rfl (lv_at hl 0 rfl) ?_
  refine lv_iload hx hb dL_law_1443 (lv_at hl 4 rfl) ?_
  refine lv_iconst (v := 2) hx hb dL_law_1445 (by decide) ?_
  refine lv_iadd hx hb dL_law_1446 ?_
  obtain ⟨hi_7, hf⟩ := am_chk_some hf
  refine va_sld hx hb hXs hbl hbA hH.2 hi_7 dL_law_1447 ?_
  obtain ⟨r_10, w_8, hq_9, hf⟩ := am_b2_some hf
  refine am_calli (r := r_10) (w' := w_8) (am_runV (n := 2) (As := [.int (xs (x4 + (1 : Int32)).toNatClampNeg), .int (xs (x4 + (2 : Int32)).toNatClampNeg)]) (rest := [.int r_5]) ⟨hx, hb, hml, hown, hts⟩ hK hE hH (k_X12_slidAt hq_9) (am_gV am_q1870 am_q1871 am_q1872 am_q13 am_q1873) (am_o12 (p := 271) (by decide +kernel)) rfl ⟨rfl, rfl⟩ (by decide +kernel) ⟨Nat.le_of_ble_eq_true rfl, Nat.le_of_ble_eq_true rfl⟩ rfl hl.1 rfl (Nat.le_of_ble_eq_true rfl) hf0 dL_law_1448) hH (fun H locs hH => ?_)
  refine lv_icmp_eq (tgt := 1962) hx hb dL_law_1451 (by decide) (fun hc_11 => ?_) (fun hc_11 => ?_)
  · have hf := (if_pos hc_11).symm.trans hf
    obtain rfl := Option.some.inj hf
    exact kk H locs ls hH (lv_sub hl [0, 1, 2, 3, 4] rfl)
  · have hf := (if_neg hc_11).symm.trans hf
    refine lv_iconst (v := 0) hx hb dL_law_1454 (by decide) ?_
    cases hf
def f_law_36 (Ls : Nat) (xs : Nat → Int32) (x4 : Int32) (w : am_S) : Option am_S :=
  am_chk (x4 + (1 : Int32)) Ls (am_b2 (f_X11_blame (xs (x4 + (1 : Int32)).toNatClampNeg) w) fun r_4 w_2 => am_chk (x4 + (1 : Int32)) Ls (am_b2 (f_X12_blame (xs (x4 + (1 : Int32)).toNatClampNeg) w_2) fun r_8 w_6 => if r_4 = r_8 then (some w_6) else none))
set_option maxRecDepth 100000 in
set_option maxHeartbeats 4000000 in
theorem k_law_36 {p : Program} {l : Launch} {e : Env} {s : State} {m : MethodId} {below : List Frame} {meth : Method} {c : Code} {Q : State → Prop} {cells slots b0 Ls : Nat} {xs : Nat → Int32} {x4 : Int32} {G : am_G} {w ww : am_S} {H : Heap} {locs : List Loc} {ls : Array Slot} (hx : p.tables.exec = Jvm.exec) (hb : c.code = cL_law) (hml : c.maxLocals = 7) (hown : s.vm.findClass RL = some m.cls) (hts : ∀ w ∈ am_T, w.before #[Value.ref b0] s = true) (hK : va_K G.2.2.1 vwCl (am_tys G) s) (hE : am_E G s s.heap) (hXs : va_X b0 Ls xs s s.heap) (hbl : b0 < s.heap.size) (hbA : ¬ G.1 ≤ b0) (hf0 : cells ≤ room_1.cells ∧ slots ≤ room_1.slots) (hf : f_law_36 Ls xs x4 w = some ww) (hH : am_H G w s H locs) (hl : lv_has ls 7 [(0, .ref b0), (1, .ref (G.1 + 0)), (2, .ref (G.1 + 271)), (3, .ref (G.1 + 290)), (4, .int x4)]) (kk : ∀ (H : Heap) (locs : List Loc) (ls : Array Slot), am_H G ww s H locs → lv_has ls 7 [(0, .ref b0), (1, .ref (G.1 + 0)), (2, .ref (G.1 + 271)), (3, .ref (G.1 + 290)), (4, .int x4)] → W p l e room_1 s m #[Value.ref b0] below meth c H locs cells slots Q (F0 m 1962 ls [])) : W p l e room_1 s m #[Value.ref b0] below meth c H locs cells slots Q (F0 m 1456 ls []) := by
  unfold f_law_36 at hf
  refine lv_aload_n hx hb dL_law_1456 rfl (lv_at hl 1 rfl) ?_
  refine lv_aload_n hx hb dL_law_1457 rfl (lv_at hl 0 rfl) ?_
  refine lv_iload hx hb dL_law_1458 (lv_at hl 4 rfl) ?_
  refine lv_iconst (v := 1) hx hb dL_law_1460 (by decide) ?_
  refine lv_iadd hx hb dL_law_1461 ?_
  obtain ⟨hi_1, hf⟩ := am_chk_some hf
  refine va_sld hx hb hXs hbl hbA hH.2 hi_1 dL_law_1462 ?_
  obtain ⟨r_4, w_2, hq_3, hf⟩ := am_b2_some hf
  refine am_calli (r := r_4) (w' := w_2) (am_runV (n := 1) (As := [.int (xs (x4 + (1 : Int32)).toNatClampNeg)]) (rest := []) ⟨hx, hb, hml, hown, hts⟩ hK hE hH (k_X11_blame hq_3) (am_gV am_q1047 am_q1048 am_q1049 am_q1 am_q1050) (am_o11 (p := 0) (by decide +kernel)) rfl ⟨rfl, rfl⟩ (by decide +kernel) ⟨Nat.le_of_ble_eq_true rfl, Nat.le_of_ble_eq_true rfl⟩ rfl hl.1 rfl (Nat.le_of_ble_eq_true rfl) hf0 dL_law_1463) hH (fun H locs hH => ?_)
  refine lv_aload_n hx hb dL_law_1466 rfl (lv_at hl 2 rfl) ?_
  refine lv_aload_n hx hb dL_law_1467 rfl (lv_at hl 0 rfl) ?_
  refine lv_iload hx hb dL_law_1468 (lv_at hl 4 rfl) ?_
  refine lv_iconst (v := 1) hx hb dL_law_1470 (by decide) ?_
  refine lv_iadd hx hb dL_law_1471 ?_
  obtain ⟨hi_5, hf⟩ := am_chk_some hf
  refine va_sld hx hb hXs hbl hbA hH.2 hi_5 dL_law_1472 ?_
  obtain ⟨r_8, w_6, hq_7, hf⟩ := am_b2_some hf
  refine am_calli (r := r_8) (w' := w_6) (am_runV (n := 1) (As := [.int (xs (x4 + (1 : Int32)).toNatClampNeg)]) (rest := [.int r_4]) ⟨hx, hb, hml, hown, hts⟩ hK hE hH (k_X12_blame hq_7) (am_gV am_q1874 am_q1875 am_q1876 am_q13 am_q1877) (am_o12 (p := 271) (by decide +kernel)) rfl ⟨rfl, rfl⟩ (by decide +kernel) ⟨Nat.le_of_ble_eq_true rfl, Nat.le_of_ble_eq_true rfl⟩ rfl hl.1 rfl (Nat.le_of_ble_eq_true rfl) hf0 dL_law_1473) hH (fun H locs hH => ?_)
  refine lv_icmp_eq (tgt := 1962) hx hb dL_law_1476 (by decide) (fun hc_9 => ?_) (fun hc_9 => ?_)
  · have hf := (if_pos hc_9).symm.trans hf
    obtain rfl := Option.some.inj hf
    exact kk H locs ls hH (lv_sub hl [0, 1, 2, 3, 4] rfl)
  · have hf := (if_neg hc_9).symm.trans hf
    refine lv_iconst (v := 0) hx hb dL_law_1479 (by decide) ?_
    cases hf
def f_law_37 (Ls : Nat) (xs : Nat → Int32) (x4 : Int32) (w : am_S) : Option am_S :=
  am_chk (x4 + (1 : Int32)) Ls (am_b2 (f_X11_senders (xs (x4 + (1 : Int32)).toNatClampNeg) w) fun r_4 w_2 => am_chk (x4 + (1 : Int32)) Ls (am_b2 (f_X12_senders (xs (x4 + (1 : Int32)).toNatClampNeg) w_2) fun r_8 w_6 => if r_4 = r_8 then (some w_6) else none))
set_option maxRecDepth 100000 in
set_option maxHeartbeats 4000000 in
theorem k_law_37 {p : Program} {l : Launch} {e : Env} {s : State} {m : MethodId} {below : List Frame} {meth : Method} {c : Code} {Q : State → Prop} {cells slots b0 Ls : Nat} {xs : Nat → Int32} {x4 : Int32} {G : am_G} {w ww : am_S} {H : Heap} {locs : List Loc} {ls : Array Slot} (hx : p.tables.exec = Jvm.exec) (hb : c.code = cL_law) (hml : c.maxLocals = 7) (hown : s.vm.findClass RL = some m.cls) (hts : ∀ w ∈ am_T, w.before #[Value.ref b0] s = true) (hK : va_K G.2.2.1 vwCl (am_tys G) s) (hE : am_E G s s.heap) (hXs : va_X b0 Ls xs s s.heap) (hbl : b0 < s.heap.size) (hbA : ¬ G.1 ≤ b0) (hf0 : cells ≤ room_1.cells ∧ slots ≤ room_1.slots) (hf : f_law_37 Ls xs x4 w = some ww) (hH : am_H G w s H locs) (hl : lv_has ls 7 [(0, .ref b0), (1, .ref (G.1 + 0)), (2, .ref (G.1 + 271)), (3, .ref (G.1 + 290)), (4, .int x4)]) (kk : ∀ (H : Heap) (locs : List Loc) (ls : Array Slot), am_H G ww s H locs → lv_has ls 7 [(0, .ref b0), (1, .ref (G.1 + 0)), (2, .ref (G.1 + 271)), (3, .ref (G.1 + 290)), (4, .int x4)] → W p l e room_1 s m #[Value.ref b0] below meth c H locs cells slots Q (F0 m 1962 ls [])) : W p l e room_1 s m #[Value.ref b0] below meth c H locs cells slots Q (F0 m 1481 ls []) := by
  unfold f_law_37 at hf
  refine lv_aload_n hx hb dL_law_1481 rfl (lv_at hl 1 rfl) ?_
  refine lv_aload_n hx hb dL_law_1482 rfl (lv_at hl 0 rfl) ?_
  refine lv_iload hx hb dL_law_1483 (lv_at hl 4 rfl) ?_
  refine lv_iconst (v := 1) hx hb dL_law_1485 (by decide) ?_
  refine lv_iadd hx hb dL_law_1486 ?_
  obtain ⟨hi_1, hf⟩ := am_chk_some hf
  refine va_sld hx hb hXs hbl hbA hH.2 hi_1 dL_law_1487 ?_
  obtain ⟨r_4, w_2, hq_3, hf⟩ := am_b2_some hf
  refine am_calli (r := r_4) (w' := w_2) (am_runV (n := 1) (As := [.int (xs (x4 + (1 : Int32)).toNatClampNeg)]) (rest := []) ⟨hx, hb, hml, hown, hts⟩ hK hE hH (k_X11_senders hq_3) (am_gV am_q1055 am_q1056 am_q1057 am_q1 am_q1058) (am_o11 (p := 0) (by decide +kernel)) rfl ⟨rfl, rfl⟩ (by decide +kernel) ⟨Nat.le_of_ble_eq_true rfl, Nat.le_of_ble_eq_true rfl⟩ rfl hl.1 rfl (Nat.le_of_ble_eq_true rfl) hf0 dL_law_1488) hH (fun H locs hH => ?_)
  refine lv_aload_n hx hb dL_law_1491 rfl (lv_at hl 2 rfl) ?_
  refine lv_aload_n hx hb dL_law_1492 rfl (lv_at hl 0 rfl) ?_
  refine lv_iload hx hb dL_law_1493 (lv_at hl 4 rfl) ?_
  refine lv_iconst (v := 1) hx hb dL_law_1495 (by decide) ?_
  refine lv_iadd hx hb dL_law_1496 ?_
  obtain ⟨hi_5, hf⟩ := am_chk_some hf
  refine va_sld hx hb hXs hbl hbA hH.2 hi_5 dL_law_1497 ?_
  obtain ⟨r_8, w_6, hq_7, hf⟩ := am_b2_some hf
  refine am_calli (r := r_8) (w' := w_6) (am_runV (n := 1) (As := [.int (xs (x4 + (1 : Int32)).toNatClampNeg)]) (rest := [.int r_4]) ⟨hx, hb, hml, hown, hts⟩ hK hE hH (k_X12_senders hq_7) (am_gV am_q1814 am_q1815 am_q1816 am_q13 am_q1817) (am_o12 (p := 271) (by decide +kernel)) rfl ⟨rfl, rfl⟩ (by decide +kernel) ⟨Nat.le_of_ble_eq_true rfl, Nat.le_of_ble_eq_true rfl⟩ rfl hl.1 rfl (Nat.le_of_ble_eq_true rfl) hf0 dL_law_1498) hH (fun H locs hH => ?_)
  refine lv_icmp_eq (tgt := 1962) hx hb dL_law_1501 (by decide) (fun hc_9 => ?_) (fun hc_9 => ?_)
  · have hf := (if_pos hc_9).symm.trans hf
    obtain rfl := Option.some.inj hf
    exact kk H locs ls hH (lv_sub hl [0, 1, 2, 3, 4] rfl)
  · have hf := (if_neg hc_9).symm.trans hf
    refine lv_iconst (v := 0) hx hb dL_law_1504 (by decide) ?_
    cases hf
def f_law_38 (Ls : Nat) (xs : Nat → Int32) (x4 : Int32) (w : am_S) : Option am_S :=
  am_chk (x4 + (1 : Int32)) Ls (am_b2 (f_X11_less (xs (x4 + (1 : Int32)).toNatClampNeg) w) fun r_4 w_2 => am_chk (x4 + (1 : Int32)) Ls (am_b2 (f_X12_less (xs (x4 + (1 : Int32)).toNatClampNeg) w_2) fun r_8 w_6 => if r_4 = r_8 then (some w_6) else none))
set_option maxRecDepth 100000 in
set_option maxHeartbeats 4000000 in
theorem k_law_38 {p : Program} {l : Launch} {e : Env} {s : State} {m : MethodId} {below : List Frame} {meth : Method} {c : Code} {Q : State → Prop} {cells slots b0 Ls : Nat} {xs : Nat → Int32} {x4 : Int32} {G : am_G} {w ww : am_S} {H : Heap} {locs : List Loc} {ls : Array Slot} (hx : p.tables.exec = Jvm.exec) (hb : c.code = cL_law) (hml : c.maxLocals = 7) (hown : s.vm.findClass RL = some m.cls) (hts : ∀ w ∈ am_T, w.before #[Value.ref b0] s = true) (hK : va_K G.2.2.1 vwCl (am_tys G) s) (hE : am_E G s s.heap) (hXs : va_X b0 Ls xs s s.heap) (hbl : b0 < s.heap.size) (hbA : ¬ G.1 ≤ b0) (hf0 : cells ≤ room_1.cells ∧ slots ≤ room_1.slots) (hf : f_law_38 Ls xs x4 w = some ww) (hH : am_H G w s H locs) (hl : lv_has ls 7 [(0, .ref b0), (1, .ref (G.1 + 0)), (2, .ref (G.1 + 271)), (3, .ref (G.1 + 290)), (4, .int x4)]) (kk : ∀ (H : Heap) (locs : List Loc) (ls : Array Slot), am_H G ww s H locs → lv_has ls 7 [(0, .ref b0), (1, .ref (G.1 + 0)), (2, .ref (G.1 + 271)), (3, .ref (G.1 + 290)), (4, .int x4)] → W p l e room_1 s m #[Value.ref b0] below meth c H locs cells slots Q (F0 m 1962 ls [])) : W p l e room_1 s m #[Value.ref b0] below meth c H locs cells slots Q (F0 m 1506 ls []) := by
  unfold f_law_38 at hf
  refine lv_aload_n hx hb dL_law_1506 rfl (lv_at hl 1 rfl) ?_
  refine lv_aload_n hx hb dL_law_1507 rfl (lv_at hl 0 rfl) ?_
  refine lv_iload hx hb dL_law_1508 (lv_at hl 4 rfl) ?_
  refine lv_iconst (v := 1) hx hb dL_law_1510 (by decide) ?_
  refine lv_iadd hx hb dL_law_1511 ?_
  obtain ⟨hi_1, hf⟩ := am_chk_some hf
  refine va_sld hx hb hXs hbl hbA hH.2 hi_1 dL_law_1512 ?_
  obtain ⟨r_4, w_2, hq_3, hf⟩ := am_b2_some hf
  refine am_calli (r := r_4) (w' := w_2) (am_runV (n := 1) (As := [.int (xs (x4 + (1 : Int32)).toNatClampNeg)]) (rest := []) ⟨hx, hb, hml, hown, hts⟩ hK hE hH (k_X11_less hq_3) (am_gV am_q1059 am_q1060 am_q1061 am_q1 am_q1062) (am_o11 (p := 0) (by decide +kernel)) rfl ⟨rfl, rfl⟩ (by decide +kernel) ⟨Nat.le_of_ble_eq_true rfl, Nat.le_of_ble_eq_true rfl⟩ rfl hl.1 rfl (Nat.le_of_ble_eq_true rfl) hf0 dL_law_1513) hH (fun H locs hH => ?_)
  refine lv_aload_n hx hb dL_law_1516 rfl (lv_at hl 2 rfl) ?_
  refine lv_aload_n hx hb dL_law_1517 rfl (lv_at hl 0 rfl) ?_
  refine lv_iload hx hb dL_law_1518 (lv_at hl 4 rfl) ?_
  refine lv_iconst (v := 1) hx hb dL_law_1520 (by decide) ?_
  refine lv_iadd hx hb dL_law_1521 ?_
  obtain ⟨hi_5, hf⟩ := am_chk_some hf
  refine va_sld hx hb hXs hbl hbA hH.2 hi_5 dL_law_1522 ?_
  obtain ⟨r_8, w_6, hq_7, hf⟩ := am_b2_some hf
  refine am_calli (r := r_8) (w' := w_6) (am_runV (n := 1) (As := [.int (xs (x4 + (1 : Int32)).toNatClampNeg)]) (rest := [.int r_4]) ⟨hx, hb, hml, hown, hts⟩ hK hE hH (k_X12_less hq_7) (am_gV am_q1878 am_q1879 am_q1880 am_q13 am_q1881) (am_o12 (p := 271) (by decide +kernel)) rfl ⟨rfl, rfl⟩ (by decide +kernel) ⟨Nat.le_of_ble_eq_true rfl, Nat.le_of_ble_eq_true rfl⟩ rfl hl.1 rfl (Nat.le_of_ble_eq_true rfl) hf0 dL_law_1523) hH (fun H locs hH => ?_)
  refine lv_icmp_eq (tgt := 1962) hx hb dL_law_1526 (by decide) (fun hc_9 => ?_) (fun hc_9 => ?_)
  · have hf := (if_pos hc_9).symm.trans hf
    obtain rfl := Option.some.inj hf
    exact kk H locs ls hH (lv_sub hl [0, 1, 2, 3, 4] rfl)
  · have hf := (if_neg hc_9).symm.trans hf
    refine lv_iconst (v := 0) hx hb dL_law_1529 (by decide) ?_
    cases hf
def f_law_39 (Ls : Nat) (xs : Nat → Int32) (x4 : Int32) (w : am_S) : Option am_S :=
  am_chk (x4 + (1 : Int32)) Ls (am_b2 (f_X11_key (xs (x4 + (1 : Int32)).toNatClampNeg) w) fun r_4 w_2 => am_chk (x4 + (1 : Int32)) Ls (am_b2 (f_X12_key (xs (x4 + (1 : Int32)).toNatClampNeg) w_2) fun r_8 w_6 => if r_4 = r_8 then (some w_6) else none))
set_option maxRecDepth 100000 in
set_option maxHeartbeats 4000000 in
theorem k_law_39 {p : Program} {l : Launch} {e : Env} {s : State} {m : MethodId} {below : List Frame} {meth : Method} {c : Code} {Q : State → Prop} {cells slots b0 Ls : Nat} {xs : Nat → Int32} {x4 : Int32} {G : am_G} {w ww : am_S} {H : Heap} {locs : List Loc} {ls : Array Slot} (hx : p.tables.exec = Jvm.exec) (hb : c.code = cL_law) (hml : c.maxLocals = 7) (hown : s.vm.findClass RL = some m.cls) (hts : ∀ w ∈ am_T, w.before #[Value.ref b0] s = true) (hK : va_K G.2.2.1 vwCl (am_tys G) s) (hE : am_E G s s.heap) (hXs : va_X b0 Ls xs s s.heap) (hbl : b0 < s.heap.size) (hbA : ¬ G.1 ≤ b0) (hf0 : cells ≤ room_1.cells ∧ slots ≤ room_1.slots) (hf : f_law_39 Ls xs x4 w = some ww) (hH : am_H G w s H locs) (hl : lv_has ls 7 [(0, .ref b0), (1, .ref (G.1 + 0)), (2, .ref (G.1 + 271)), (3, .ref (G.1 + 290)), (4, .int x4)]) (kk : ∀ (H : Heap) (locs : List Loc) (ls : Array Slot), am_H G ww s H locs → lv_has ls 7 [(0, .ref b0), (1, .ref (G.1 + 0)), (2, .ref (G.1 + 271)), (3, .ref (G.1 + 290)), (4, .int x4)] → W p l e room_1 s m #[Value.ref b0] below meth c H locs cells slots Q (F0 m 1962 ls [])) : W p l e room_1 s m #[Value.ref b0] below meth c H locs cells slots Q (F0 m 1531 ls []) := by
  unfold f_law_39 at hf
  refine lv_aload_n hx hb dL_law_1531 rfl (lv_at hl 1 rfl) ?_
  refine lv_aload_n hx hb dL_law_1532 rfl (lv_at hl 0 rfl) ?_
  refine lv_iload hx hb dL_law_1533 (lv_at hl 4 rfl) ?_
  refine lv_iconst (v := 1) hx hb dL_law_1535 (by decide) ?_
  refine lv_iadd hx hb dL_law_1536 ?_
  obtain ⟨hi_1, hf⟩ := am_chk_some hf
  refine va_sld hx hb hXs hbl hbA hH.2 hi_1 dL_law_1537 ?_
  obtain ⟨r_4, w_2, hq_3, hf⟩ := am_b2_some hf
  refine am_calli (r := r_4) (w' := w_2) (am_runV (n := 1) (As := [.int (xs (x4 + (1 : Int32)).toNatClampNeg)]) (rest := []) ⟨hx, hb, hml, hown, hts⟩ hK hE hH (k_X11_key hq_3) (am_gV am_q1076 am_q1077 am_q1078 am_q1 am_q1079) (am_o11 (p := 0) (by decide +kernel)) rfl ⟨rfl, rfl⟩ (by decide +kernel) ⟨Nat.le_of_ble_eq_true rfl, Nat.le_of_ble_eq_true rfl⟩ rfl hl.1 rfl (Nat.le_of_ble_eq_true rfl) hf0 dL_law_1538) hH (fun H locs hH => ?_)
  refine lv_aload_n hx hb dL_law_1541 rfl (lv_at hl 2 rfl) ?_
  refine lv_aload_n hx hb dL_law_1542 rfl (lv_at hl 0 rfl) ?_
  refine lv_iload hx hb dL_law_1543 (lv_at hl 4 rfl) ?_
  refine lv_iconst (v := 1) hx hb dL_law_1545 (by decide) ?_
  refine lv_iadd hx hb dL_law_1546 ?_
  obtain ⟨hi_5, hf⟩ := am_chk_some hf
  refine va_sld hx hb hXs hbl hbA hH.2 hi_5 dL_law_1547 ?_
  obtain ⟨r_8, w_6, hq_7, hf⟩ := am_b2_some hf
  refine am_calli (r := r_8) (w' := w_6) (am_runV (n := 1) (As := [.int (xs (x4 + (1 : Int32)).toNatClampNeg)]) (rest := [.int r_4]) ⟨hx, hb, hml, hown, hts⟩ hK hE hH (k_X12_key hq_7) (am_gV am_q1886 am_q1887 am_q1888 am_q13 am_q1889) (am_o12 (p := 271) (by decide +kernel)) rfl ⟨rfl, rfl⟩ (by decide +kernel) ⟨Nat.le_of_ble_eq_true rfl, Nat.le_of_ble_eq_true rfl⟩ rfl hl.1 rfl (Nat.le_of_ble_eq_true rfl) hf0 dL_law_1548) hH (fun H locs hH => ?_)
  refine lv_icmp_eq (tgt := 1962) hx hb dL_law_1551 (by decide) (fun hc_9 => ?_) (fun hc_9 => ?_)
  · have hf := (if_pos hc_9).symm.trans hf
    obtain rfl := Option.some.inj hf
    exact kk H locs ls hH (lv_sub hl [0, 1, 2, 3, 4] rfl)
  · have hf := (if_neg hc_9).symm.trans hf
    refine lv_iconst (v := 0) hx hb dL_law_1554 (by decide) ?_
    cases hf
def f_law_40 (Ls : Nat) (xs : Nat → Int32) (x4 : Int32) (w : am_S) : Option am_S :=
  am_chk (x4 + (1 : Int32)) Ls (am_chk (x4 + (2 : Int32)) Ls (am_b2 (f_X11_more (xs (x4 + (1 : Int32)).toNatClampNeg) (xs (x4 + (2 : Int32)).toNatClampNeg) w) fun r_5 w_3 => am_chk (x4 + (1 : Int32)) Ls (am_chk (x4 + (2 : Int32)) Ls (am_b2 (f_X12_more (xs (x4 + (1 : Int32)).toNatClampNeg) (xs (x4 + (2 : Int32)).toNatClampNeg) w_3) fun r_10 w_8 => if r_5 = r_10 then (some w_8) else none))))
set_option maxRecDepth 100000 in
set_option maxHeartbeats 4000000 in
theorem k_law_40 {p : Program} {l : Launch} {e : Env} {s : State} {m : MethodId} {below : List Frame} {meth : Method} {c : Code} {Q : State → Prop} {cells slots b0 Ls : Nat} {xs : Nat → Int32} {x4 : Int32} {G : am_G} {w ww : am_S} {H : Heap} {locs : List Loc} {ls : Array Slot} (hx : p.tables.exec = Jvm.exec) (hb : c.code = cL_law) (hml : c.maxLocals = 7) (hown : s.vm.findClass RL = some m.cls) (hts : ∀ w ∈ am_T, w.before #[Value.ref b0] s = true) (hK : va_K G.2.2.1 vwCl (am_tys G) s) (hE : am_E G s s.heap) (hXs : va_X b0 Ls xs s s.heap) (hbl : b0 < s.heap.size) (hbA : ¬ G.1 ≤ b0) (hf0 : cells ≤ room_1.cells ∧ slots ≤ room_1.slots) (hf : f_law_40 Ls xs x4 w = some ww) (hH : am_H G w s H locs) (hl : lv_has ls 7 [(0, .ref b0), (1, .ref (G.1 + 0)), (2, .ref (G.1 + 271)), (3, .ref (G.1 + 290)), (4, .int x4)]) (kk : ∀ (H : Heap) (locs : List Loc) (ls : Array Slot), am_H G ww s H locs → lv_has ls 7 [(0, .ref b0), (1, .ref (G.1 + 0)), (2, .ref (G.1 + 271)), (3, .ref (G.1 + 290)), (4, .int x4)] → W p l e room_1 s m #[Value.ref b0] below meth c H locs cells slots Q (F0 m 1962 ls [])) : W p l e room_1 s m #[Value.ref b0] below meth c H locs cells slots Q (F0 m 1556 ls []) := by
  unfold f_law_40 at hf
  refine lv_aload_n hx hb dL_law_1556 rfl (lv_at hl 1 rfl) ?_
  refine lv_aload_n hx hb dL_law_1557 rfl (lv_at hl 0 rfl) ?_
  refine lv_iload hx hb dL_law_1558 (lv_at hl 4 rfl) ?_
  refine lv_iconst (v := 1) hx hb dL_law_1560 (by decide) ?_
  refine lv_iadd hx hb dL_law_1561 ?_
  obtain ⟨hi_1, hf⟩ := am_chk_some hf
  refine va_sld hx hb hXs hbl hbA hH.2 hi_1 dL_law_1562 ?_
  refine lv_aload_n hx hb dL_law_1563 rfl (lv_at hl 0 rfl) ?_
  refine lv_iload hx hb dL_law_1564 (lv_at hl 4 rfl) ?_
  refine lv_iconst (v := 2) hx hb dL_law_1566 (by decide) ?_
  refine lv_iadd hx hb dL_law_1567 ?_
  obtain ⟨hi_2, hf⟩ := am_chk_some hf
  refine va_sld hx hb hXs hbl hbA hH.2 hi_2 dL_law_1568 ?_
  obtain ⟨r_5, w_3, hq_4, hf⟩ := am_b2_some hf
  refine am_calli (r := r_5) (w' := w_3) (am_runV (n := 2) (As := [.int (xs (x4 + (1 : Int32)).toNatClampNeg), .int (xs (x4 + (2 : Int32)).toNatClampNeg)]) (rest := []) ⟨hx, hb, hml, hown, hts⟩ hK hE hH (k_X11_more hq_4) (am_gV am_q1080 am_q1081 am_q1082 am_q1 am_q1083) (am_o11 (p := 0) (by decide +kernel)) rfl ⟨rfl, rfl⟩ (by decide +kernel) ⟨Nat.le_of_ble_eq_true rfl, Nat.le_of_ble_eq_true rfl⟩ rfl hl.1 rfl (Nat.le_of_ble_eq_true rfl) hf0 dL_law_1569) hH (fun H locs hH => ?_)
  refine lv_aload_n hx hb dL_law_1572 rfl (lv_at hl 2 rfl) ?_
  refine lv_aload_n hx hb dL_law_1573 rfl (lv_at hl 0 rfl) ?_
  refine lv_iload hx hb dL_law_1574 (lv_at hl 4 rfl) ?_
  refine lv_iconst (v := 1) hx hb dL_law_1576 (by decide) ?_
  refine lv_iadd hx hb dL_law_1577 ?_
  obtain ⟨hi_6, hf⟩ := am_chk_some hf
  refine va_sld hx hb hXs hbl hbA hH.2 hi_6 dL_law_1578 ?_
  refine lv_aload_n hx hb dL_law_1579 rfl (lv_at hl 0 rfl) ?_
  refine lv_iload hx hb dL_law_1580 (lv_at hl 4 rfl) ?_
  refine lv_iconst (v := 2) hx hb dL_law_1582 (by decide) ?_
  refine lv_iadd hx hb dL_law_1583 ?_
  obtain ⟨hi_7, hf⟩ := am_chk_some hf
  refine va_sld hx hb hXs hbl hbA hH.2 hi_7 dL_law_1584 ?_
  obtain ⟨r_10, w_8, hq_9, hf⟩ := am_b2_some hf
  refine am_calli (r := r_10) (w' := w_8) (am_runV (n := 2) (As := [.int (xs (x4 + (1 : Int32)).toNatClampNeg), .int (xs (x4 + (2 : Int32)).toNatClampNeg)]) (rest := [.int r_5]) ⟨hx, hb, hml, hown, hts⟩ hK hE hH (k_X12_more hq_9) (am_gV am_q1890 am_q1891 am_q1892 am_q13 am_q1893) (am_o12 (p := 271) (by decide +kernel)) rfl ⟨rfl, rfl⟩ (by decide +kernel) ⟨Nat.le_of_ble_eq_true rfl, Nat.le_of_ble_eq_true rfl⟩ rfl hl.1 rfl (Nat.le_of_ble_eq_true rfl) hf0 dL_law_1585) hH (fun H locs hH => ?_)
  refine lv_icmp_eq (tgt := 1962) hx hb dL_law_1588 (by decide) (fun hc_11 => ?_) (fun hc_11 => ?_)
  · have hf := (if_pos hc_11).symm.trans hf
    obtain rfl := Option.some.inj hf
    exact kk H locs ls hH (lv_sub hl [0, 1, 2, 3, 4] rfl)
  · have hf := (if_neg hc_11).symm.trans hf
    refine lv_iconst (v := 0) hx hb dL_law_1591 (by decide) ?_
    cases hf
def f_law_41 (Ls : Nat) (xs : Nat → Int32) (x4 : Int32) (w : am_S) : Option am_S :=
  am_chk (x4 + (1 : Int32)) Ls (am_chk (x4 + (2 : Int32)) Ls (am_chk (x4 + (3 : Int32)) Ls (am_b2 (f_X11_jam (xs (x4 + (1 : Int32)).toNatClampNeg) (xs (x4 + (2 : Int32)).toNatClampNeg) (xs (x4 + (3 : Int32)).toNatClampNeg) w) fun r_6 w_4 => am_chk (x4 + (1 : Int32)) Ls (am_chk (x4 + (2 : Int32)) Ls (am_chk (x4 + (3 : Int32)) Ls (am_b2 (f_X12_jam (xs (x4 + (1 : Int32)).toNatClampNeg) (xs (x4 + (2 : Int32)).toNatClampNeg) (xs (x4 + (3 : Int32)).toNatClampNeg) w_4) fun r_12 w_10 => if r_6 = r_12 then (some w_10) else none))))))
set_option maxRecDepth 100000 in
set_option maxHeartbeats 4000000 in
theorem k_law_41 {p : Program} {l : Launch} {e : Env} {s : State} {m : MethodId} {below : List Frame} {meth : Method} {c : Code} {Q : State → Prop} {cells slots b0 Ls : Nat} {xs : Nat → Int32} {x4 : Int32} {G : am_G} {w ww : am_S} {H : Heap} {locs : List Loc} {ls : Array Slot} (hx : p.tables.exec = Jvm.exec) (hb : c.code = cL_law) (hml : c.maxLocals = 7) (hown : s.vm.findClass RL = some m.cls) (hts : ∀ w ∈ am_T, w.before #[Value.ref b0] s = true) (hK : va_K G.2.2.1 vwCl (am_tys G) s) (hE : am_E G s s.heap) (hXs : va_X b0 Ls xs s s.heap) (hbl : b0 < s.heap.size) (hbA : ¬ G.1 ≤ b0) (hf0 : cells ≤ room_1.cells ∧ slots ≤ room_1.slots) (hf : f_law_41 Ls xs x4 w = some ww) (hH : am_H G w s H locs) (hl : lv_has ls 7 [(0, .ref b0), (1, .ref (G.1 + 0)), (2, .ref (G.1 + 271)), (3, .ref (G.1 + 290)), (4, .int x4)]) (kk : ∀ (H : Heap) (locs : List Loc) (ls : Array Slot), am_H G ww s H locs → lv_has ls 7 [(0, .ref b0), (1, .ref (G.1 + 0)), (2, .ref (G.1 + 271)), (3, .ref (G.1 + 290)), (4, .int x4)] → W p l e room_1 s m #[Value.ref b0] below meth c H locs cells slots Q (F0 m 1962 ls [])) : W p l e room_1 s m #[Value.ref b0] below meth c H locs cells slots Q (F0 m 1593 ls []) := by
  unfold f_law_41 at hf
  refine lv_aload_n hx hb dL_law_1593 rfl (lv_at hl 1 rfl) ?_
  refine lv_aload_n hx hb dL_law_1594 rfl (lv_at hl 0 rfl) ?_
  refine lv_iload hx hb dL_law_1595 (lv_at hl 4 rfl) ?_
  refine lv_iconst (v := 1) hx hb dL_law_1597 (by decide) ?_
  refine lv_iadd hx hb dL_law_1598 ?_
  obtain ⟨hi_1, hf⟩ := am_chk_some hf
  refine va_sld hx hb hXs hbl hbA hH.2 hi_1 dL_law_1599 ?_
  refine lv_aload_n hx hb dL_law_1600 rfl (lv_at hl 0 rfl) ?_
  refine lv_iload hx hb dL_law_1601 (lv_at hl 4 rfl) ?_
  refine lv_iconst (v := 2) hx hb dL_law_1603 (by decide) ?_
  refine lv_iadd hx hb dL_law_1604 ?_
  obtain ⟨hi_2, hf⟩ := am_chk_some hf
  refine va_sld hx hb hXs hbl hbA hH.2 hi_2 dL_law_1605 ?_
  refine lv_aload_n hx hb dL_law_1606 rfl (lv_at hl 0 rfl) ?_
  refine lv_iload hx hb dL_law_1607 (lv_at hl 4 rfl) ?_
  refine lv_iconst (v := 3) hx hb dL_law_1609 (by decide) ?_
  refine lv_iadd hx hb dL_law_1610 ?_
  obtain ⟨hi_3, hf⟩ := am_chk_some hf
  refine va_sld hx hb hXs hbl hbA hH.2 hi_3 dL_law_1611 ?_
  obtain ⟨r_6, w_4, hq_5, hf⟩ := am_b2_some hf
  refine am_calli (r := r_6) (w' := w_4) (am_runV (n := 3) (As := [.int (xs (x4 + (1 : Int32)).toNatClampNeg), .int (xs (x4 + (2 : Int32)).toNatClampNeg), .int (xs (x4 + (3 : Int32)).toNatClampNeg)]) (rest := []) ⟨hx, hb, hml, hown, hts⟩ hK hE hH (k_X11_jam hq_5) (am_gV am_q1095 am_q1096 am_q1097 am_q1 am_q1098) (am_o11 (p := 0) (by decide +kernel)) rfl ⟨rfl, rfl⟩ (by decide +kernel) ⟨Nat.le_of_ble_eq_true rfl, Nat.le_of_ble_eq_true rfl⟩ rfl hl.1 rfl (Nat.le_of_ble_eq_true rfl) hf0 dL_law_1612) hH (fun H locs hH => ?_)
  refine lv_aload_n hx hb dL_law_1615 rfl (lv_at hl 2 rfl) ?_
  refine lv_aload_n hx hb dL_law_1616 rfl (lv_at hl 0 rfl) ?_
  refine lv_iload hx hb dL_law_1617 (lv_at hl 4 rfl) ?_
  refine lv_iconst (v := 1) hx hb dL_law_1619 (by decide) ?_
  refine lv_iadd hx hb dL_law_1620 ?_
  obtain ⟨hi_7, hf⟩ := am_chk_some hf
  refine va_sld hx hb hXs hbl hbA hH.2 hi_7 dL_law_1621 ?_
  refine lv_aload_n hx hb dL_law_1622 rfl (lv_at hl 0 rfl) ?_
  refine lv_iload hx hb dL_law_1623 (lv_at hl 4 rfl) ?_
  refine lv_iconst (v := 2) hx hb dL_law_1625 (by decide) ?_
  refine lv_iadd hx hb dL_law_1626 ?_
  obtain ⟨hi_8, hf⟩ := am_chk_some hf
  refine va_sld hx hb hXs hbl hbA hH.2 hi_8 dL_law_1627 ?_
  refine lv_aload_n hx hb dL_law_1628 rfl (lv_at hl 0 rfl) ?_
  refine lv_iload hx hb dL_law_1629 (lv_at hl 4 rfl) ?_
  refine lv_iconst (v := 3) hx hb dL_law_1631 (by decide) ?_
  refine lv_iadd hx hb dL_law_1632 ?_
  obtain ⟨hi_9, hf⟩ := am_chk_some hf
  refine va_sld hx hb hXs hbl hbA hH.2 hi_9 dL_law_1633 ?_
  obtain ⟨r_12, w_10, hq_11, hf⟩ := am_b2_some hf
  refine am_calli (r := r_12) (w' := w_10) (am_runV (n := 3) (As := [.int (xs (x4 + (1 : Int32)).toNatClampNeg), .int (xs (x4 + (2 : Int32)).toNatClampNeg), .int (xs (x4 + (3 : Int32)).toNatClampNeg)]) (rest := [.int r_6]) ⟨hx, hb, hml, hown, hts⟩ hK hE hH (k_X12_jam hq_11) (am_gV am_q1894 am_q1895 am_q1896 am_q13 am_q1897) (am_o12 (p := 271) (by decide +kernel)) rfl ⟨rfl, rfl⟩ (by decide +kernel) ⟨Nat.le_of_ble_eq_true rfl, Nat.le_of_ble_eq_true rfl⟩ rfl hl.1 rfl (Nat.le_of_ble_eq_true rfl) hf0 dL_law_1634) hH (fun H locs hH => ?_)
  refine lv_icmp_eq (tgt := 1962) hx hb dL_law_1637 (by decide) (fun hc_13 => ?_) (fun hc_13 => ?_)
  · have hf := (if_pos hc_13).symm.trans hf
    obtain rfl := Option.some.inj hf
    exact kk H locs ls hH (lv_sub hl [0, 1, 2, 3, 4] rfl)
  · have hf := (if_neg hc_13).symm.trans hf
    refine lv_iconst (v := 0) hx hb dL_law_1640 (by decide) ?_
    cases hf
def f_law_42 (Ls : Nat) (xs : Nat → Int32) (x4 : Int32) (w : am_S) : Option am_S :=
  am_chk (x4 + (1 : Int32)) Ls (am_chk (x4 + (2 : Int32)) Ls (am_b2 (f_X11_share (xs (x4 + (1 : Int32)).toNatClampNeg) (xs (x4 + (2 : Int32)).toNatClampNeg) w) fun r_5 w_3 => am_chk (x4 + (1 : Int32)) Ls (am_chk (x4 + (2 : Int32)) Ls (am_b2 (f_X12_share (xs (x4 + (1 : Int32)).toNatClampNeg) (xs (x4 + (2 : Int32)).toNatClampNeg) w_3) fun r_10 w_8 => if (lg_cmp r_5 r_10) = 0 then (some w_8) else none))))
set_option maxRecDepth 100000 in
set_option maxHeartbeats 4000000 in
theorem k_law_42 {p : Program} {l : Launch} {e : Env} {s : State} {m : MethodId} {below : List Frame} {meth : Method} {c : Code} {Q : State → Prop} {cells slots b0 Ls : Nat} {xs : Nat → Int32} {x4 : Int32} {G : am_G} {w ww : am_S} {H : Heap} {locs : List Loc} {ls : Array Slot} (hx : p.tables.exec = Jvm.exec) (hb : c.code = cL_law) (hml : c.maxLocals = 7) (hown : s.vm.findClass RL = some m.cls) (hts : ∀ w ∈ am_T, w.before #[Value.ref b0] s = true) (hK : va_K G.2.2.1 vwCl (am_tys G) s) (hE : am_E G s s.heap) (hXs : va_X b0 Ls xs s s.heap) (hbl : b0 < s.heap.size) (hbA : ¬ G.1 ≤ b0) (hf0 : cells ≤ room_1.cells ∧ slots ≤ room_1.slots) (hf : f_law_42 Ls xs x4 w = some ww) (hH : am_H G w s H locs) (hl : lv_has ls 7 [(0, .ref b0), (1, .ref (G.1 + 0)), (2, .ref (G.1 + 271)), (3, .ref (G.1 + 290)), (4, .int x4)]) (kk : ∀ (H : Heap) (locs : List Loc) (ls : Array Slot), am_H G ww s H locs → lv_has ls 7 [(0, .ref b0), (1, .ref (G.1 + 0)), (2, .ref (G.1 + 271)), (3, .ref (G.1 + 290)), (4, .int x4)] → W p l e room_1 s m #[Value.ref b0] below meth c H locs cells slots Q (F0 m 1962 ls [])) : W p l e room_1 s m #[Value.ref b0] below meth c H locs cells slots Q (F0 m 1642 ls []) := by
  unfold f_law_42 at hf
  refine lv_aload_n hx hb dL_law_1642 rfl (lv_at hl 1 rfl) ?_
  refine lv_aload_n hx hb dL_law_1643 rfl (lv_at hl 0 rfl) ?_
  refine lv_iload hx hb dL_law_1644 (lv_at hl 4 rfl) ?_
  refine lv_iconst (v := 1) hx hb dL_law_1646 (by decide) ?_
  refine lv_iadd hx hb dL_law_1647 ?_
  obtain ⟨hi_1, hf⟩ := am_chk_some hf
  refine va_sld hx hb hXs hbl hbA hH.2 hi_1 dL_law_1648 ?_
  refine lv_aload_n hx hb dL_law_1649 rfl (lv_at hl 0 rfl) ?_
  refine lv_iload hx hb dL_law_1650 (lv_at hl 4 rfl) ?_
  refine lv_iconst (v := 2) hx hb dL_law_1652 (by decide) ?_
  refine lv_iadd hx hb dL_law_1653 ?_
  obtain ⟨hi_2, hf⟩ := am_chk_some hf
  refine va_sld hx hb hXs hbl hbA hH.2 hi_2 dL_law_1654 ?_
  obtain ⟨r_5, w_3, hq_4, hf⟩ := am_b2_some hf
  refine am_calll (r := r_5) (w' := w_3) (am_runV (n := 2) (As := [.int (xs (x4 + (1 : Int32)).toNatClampNeg), .int (xs (x4 + (2 : Int32)).toNatClampNeg)]) (rest := []) ⟨hx, hb, hml, hown, hts⟩ hK hE hH (k_X11_share hq_4) (am_gV am_q1113 am_q1114 am_q1115 am_q1 am_q1116) (am_o11 (p := 0) (by decide +kernel)) rfl ⟨rfl, rfl⟩ (by decide +kernel) ⟨Nat.le_of_ble_eq_true rfl, Nat.le_of_ble_eq_true rfl⟩ rfl hl.1 rfl (Nat.le_of_ble_eq_true rfl) hf0 dL_law_1655) hH (fun H locs hH => ?_)
  refine lv_aload_n hx hb dL_law_1658 rfl (lv_at hl 2 rfl) ?_
  refine lv_aload_n hx hb dL_law_1659 rfl (lv_at hl 0 rfl) ?_
  refine lv_iload hx hb dL_law_1660 (lv_at hl 4 rfl) ?_
  refine lv_iconst (v := 1) hx hb dL_law_1662 (by decide) ?_
  refine lv_iadd hx hb dL_law_1663 ?_
  obtain ⟨hi_6, hf⟩ := am_chk_some hf
  refine va_sld hx hb hXs hbl hbA hH.2 hi_6 dL_law_1664 ?_
  refine lv_aload_n hx hb dL_law_1665 rfl (lv_at hl 0 rfl) ?_
  refine lv_iload hx hb dL_law_1666 (lv_at hl 4 rfl) ?_
  refine lv_iconst (v := 2) hx hb dL_law_1668 (by decide) ?_
  refine lv_iadd hx hb dL_law_1669 ?_
  obtain ⟨hi_7, hf⟩ := am_chk_some hf
  refine va_sld hx hb hXs hbl hbA hH.2 hi_7 dL_law_1670 ?_
  obtain ⟨r_10, w_8, hq_9, hf⟩ := am_b2_some hf
  refine am_calll (r := r_10) (w' := w_8) (am_runV (n := 2) (As := [.int (xs (x4 + (1 : Int32)).toNatClampNeg), .int (xs (x4 + (2 : Int32)).toNatClampNeg)]) (rest := [.long r_5]) ⟨hx, hb, hml, hown, hts⟩ hK hE hH (k_X12_share hq_9) (am_gV am_q1905 am_q1906 am_q1907 am_q13 am_q1908) (am_o12 (p := 271) (by decide +kernel)) rfl ⟨rfl, rfl⟩ (by decide +kernel) ⟨Nat.le_of_ble_eq_true rfl, Nat.le_of_ble_eq_true rfl⟩ rfl hl.1 rfl (Nat.le_of_ble_eq_true rfl) hf0 dL_law_1671) hH (fun H locs hH => ?_)
  refine W.lcmp hx hb dL_law_1674 ?_
  refine lv_if_eq (tgt := 1962) hx hb dL_law_1675 (by decide) (fun hc_11 => ?_) (fun hc_11 => ?_)
  · have hf := (if_pos hc_11).symm.trans hf
    obtain rfl := Option.some.inj hf
    exact kk H locs ls hH (lv_sub hl [0, 1, 2, 3, 4] rfl)
  · have hf := (if_neg hc_11).symm.trans hf
    refine lv_iconst (v := 0) hx hb dL_law_1678 (by decide) ?_
    cases hf
def f_law_43 (Ls : Nat) (xs : Nat → Int32) (x4 : Int32) (w : am_S) : Option am_S :=
  am_b2 (f_X11_limit w) fun r_3 w_1 => am_b2 (f_X12_limit w_1) fun r_6 w_4 => if r_3 = r_6 then (some w_4) else none
set_option maxRecDepth 100000 in
set_option maxHeartbeats 4000000 in
theorem k_law_43 {p : Program} {l : Launch} {e : Env} {s : State} {m : MethodId} {below : List Frame} {meth : Method} {c : Code} {Q : State → Prop} {cells slots b0 Ls : Nat} {xs : Nat → Int32} {x4 : Int32} {G : am_G} {w ww : am_S} {H : Heap} {locs : List Loc} {ls : Array Slot} (hx : p.tables.exec = Jvm.exec) (hb : c.code = cL_law) (hml : c.maxLocals = 7) (hown : s.vm.findClass RL = some m.cls) (hts : ∀ w ∈ am_T, w.before #[Value.ref b0] s = true) (hK : va_K G.2.2.1 vwCl (am_tys G) s) (hE : am_E G s s.heap) (hXs : va_X b0 Ls xs s s.heap) (hbl : b0 < s.heap.size) (hbA : ¬ G.1 ≤ b0) (hf0 : cells ≤ room_1.cells ∧ slots ≤ room_1.slots) (hf : f_law_43 Ls xs x4 w = some ww) (hH : am_H G w s H locs) (hl : lv_has ls 7 [(0, .ref b0), (1, .ref (G.1 + 0)), (2, .ref (G.1 + 271)), (3, .ref (G.1 + 290)), (4, .int x4)]) (kk : ∀ (H : Heap) (locs : List Loc) (ls : Array Slot), am_H G ww s H locs → lv_has ls 7 [(0, .ref b0), (1, .ref (G.1 + 0)), (2, .ref (G.1 + 271)), (3, .ref (G.1 + 290)), (4, .int x4)] → W p l e room_1 s m #[Value.ref b0] below meth c H locs cells slots Q (F0 m 1962 ls [])) : W p l e room_1 s m #[Value.ref b0] below meth c H locs cells slots Q (F0 m 1680 ls []) := by
  unfold f_law_43 at hf
  refine lv_aload_n hx hb dL_law_1680 rfl (lv_at hl 1 rfl) ?_
  obtain ⟨r_3, w_1, hq_2, hf⟩ := am_b2_some hf
  refine am_calli (r := r_3) (w' := w_1) (am_runV (n := 0) (As := []) (rest := []) ⟨hx, hb, hml, hown, hts⟩ hK hE hH (k_X11_limit hq_2) (am_gV am_q1147 am_q1148 am_q1149 am_q1 am_q1150) (am_o11 (p := 0) (by decide +kernel)) rfl ⟨rfl, rfl⟩ (by decide +kernel) ⟨Nat.le_of_ble_eq_true rfl, Nat.le_of_ble_eq_true rfl⟩ rfl hl.1 rfl (Nat.le_of_ble_eq_true rfl) hf0 dL_law_1681) hH (fun H locs hH => ?_)
  refine lv_aload_n hx hb dL_law_1684 rfl (lv_at hl 2 rfl) ?_
  obtain ⟨r_6, w_4, hq_5, hf⟩ := am_b2_some hf
  refine am_calli (r := r_6) (w' := w_4) (am_runV (n := 0) (As := []) (rest := [.int r_3]) ⟨hx, hb, hml, hown, hts⟩ hK hE hH (k_X12_limit hq_5) (am_gV am_q1933 am_q1934 am_q1935 am_q13 am_q1936) (am_o12 (p := 271) (by decide +kernel)) rfl ⟨rfl, rfl⟩ (by decide +kernel) ⟨Nat.le_of_ble_eq_true rfl, Nat.le_of_ble_eq_true rfl⟩ rfl hl.1 rfl (Nat.le_of_ble_eq_true rfl) hf0 dL_law_1685) hH (fun H locs hH => ?_)
  refine lv_icmp_eq (tgt := 1962) hx hb dL_law_1688 (by decide) (fun hc_7 => ?_) (fun hc_7 => ?_)
  · have hf := (if_pos hc_7).symm.trans hf
    obtain rfl := Option.some.inj hf
    exact kk H locs ls hH (lv_sub hl [0, 1, 2, 3, 4] rfl)
  · have hf := (if_neg hc_7).symm.trans hf
    refine lv_iconst (v := 0) hx hb dL_law_1691 (by decide) ?_
    cases hf
def f_law_44 (Ls : Nat) (xs : Nat → Int32) (x4 : Int32) (w : am_S) : Option am_S :=
  am_chk (x4 + (1 : Int32)) Ls (am_chk (x4 + (2 : Int32)) Ls (am_b2 (f_X11_sample ((am_lshl ((xs (x4 + (1 : Int32)).toNatClampNeg).toInt64) (32 : Int32)) ||| (((xs (x4 + (2 : Int32)).toNatClampNeg).toInt64) &&& (4294967295 : Int64))) w) fun r_5 w_3 => am_chk (x4 + (1 : Int32)) Ls (am_chk (x4 + (2 : Int32)) Ls (am_b2 (f_X12_sample ((am_lshl ((xs (x4 + (1 : Int32)).toNatClampNeg).toInt64) (32 : Int32)) ||| (((xs (x4 + (2 : Int32)).toNatClampNeg).toInt64) &&& (4294967295 : Int64))) w_3) fun r_10 w_8 => if r_5 = r_10 then (some w_8) else none))))
set_option maxRecDepth 100000 in
set_option maxHeartbeats 4000000 in
theorem k_law_44 {p : Program} {l : Launch} {e : Env} {s : State} {m : MethodId} {below : List Frame} {meth : Method} {c : Code} {Q : State → Prop} {cells slots b0 Ls : Nat} {xs : Nat → Int32} {x4 : Int32} {G : am_G} {w ww : am_S} {H : Heap} {locs : List Loc} {ls : Array Slot} (hx : p.tables.exec = Jvm.exec) (hb : c.code = cL_law) (hml : c.maxLocals = 7) (hown : s.vm.findClass RL = some m.cls) (hts : ∀ w ∈ am_T, w.before #[Value.ref b0] s = true) (hK : va_K G.2.2.1 vwCl (am_tys G) s) (hE : am_E G s s.heap) (hXs : va_X b0 Ls xs s s.heap) (hbl : b0 < s.heap.size) (hbA : ¬ G.1 ≤ b0) (hf0 : cells ≤ room_1.cells ∧ slots ≤ room_1.slots) (hf : f_law_44 Ls xs x4 w = some ww) (hH : am_H G w s H locs) (hl : lv_has ls 7 [(0, .ref b0), (1, .ref (G.1 + 0)), (2, .ref (G.1 + 271)), (3, .ref (G.1 + 290)), (4, .int x4)]) (kk : ∀ (H : Heap) (locs : List Loc) (ls : Array Slot), am_H G ww s H locs → lv_has ls 7 [(0, .ref b0), (1, .ref (G.1 + 0)), (2, .ref (G.1 + 271)), (3, .ref (G.1 + 290)), (4, .int x4)] → W p l e room_1 s m #[Value.ref b0] below meth c H locs cells slots Q (F0 m 1962 ls [])) : W p l e room_1 s m #[Value.ref b0] below meth c H locs cells slots Q (F0 m 1693 ls []) := by
  unfold f_law_44 at hf
  refine lv_aload_n hx hb dL_law_1693 rfl (lv_at hl 1 rfl) ?_
  refine lv_aload_n hx hb dL_law_1694 rfl (lv_at hl 0 rfl) ?_
  refine lv_iload hx hb dL_law_1695 (lv_at hl 4 rfl) ?_
  refine lv_iconst (v := 1) hx hb dL_law_1697 (by decide) ?_
  refine lv_iadd hx hb dL_law_1698 ?_
  obtain ⟨hi_1, hf⟩ := am_chk_some hf
  refine va_sld hx hb hXs hbl hbA hH.2 hi_1 dL_law_1699 ?_
  refine lv_i2l hx hb dL_law_1700 rfl ?_
  refine lv_bipush (v := 32) hx hb dL_law_1701 (by decide) ?_
  refine lv_lshl (v := am_lshl ((xs (x4 + (1 : Int32)).toNatClampNeg).toInt64) (32 : Int32)) hx hb dL_law_1703 rfl ?_
  refine lv_aload_n hx hb dL_law_1704 rfl (lv_at hl 0 rfl) ?_
  refine lv_iload hx hb dL_law_1705 (lv_at hl 4 rfl) ?_
  refine lv_iconst (v := 2) hx hb dL_law_1707 (by decide) ?_
  refine lv_iadd hx hb dL_law_1708 ?_
  obtain ⟨hi_2, hf⟩ := am_chk_some hf
  refine va_sld hx hb hXs hbl hbA hH.2 hi_2 dL_law_1709 ?_
  refine lv_i2l hx hb dL_law_1710 rfl ?_
  refine lv_ldc2 (v := 4294967295) hx hb hown (hts _ am_q2005) dL_law_1711 ?_
  refine lv_land hx hb dL_law_1714 ?_
  refine lv_lor hx hb dL_law_1715 ?_
  obtain ⟨r_5, w_3, hq_4, hf⟩ := am_b2_some hf
  refine am_calli (r := r_5) (w' := w_3) (am_runV (n := 1) (As := [.long ((am_lshl ((xs (x4 + (1 : Int32)).toNatClampNeg).toInt64) (32 : Int32)) ||| (((xs (x4 + (2 : Int32)).toNatClampNeg).toInt64) &&& (4294967295 : Int64)))]) (rest := []) ⟨hx, hb, hml, hown, hts⟩ hK hE hH (k_X11_sample hq_4) (am_gV am_q1152 am_q1153 am_q1154 am_q1 am_q1155) (am_o11 (p := 0) (by decide +kernel)) rfl ⟨rfl, rfl⟩ (by decide +kernel) ⟨Nat.le_of_ble_eq_true rfl, Nat.le_of_ble_eq_true rfl⟩ rfl hl.1 rfl (Nat.le_of_ble_eq_true rfl) hf0 dL_law_1716) hH (fun H locs hH => ?_)
  refine lv_aload_n hx hb dL_law_1719 rfl (lv_at hl 2 rfl) ?_
  refine lv_aload_n hx hb dL_law_1720 rfl (lv_at hl 0 rfl) ?_
  refine lv_iload hx hb dL_law_1721 (lv_at hl 4 rfl) ?_
  refine lv_iconst (v := 1) hx hb dL_law_1723 (by decide) ?_
  refine lv_iadd hx hb dL_law_1724 ?_
  obtain ⟨hi_6, hf⟩ := am_chk_some hf
  refine va_sld hx hb hXs hbl hbA hH.2 hi_6 dL_law_1725 ?_
  refine lv_i2l hx hb dL_law_1726 rfl ?_
  refine lv_bipush (v := 32) hx hb dL_law_1727 (by decide) ?_
  refine lv_lshl (v := am_lshl ((xs (x4 + (1 : Int32)).toNatClampNeg).toInt64) (32 : Int32)) hx hb dL_law_1729 rfl ?_
  refine lv_aload_n hx hb dL_law_1730 rfl (lv_at hl 0 rfl) ?_
  refine lv_iload hx hb dL_law_1731 (lv_at hl 4 rfl) ?_
  refine lv_iconst (v := 2) hx hb dL_law_1733 (by decide) ?_
  refine lv_iadd hx hb dL_law_1734 ?_
  obtain ⟨hi_7, hf⟩ := am_chk_some hf
  refine va_sld hx hb hXs hbl hbA hH.2 hi_7 dL_law_1735 ?_
  refine lv_i2l hx hb dL_law_1736 rfl ?_
  refine lv_ldc2 (v := 4294967295) hx hb hown (hts _ am_q2005) dL_law_1737 ?_
  refine lv_land hx hb dL_law_1740 ?_
  refine lv_lor hx hb dL_law_1741 ?_
  obtain ⟨r_10, w_8, hq_9, hf⟩ := am_b2_some hf
  refine am_calli (r := r_10) (w' := w_8) (am_runV (n := 1) (As := [.long ((am_lshl ((xs (x4 + (1 : Int32)).toNatClampNeg).toInt64) (32 : Int32)) ||| (((xs (x4 + (2 : Int32)).toNatClampNeg).toInt64) &&& (4294967295 : Int64)))]) (rest := [.int r_5]) ⟨hx, hb, hml, hown, hts⟩ hK hE hH (k_X12_sample hq_9) (am_gV am_q1938 am_q1939 am_q1940 am_q13 am_q1941) (am_o12 (p := 271) (by decide +kernel)) rfl ⟨rfl, rfl⟩ (by decide +kernel) ⟨Nat.le_of_ble_eq_true rfl, Nat.le_of_ble_eq_true rfl⟩ rfl hl.1 rfl (Nat.le_of_ble_eq_true rfl) hf0 dL_law_1742) hH (fun H locs hH => ?_)
  refine lv_icmp_eq (tgt := 1962) hx hb dL_law_1745 (by decide) (fun hc_11 => ?_) (fun hc_11 => ?_)
  · have hf := (if_pos hc_11).symm.trans hf
    obtain rfl := Option.some.inj hf
    exact kk H locs ls hH (lv_sub hl [0, 1, 2, 3, 4] rfl)
  · have hf := (if_neg hc_11).symm.trans hf
    refine lv_iconst (v := 0) hx hb dL_law_1748 (by decide) ?_
    cases hf
def f_law_45 (Ls : Nat) (xs : Nat → Int32) (x4 : Int32) (w : am_S) : Option am_S :=
  am_chk (x4 + (1 : Int32)) Ls (am_b2 (f_X11_load (xs (x4 + (1 : Int32)).toNatClampNeg) w) fun r_4 w_2 => am_chk (x4 + (1 : Int32)) Ls (am_b2 (f_X12_load (xs (x4 + (1 : Int32)).toNatClampNeg) w_2) fun r_8 w_6 => if r_4 = r_8 then (some w_6) else none))
set_option maxRecDepth 100000 in
set_option maxHeartbeats 4000000 in
theorem k_law_45 {p : Program} {l : Launch} {e : Env} {s : State} {m : MethodId} {below : List Frame} {meth : Method} {c : Code} {Q : State → Prop} {cells slots b0 Ls : Nat} {xs : Nat → Int32} {x4 : Int32} {G : am_G} {w ww : am_S} {H : Heap} {locs : List Loc} {ls : Array Slot} (hx : p.tables.exec = Jvm.exec) (hb : c.code = cL_law) (hml : c.maxLocals = 7) (hown : s.vm.findClass RL = some m.cls) (hts : ∀ w ∈ am_T, w.before #[Value.ref b0] s = true) (hK : va_K G.2.2.1 vwCl (am_tys G) s) (hE : am_E G s s.heap) (hXs : va_X b0 Ls xs s s.heap) (hbl : b0 < s.heap.size) (hbA : ¬ G.1 ≤ b0) (hf0 : cells ≤ room_1.cells ∧ slots ≤ room_1.slots) (hf : f_law_45 Ls xs x4 w = some ww) (hH : am_H G w s H locs) (hl : lv_has ls 7 [(0, .ref b0), (1, .ref (G.1 + 0)), (2, .ref (G.1 + 271)), (3, .ref (G.1 + 290)), (4, .int x4)]) (kk : ∀ (H : Heap) (locs : List Loc) (ls : Array Slot), am_H G ww s H locs → lv_has ls 7 [(0, .ref b0), (1, .ref (G.1 + 0)), (2, .ref (G.1 + 271)), (3, .ref (G.1 + 290)), (4, .int x4)] → W p l e room_1 s m #[Value.ref b0] below meth c H locs cells slots Q (F0 m 1962 ls [])) : W p l e room_1 s m #[Value.ref b0] below meth c H locs cells slots Q (F0 m 1750 ls []) := by
  unfold f_law_45 at hf
  refine lv_aload_n hx hb dL_law_1750 rfl (lv_at hl 1 rfl) ?_
  refine lv_aload_n hx hb dL_law_1751 rfl (lv_at hl 0 rfl) ?_
  refine lv_iload hx hb dL_law_1752 (lv_at hl 4 rfl) ?_
  refine lv_iconst (v := 1) hx hb dL_law_1754 (by decide) ?_
  refine lv_iadd hx hb dL_law_1755 ?_
  obtain ⟨hi_1, hf⟩ := am_chk_some hf
  refine va_sld hx hb hXs hbl hbA hH.2 hi_1 dL_law_1756 ?_
  obtain ⟨r_4, w_2, hq_3, hf⟩ := am_b2_some hf
  refine am_calli (r := r_4) (w' := w_2) (am_runV (n := 1) (As := [.int (xs (x4 + (1 : Int32)).toNatClampNeg)]) (rest := []) ⟨hx, hb, hml, hown, hts⟩ hK hE hH (k_X11_load hq_3) (am_gV am_q1157 am_q1158 am_q1159 am_q1 am_q1160) (am_o11 (p := 0) (by decide +kernel)) rfl ⟨rfl, rfl⟩ (by decide +kernel) ⟨Nat.le_of_ble_eq_true rfl, Nat.le_of_ble_eq_true rfl⟩ rfl hl.1 rfl (Nat.le_of_ble_eq_true rfl) hf0 dL_law_1757) hH (fun H locs hH => ?_)
  refine lv_aload_n hx hb dL_law_1760 rfl (lv_at hl 2 rfl) ?_
  refine lv_aload_n hx hb dL_law_1761 rfl (lv_at hl 0 rfl) ?_
  refine lv_iload hx hb dL_law_1762 (lv_at hl 4 rfl) ?_
  refine lv_iconst (v := 1) hx hb dL_law_1764 (by decide) ?_
  refine lv_iadd hx hb dL_law_1765 ?_
  obtain ⟨hi_5, hf⟩ := am_chk_some hf
  refine va_sld hx hb hXs hbl hbA hH.2 hi_5 dL_law_1766 ?_
  obtain ⟨r_8, w_6, hq_7, hf⟩ := am_b2_some hf
  refine am_calli (r := r_8) (w' := w_6) (am_runV (n := 1) (As := [.int (xs (x4 + (1 : Int32)).toNatClampNeg)]) (rest := [.int r_4]) ⟨hx, hb, hml, hown, hts⟩ hK hE hH (k_X12_load hq_7) (am_gV am_q1826 am_q1827 am_q1828 am_q13 am_q1829) (am_o12 (p := 271) (by decide +kernel)) rfl ⟨rfl, rfl⟩ (by decide +kernel) ⟨Nat.le_of_ble_eq_true rfl, Nat.le_of_ble_eq_true rfl⟩ rfl hl.1 rfl (Nat.le_of_ble_eq_true rfl) hf0 dL_law_1767) hH (fun H locs hH => ?_)
  refine lv_icmp_eq (tgt := 1962) hx hb dL_law_1770 (by decide) (fun hc_9 => ?_) (fun hc_9 => ?_)
  · have hf := (if_pos hc_9).symm.trans hf
    obtain rfl := Option.some.inj hf
    exact kk H locs ls hH (lv_sub hl [0, 1, 2, 3, 4] rfl)
  · have hf := (if_neg hc_9).symm.trans hf
    refine lv_iconst (v := 0) hx hb dL_law_1773 (by decide) ?_
    cases hf
def f_law_46 (Ls : Nat) (xs : Nat → Int32) (x4 : Int32) (w : am_S) : Option am_S :=
  am_chk (x4 + (1 : Int32)) Ls (am_chk (x4 + (2 : Int32)) Ls (am_chk (x4 + (3 : Int32)) Ls (am_b2 (f_X11_step (xs (x4 + (1 : Int32)).toNatClampNeg) (xs (x4 + (2 : Int32)).toNatClampNeg) (xs (x4 + (3 : Int32)).toNatClampNeg) w) fun r_6 w_4 => am_chk (x4 + (1 : Int32)) Ls (am_chk (x4 + (2 : Int32)) Ls (am_chk (x4 + (3 : Int32)) Ls (am_b2 (f_X12_step (xs (x4 + (1 : Int32)).toNatClampNeg) (xs (x4 + (2 : Int32)).toNatClampNeg) (xs (x4 + (3 : Int32)).toNatClampNeg) w_4) fun r_12 w_10 => if r_6 = r_12 then (some w_10) else none))))))
set_option maxRecDepth 100000 in
set_option maxHeartbeats 4000000 in
theorem k_law_46 {p : Program} {l : Launch} {e : Env} {s : State} {m : MethodId} {below : List Frame} {meth : Method} {c : Code} {Q : State → Prop} {cells slots b0 Ls : Nat} {xs : Nat → Int32} {x4 : Int32} {G : am_G} {w ww : am_S} {H : Heap} {locs : List Loc} {ls : Array Slot} (hx : p.tables.exec = Jvm.exec) (hb : c.code = cL_law) (hml : c.maxLocals = 7) (hown : s.vm.findClass RL = some m.cls) (hts : ∀ w ∈ am_T, w.before #[Value.ref b0] s = true) (hK : va_K G.2.2.1 vwCl (am_tys G) s) (hE : am_E G s s.heap) (hXs : va_X b0 Ls xs s s.heap) (hbl : b0 < s.heap.size) (hbA : ¬ G.1 ≤ b0) (hf0 : cells ≤ room_1.cells ∧ slots ≤ room_1.slots) (hf : f_law_46 Ls xs x4 w = some ww) (hH : am_H G w s H locs) (hl : lv_has ls 7 [(0, .ref b0), (1, .ref (G.1 + 0)), (2, .ref (G.1 + 271)), (3, .ref (G.1 + 290)), (4, .int x4)]) (kk : ∀ (H : Heap) (locs : List Loc) (ls : Array Slot), am_H G ww s H locs → lv_has ls 7 [(0, .ref b0), (1, .ref (G.1 + 0)), (2, .ref (G.1 + 271)), (3, .ref (G.1 + 290)), (4, .int x4)] → W p l e room_1 s m #[Value.ref b0] below meth c H locs cells slots Q (F0 m 1962 ls [])) : W p l e room_1 s m #[Value.ref b0] below meth c H locs cells slots Q (F0 m 1775 ls []) := by
  unfold f_law_46 at hf
  refine lv_aload_n hx hb dL_law_1775 rfl (lv_at hl 1 rfl) ?_
  refine lv_aload_n hx hb dL_law_1776 rfl (lv_at hl 0 rfl) ?_
  refine lv_iload hx hb dL_law_1777 (lv_at hl 4 rfl) ?_
  refine lv_iconst (v := 1) hx hb dL_law_1779 (by decide) ?_
  refine lv_iadd hx hb dL_law_1780 ?_
  obtain ⟨hi_1, hf⟩ := am_chk_some hf
  refine va_sld hx hb hXs hbl hbA hH.2 hi_1 dL_law_1781 ?_
  refine lv_aload_n hx hb dL_law_1782 rfl (lv_at hl 0 rfl) ?_
  refine lv_iload hx hb dL_law_1783 (lv_at hl 4 rfl) ?_
  refine lv_iconst (v := 2) hx hb dL_law_1785 (by decide) ?_
  refine lv_iadd hx hb dL_law_1786 ?_
  obtain ⟨hi_2, hf⟩ := am_chk_some hf
  refine va_sld hx hb hXs hbl hbA hH.2 hi_2 dL_law_1787 ?_
  refine lv_aload_n hx hb dL_law_1788 rfl (lv_at hl 0 rfl) ?_
  refine lv_iload hx hb dL_law_1789 (lv_at hl 4 rfl) ?_
  refine lv_iconst (v := 3) hx hb dL_law_1791 (by decide) ?_
  refine lv_iadd hx hb dL_law_1792 ?_
  obtain ⟨hi_3, hf⟩ := am_chk_some hf
  refine va_sld hx hb hXs hbl hbA hH.2 hi_3 dL_law_1793 ?_
  obtain ⟨r_6, w_4, hq_5, hf⟩ := am_b2_some hf
  refine am_calli (r := r_6) (w' := w_4) (am_runV (n := 3) (As := [.int (xs (x4 + (1 : Int32)).toNatClampNeg), .int (xs (x4 + (2 : Int32)).toNatClampNeg), .int (xs (x4 + (3 : Int32)).toNatClampNeg)]) (rest := []) ⟨hx, hb, hml, hown, hts⟩ hK hE hH (k_X11_step hq_5) (am_gV am_q1161 am_q1162 am_q1163 am_q1 am_q1164) (am_o11 (p := 0) (by decide +kernel)) rfl ⟨rfl, rfl⟩ (by decide +kernel) ⟨Nat.le_of_ble_eq_true rfl, Nat.le_of_ble_eq_true rfl⟩ rfl hl.1 rfl (Nat.le_of_ble_eq_true rfl) hf0 dL_law_1794) hH (fun H locs hH => ?_)
  refine lv_aload_n hx hb dL_law_1797 rfl (lv_at hl 2 rfl) ?_
  refine lv_aload_n hx hb dL_law_1798 rfl (lv_at hl 0 rfl) ?_
  refine lv_iload hx hb dL_law_1799 (lv_at hl 4 rfl) ?_
  refine lv_iconst (v := 1) hx hb dL_law_1801 (by decide) ?_
  refine lv_iadd hx hb dL_law_1802 ?_
  obtain ⟨hi_7, hf⟩ := am_chk_some hf
  refine va_sld hx hb hXs hbl hbA hH.2 hi_7 dL_law_1803 ?_
  refine lv_aload_n hx hb dL_law_1804 rfl (lv_at hl 0 rfl) ?_
  refine lv_iload hx hb dL_law_1805 (lv_at hl 4 rfl) ?_
  refine lv_iconst (v := 2) hx hb dL_law_1807 (by decide) ?_
  refine lv_iadd hx hb dL_law_1808 ?_
  obtain ⟨hi_8, hf⟩ := am_chk_some hf
  refine va_sld hx hb hXs hbl hbA hH.2 hi_8 dL_law_1809 ?_
  refine lv_aload_n hx hb dL_law_1810 rfl (lv_at hl 0 rfl) ?_
  refine lv_iload hx hb dL_law_1811 (lv_at hl 4 rfl) ?_
  refine lv_iconst (v := 3) hx hb dL_law_1813 (by decide) ?_
  refine lv_iadd hx hb dL_law_1814 ?_
  obtain ⟨hi_9, hf⟩ := am_chk_some hf
  refine va_sld hx hb hXs hbl hbA hH.2 hi_9 dL_law_1815 ?_
  obtain ⟨r_12, w_10, hq_11, hf⟩ := am_b2_some hf
  refine am_calli (r := r_12) (w' := w_10) (am_runV (n := 3) (As := [.int (xs (x4 + (1 : Int32)).toNatClampNeg), .int (xs (x4 + (2 : Int32)).toNatClampNeg), .int (xs (x4 + (3 : Int32)).toNatClampNeg)]) (rest := [.int r_6]) ⟨hx, hb, hml, hown, hts⟩ hK hE hH (k_X12_step hq_11) (am_gV am_q1942 am_q1943 am_q1944 am_q13 am_q1945) (am_o12 (p := 271) (by decide +kernel)) rfl ⟨rfl, rfl⟩ (by decide +kernel) ⟨Nat.le_of_ble_eq_true rfl, Nat.le_of_ble_eq_true rfl⟩ rfl hl.1 rfl (Nat.le_of_ble_eq_true rfl) hf0 dL_law_1816) hH (fun H locs hH => ?_)
  refine lv_icmp_eq (tgt := 1962) hx hb dL_law_1819 (by decide) (fun hc_13 => ?_) (fun hc_13 => ?_)
  · have hf := (if_pos hc_13).symm.trans hf
    obtain rfl := Option.some.inj hf
    exact kk H locs ls hH (lv_sub hl [0, 1, 2, 3, 4] rfl)
  · have hf := (if_neg hc_13).symm.trans hf
    refine lv_iconst (v := 0) hx hb dL_law_1822 (by decide) ?_
    cases hf
def f_law_47 (Ls : Nat) (xs : Nat → Int32) (x4 : Int32) (w : am_S) : Option am_S :=
  am_chk (x4 + (1 : Int32)) Ls (am_chk (x4 + (2 : Int32)) Ls (am_b2 (f_X11_run (xs (x4 + (1 : Int32)).toNatClampNeg) (xs (x4 + (2 : Int32)).toNatClampNeg) w) fun r_5 w_3 => am_chk (x4 + (1 : Int32)) Ls (am_chk (x4 + (2 : Int32)) Ls (am_b2 (f_X12_run (xs (x4 + (1 : Int32)).toNatClampNeg) (xs (x4 + (2 : Int32)).toNatClampNeg) w_3) fun r_10 w_8 => if r_5 = r_10 then (some w_8) else none))))
set_option maxRecDepth 100000 in
set_option maxHeartbeats 4000000 in
theorem k_law_47 {p : Program} {l : Launch} {e : Env} {s : State} {m : MethodId} {below : List Frame} {meth : Method} {c : Code} {Q : State → Prop} {cells slots b0 Ls : Nat} {xs : Nat → Int32} {x4 : Int32} {G : am_G} {w ww : am_S} {H : Heap} {locs : List Loc} {ls : Array Slot} (hx : p.tables.exec = Jvm.exec) (hb : c.code = cL_law) (hml : c.maxLocals = 7) (hown : s.vm.findClass RL = some m.cls) (hts : ∀ w ∈ am_T, w.before #[Value.ref b0] s = true) (hK : va_K G.2.2.1 vwCl (am_tys G) s) (hE : am_E G s s.heap) (hXs : va_X b0 Ls xs s s.heap) (hbl : b0 < s.heap.size) (hbA : ¬ G.1 ≤ b0) (hf0 : cells ≤ room_1.cells ∧ slots ≤ room_1.slots) (hf : f_law_47 Ls xs x4 w = some ww) (hH : am_H G w s H locs) (hl : lv_has ls 7 [(0, .ref b0), (1, .ref (G.1 + 0)), (2, .ref (G.1 + 271)), (3, .ref (G.1 + 290)), (4, .int x4)]) (kk : ∀ (H : Heap) (locs : List Loc) (ls : Array Slot), am_H G ww s H locs → lv_has ls 7 [(0, .ref b0), (1, .ref (G.1 + 0)), (2, .ref (G.1 + 271)), (3, .ref (G.1 + 290)), (4, .int x4)] → W p l e room_1 s m #[Value.ref b0] below meth c H locs cells slots Q (F0 m 1962 ls [])) : W p l e room_1 s m #[Value.ref b0] below meth c H locs cells slots Q (F0 m 1824 ls []) := by
  unfold f_law_47 at hf
  refine lv_aload_n hx hb dL_law_1824 rfl (lv_at hl 1 rfl) ?_
  refine lv_aload_n hx hb dL_law_1825 rfl (lv_at hl 0 rfl) ?_
  refine lv_iload hx hb dL_law_1826 (lv_at hl 4 rfl) ?_
  refine lv_iconst (v := 1) hx hb dL_law_1828 (by decide) ?_
  refine lv_iadd hx hb dL_law_1829 ?_
  obtain ⟨hi_1, hf⟩ := am_chk_some hf
  refine va_sld hx hb hXs hbl hbA hH.2 hi_1 dL_law_1830 ?_
  refine lv_aload_n hx hb dL_law_1831 rfl (lv_at hl 0 rfl) ?_
  refine lv_iload hx hb dL_law_1832 (lv_at hl 4 rfl) ?_
  refine lv_iconst (v := 2) hx hb dL_law_1834 (by decide) ?_
  refine lv_iadd hx hb dL_law_1835 ?_
  obtain ⟨hi_2, hf⟩ := am_chk_some hf
  refine va_sld hx hb hXs hbl hbA hH.2 hi_2 dL_law_1836 ?_
  obtain ⟨r_5, w_3, hq_4, hf⟩ := am_b2_some hf
  refine am_calli (r := r_5) (w' := w_3) (am_runV (n := 2) (As := [.int (xs (x4 + (1 : Int32)).toNatClampNeg), .int (xs (x4 + (2 : Int32)).toNatClampNeg)]) (rest := []) ⟨hx, hb, hml, hown, hts⟩ hK hE hH (k_X11_run hq_4) (am_gV am_q1169 am_q1170 am_q1171 am_q1 am_q1172) (am_o11 (p := 0) (by decide +kernel)) rfl ⟨rfl, rfl⟩ (by decide +kernel) ⟨Nat.le_of_ble_eq_true rfl, Nat.le_of_ble_eq_true rfl⟩ rfl hl.1 rfl (Nat.le_of_ble_eq_true rfl) hf0 dL_law_1837) hH (fun H locs hH => ?_)
  refine lv_aload_n hx hb dL_law_1840 rfl (lv_at hl 2 rfl) ?_
  refine lv_aload_n hx hb dL_law_1841 rfl (lv_at hl 0 rfl) ?_
  refine lv_iload hx hb dL_law_1842 (lv_at hl 4 rfl) ?_
  refine lv_iconst (v := 1) hx hb dL_law_1844 (by decide) ?_
  refine lv_iadd hx hb dL_law_1845 ?_
  obtain ⟨hi_6, hf⟩ := am_chk_some hf
  refine va_sld hx hb hXs hbl hbA hH.2 hi_6 dL_law_1846 ?_
  refine lv_aload_n hx hb dL_law_1847 rfl (lv_at hl 0 rfl) ?_
  refine lv_iload hx hb dL_law_1848 (lv_at hl 4 rfl) ?_
  refine lv_iconst (v := 2) hx hb dL_law_1850 (by decide) ?_
  refine lv_iadd hx hb dL_law_1851 ?_
  obtain ⟨hi_7, hf⟩ := am_chk_some hf
  refine va_sld hx hb hXs hbl hbA hH.2 hi_7 dL_law_1852 ?_
  obtain ⟨r_10, w_8, hq_9, hf⟩ := am_b2_some hf
  refine am_calli (r := r_10) (w' := w_8) (am_runV (n := 2) (As := [.int (xs (x4 + (1 : Int32)).toNatClampNeg), .int (xs (x4 + (2 : Int32)).toNatClampNeg)]) (rest := [.int r_5]) ⟨hx, hb, hml, hown, hts⟩ hK hE hH (k_X12_run hq_9) (am_gV am_q1950 am_q1951 am_q1952 am_q13 am_q1953) (am_o12 (p := 271) (by decide +kernel)) rfl ⟨rfl, rfl⟩ (by decide +kernel) ⟨Nat.le_of_ble_eq_true rfl, Nat.le_of_ble_eq_true rfl⟩ rfl hl.1 rfl (Nat.le_of_ble_eq_true rfl) hf0 dL_law_1853) hH (fun H locs hH => ?_)
  refine lv_icmp_eq (tgt := 1962) hx hb dL_law_1856 (by decide) (fun hc_11 => ?_) (fun hc_11 => ?_)
  · have hf := (if_pos hc_11).symm.trans hf
    obtain rfl := Option.some.inj hf
    exact kk H locs ls hH (lv_sub hl [0, 1, 2, 3, 4] rfl)
  · have hf := (if_neg hc_11).symm.trans hf
    refine lv_iconst (v := 0) hx hb dL_law_1859 (by decide) ?_
    cases hf
def f_law_48 (Ls : Nat) (xs : Nat → Int32) (x4 : Int32) (w : am_S) : Option am_S :=
  am_chk (x4 + (1 : Int32)) Ls (am_b2 (f_X11_perform (xs (x4 + (1 : Int32)).toNatClampNeg) w) fun r_4 w_2 => am_chk (x4 + (1 : Int32)) Ls (am_b2 (f_X12_perform (xs (x4 + (1 : Int32)).toNatClampNeg) w_2) fun r_8 w_6 => if r_4 = r_8 then (some w_6) else none))
set_option maxRecDepth 100000 in
set_option maxHeartbeats 4000000 in
theorem k_law_48 {p : Program} {l : Launch} {e : Env} {s : State} {m : MethodId} {below : List Frame} {meth : Method} {c : Code} {Q : State → Prop} {cells slots b0 Ls : Nat} {xs : Nat → Int32} {x4 : Int32} {G : am_G} {w ww : am_S} {H : Heap} {locs : List Loc} {ls : Array Slot} (hx : p.tables.exec = Jvm.exec) (hb : c.code = cL_law) (hml : c.maxLocals = 7) (hown : s.vm.findClass RL = some m.cls) (hts : ∀ w ∈ am_T, w.before #[Value.ref b0] s = true) (hK : va_K G.2.2.1 vwCl (am_tys G) s) (hE : am_E G s s.heap) (hXs : va_X b0 Ls xs s s.heap) (hbl : b0 < s.heap.size) (hbA : ¬ G.1 ≤ b0) (hf0 : cells ≤ room_1.cells ∧ slots ≤ room_1.slots) (hf : f_law_48 Ls xs x4 w = some ww) (hH : am_H G w s H locs) (hl : lv_has ls 7 [(0, .ref b0), (1, .ref (G.1 + 0)), (2, .ref (G.1 + 271)), (3, .ref (G.1 + 290)), (4, .int x4)]) (kk : ∀ (H : Heap) (locs : List Loc) (ls : Array Slot), am_H G ww s H locs → lv_has ls 7 [(0, .ref b0), (1, .ref (G.1 + 0)), (2, .ref (G.1 + 271)), (3, .ref (G.1 + 290)), (4, .int x4)] → W p l e room_1 s m #[Value.ref b0] below meth c H locs cells slots Q (F0 m 1962 ls [])) : W p l e room_1 s m #[Value.ref b0] below meth c H locs cells slots Q (F0 m 1861 ls []) := by
  unfold f_law_48 at hf
  refine lv_aload_n hx hb dL_law_1861 rfl (lv_at hl 1 rfl) ?_
  refine lv_aload_n hx hb dL_law_1862 rfl (lv_at hl 0 rfl) ?_
  refine lv_iload hx hb dL_law_1863 (lv_at hl 4 rfl) ?_
  refine lv_iconst (v := 1) hx hb dL_law_1865 (by decide) ?_
  refine lv_iadd hx hb dL_law_1866 ?_
  obtain ⟨hi_1, hf⟩ := am_chk_some hf
  refine va_sld hx hb hXs hbl hbA hH.2 hi_1 dL_law_1867 ?_
  obtain ⟨r_4, w_2, hq_3, hf⟩ := am_b2_some hf
  refine am_calli (r := r_4) (w' := w_2) (am_runV (n := 1) (As := [.int (xs (x4 + (1 : Int32)).toNatClampNeg)]) (rest := []) ⟨hx, hb, hml, hown, hts⟩ hK hE hH (k_X11_perform hq_3) (am_gV am_q1184 am_q1185 am_q1186 am_q1 am_q1187) (am_o11 (p := 0) (by decide +kernel)) rfl ⟨rfl, rfl⟩ (by decide +kernel) ⟨Nat.le_of_ble_eq_true rfl, Nat.le_of_ble_eq_true rfl⟩ rfl hl.1 rfl (Nat.le_of_ble_eq_true rfl) hf0 dL_law_1868) hH (fun H locs hH => ?_)
  refine lv_aload_n hx hb dL_law_1871 rfl (lv_at hl 2 rfl) ?_
  refine lv_aload_n hx hb dL_law_1872 rfl (lv_at hl 0 rfl) ?_
  refine lv_iload hx hb dL_law_1873 (lv_at hl 4 rfl) ?_
  refine lv_iconst (v := 1) hx hb dL_law_1875 (by decide) ?_
  refine lv_iadd hx hb dL_law_1876 ?_
  obtain ⟨hi_5, hf⟩ := am_chk_some hf
  refine va_sld hx hb hXs hbl hbA hH.2 hi_5 dL_law_1877 ?_
  obtain ⟨r_8, w_6, hq_7, hf⟩ := am_b2_some hf
  refine am_calli (r := r_8) (w' := w_6) (am_runV (n := 1) (As := [.int (xs (x4 + (1 : Int32)).toNatClampNeg)]) (rest := [.int r_4]) ⟨hx, hb, hml, hown, hts⟩ hK hE hH (k_X12_perform hq_7) (am_gV am_q1961 am_q1962 am_q1963 am_q13 am_q1964) (am_o12 (p := 271) (by decide +kernel)) rfl ⟨rfl, rfl⟩ (by decide +kernel) ⟨Nat.le_of_ble_eq_true rfl, Nat.le_of_ble_eq_true rfl⟩ rfl hl.1 rfl (Nat.le_of_ble_eq_true rfl) hf0 dL_law_1878) hH (fun H locs hH => ?_)
  refine lv_icmp_eq (tgt := 1962) hx hb dL_law_1881 (by decide) (fun hc_9 => ?_) (fun hc_9 => ?_)
  · have hf := (if_pos hc_9).symm.trans hf
    obtain rfl := Option.some.inj hf
    exact kk H locs ls hH (lv_sub hl [0, 1, 2, 3, 4] rfl)
  · have hf := (if_neg hc_9).symm.trans hf
    refine lv_iconst (v := 0) hx hb dL_law_1884 (by decide) ?_
    cases hf
def f_law_49 (Ls : Nat) (xs : Nat → Int32) (x4 : Int32) (w : am_S) : Option am_S :=
  am_chk (x4 + (1 : Int32)) Ls (am_b2 (f_X11_most (xs (x4 + (1 : Int32)).toNatClampNeg) w) fun r_4 w_2 => am_chk (x4 + (1 : Int32)) Ls (am_b2 (f_X12_most (xs (x4 + (1 : Int32)).toNatClampNeg) w_2) fun r_8 w_6 => if r_4 = r_8 then (some w_6) else none))
set_option maxRecDepth 100000 in
set_option maxHeartbeats 4000000 in
theorem k_law_49 {p : Program} {l : Launch} {e : Env} {s : State} {m : MethodId} {below : List Frame} {meth : Method} {c : Code} {Q : State → Prop} {cells slots b0 Ls : Nat} {xs : Nat → Int32} {x4 : Int32} {G : am_G} {w ww : am_S} {H : Heap} {locs : List Loc} {ls : Array Slot} (hx : p.tables.exec = Jvm.exec) (hb : c.code = cL_law) (hml : c.maxLocals = 7) (hown : s.vm.findClass RL = some m.cls) (hts : ∀ w ∈ am_T, w.before #[Value.ref b0] s = true) (hK : va_K G.2.2.1 vwCl (am_tys G) s) (hE : am_E G s s.heap) (hXs : va_X b0 Ls xs s s.heap) (hbl : b0 < s.heap.size) (hbA : ¬ G.1 ≤ b0) (hf0 : cells ≤ room_1.cells ∧ slots ≤ room_1.slots) (hf : f_law_49 Ls xs x4 w = some ww) (hH : am_H G w s H locs) (hl : lv_has ls 7 [(0, .ref b0), (1, .ref (G.1 + 0)), (2, .ref (G.1 + 271)), (3, .ref (G.1 + 290)), (4, .int x4)]) (kk : ∀ (H : Heap) (locs : List Loc) (ls : Array Slot), am_H G ww s H locs → lv_has ls 7 [(0, .ref b0), (1, .ref (G.1 + 0)), (2, .ref (G.1 + 271)), (3, .ref (G.1 + 290)), (4, .int x4)] → W p l e room_1 s m #[Value.ref b0] below meth c H locs cells slots Q (F0 m 1962 ls [])) : W p l e room_1 s m #[Value.ref b0] below meth c H locs cells slots Q (F0 m 1886 ls []) := by
  unfold f_law_49 at hf
  refine lv_aload_n hx hb dL_law_1886 rfl (lv_at hl 1 rfl) ?_
  refine lv_aload_n hx hb dL_law_1887 rfl (lv_at hl 0 rfl) ?_
  refine lv_iload hx hb dL_law_1888 (lv_at hl 4 rfl) ?_
  refine lv_iconst (v := 1) hx hb dL_law_1890 (by decide) ?_
  refine lv_iadd hx hb dL_law_1891 ?_
  obtain ⟨hi_1, hf⟩ := am_chk_some hf
  refine va_sld hx hb hXs hbl hbA hH.2 hi_1 dL_law_1892 ?_
  obtain ⟨r_4, w_2, hq_3, hf⟩ := am_b2_some hf
  refine am_calli (r := r_4) (w' := w_2) (am_runV (n := 1) (As := [.int (xs (x4 + (1 : Int32)).toNatClampNeg)]) (rest := []) ⟨hx, hb, hml, hown, hts⟩ hK hE hH (k_X11_most hq_3) (am_gV am_q1188 am_q1189 am_q1190 am_q1 am_q1191) (am_o11 (p := 0) (by decide +kernel)) rfl ⟨rfl, rfl⟩ (by decide +kernel) ⟨Nat.le_of_ble_eq_true rfl, Nat.le_of_ble_eq_true rfl⟩ rfl hl.1 rfl (Nat.le_of_ble_eq_true rfl) hf0 dL_law_1893) hH (fun H locs hH => ?_)
  refine lv_aload_n hx hb dL_law_1896 rfl (lv_at hl 2 rfl) ?_
  refine lv_aload_n hx hb dL_law_1897 rfl (lv_at hl 0 rfl) ?_
  refine lv_iload hx hb dL_law_1898 (lv_at hl 4 rfl) ?_
  refine lv_iconst (v := 1) hx hb dL_law_1900 (by decide) ?_
  refine lv_iadd hx hb dL_law_1901 ?_
  obtain ⟨hi_5, hf⟩ := am_chk_some hf
  refine va_sld hx hb hXs hbl hbA hH.2 hi_5 dL_law_1902 ?_
  obtain ⟨r_8, w_6, hq_7, hf⟩ := am_b2_some hf
  refine am_calli (r := r_8) (w' := w_6) (am_runV (n := 1) (As := [.int (xs (x4 + (1 : Int32)).toNatClampNeg)]) (rest := [.int r_4]) ⟨hx, hb, hml, hown, hts⟩ hK hE hH (k_X12_most hq_7) (am_gV am_q1965 am_q1966 am_q1967 am_q13 am_q1968) (am_o12 (p := 271) (by decide +kernel)) rfl ⟨rfl, rfl⟩ (by decide +kernel) ⟨Nat.le_of_ble_eq_true rfl, Nat.le_of_ble_eq_true rfl⟩ rfl hl.1 rfl (Nat.le_of_ble_eq_true rfl) hf0 dL_law_1903) hH (fun H locs hH => ?_)
  refine lv_icmp_eq (tgt := 1962) hx hb dL_law_1906 (by decide) (fun hc_9 => ?_) (fun hc_9 => ?_)
  · have hf := (if_pos hc_9).symm.trans hf
    obtain rfl := Option.some.inj hf
    exact kk H locs ls hH (lv_sub hl [0, 1, 2, 3, 4] rfl)
  · have hf := (if_neg hc_9).symm.trans hf
    refine lv_iconst (v := 0) hx hb dL_law_1909 (by decide) ?_
    cases hf
def f_law_50 (Ls : Nat) (xs : Nat → Int32) (x4 : Int32) (w : am_S) : Option am_S :=
  am_b2 (f_X11_image w) fun r_3 w_1 => am_b2 (f_X12_image w_1) fun r_6 w_4 => if r_3 = r_6 then (some w_4) else none
set_option maxRecDepth 100000 in
set_option maxHeartbeats 4000000 in
theorem k_law_50 {p : Program} {l : Launch} {e : Env} {s : State} {m : MethodId} {below : List Frame} {meth : Method} {c : Code} {Q : State → Prop} {cells slots b0 Ls : Nat} {xs : Nat → Int32} {x4 : Int32} {G : am_G} {w ww : am_S} {H : Heap} {locs : List Loc} {ls : Array Slot} (hx : p.tables.exec = Jvm.exec) (hb : c.code = cL_law) (hml : c.maxLocals = 7) (hown : s.vm.findClass RL = some m.cls) (hts : ∀ w ∈ am_T, w.before #[Value.ref b0] s = true) (hK : va_K G.2.2.1 vwCl (am_tys G) s) (hE : am_E G s s.heap) (hXs : va_X b0 Ls xs s s.heap) (hbl : b0 < s.heap.size) (hbA : ¬ G.1 ≤ b0) (hf0 : cells ≤ room_1.cells ∧ slots ≤ room_1.slots) (hf : f_law_50 Ls xs x4 w = some ww) (hH : am_H G w s H locs) (hl : lv_has ls 7 [(0, .ref b0), (1, .ref (G.1 + 0)), (2, .ref (G.1 + 271)), (3, .ref (G.1 + 290)), (4, .int x4)]) (kk : ∀ (H : Heap) (locs : List Loc) (ls : Array Slot), am_H G ww s H locs → lv_has ls 7 [(0, .ref b0), (1, .ref (G.1 + 0)), (2, .ref (G.1 + 271)), (3, .ref (G.1 + 290)), (4, .int x4)] → W p l e room_1 s m #[Value.ref b0] below meth c H locs cells slots Q (F0 m 1962 ls [])) : W p l e room_1 s m #[Value.ref b0] below meth c H locs cells slots Q (F0 m 1911 ls []) := by
  unfold f_law_50 at hf
  refine lv_aload_n hx hb dL_law_1911 rfl (lv_at hl 1 rfl) ?_
  obtain ⟨r_3, w_1, hq_2, hf⟩ := am_b2_some hf
  refine am_calli (r := r_3) (w' := w_1) (am_runV (n := 0) (As := []) (rest := []) ⟨hx, hb, hml, hown, hts⟩ hK hE hH (k_X11_image hq_2) (am_gV am_q1223 am_q1224 am_q1225 am_q1 am_q1226) (am_o11 (p := 0) (by decide +kernel)) rfl ⟨rfl, rfl⟩ (by decide +kernel) ⟨Nat.le_of_ble_eq_true rfl, Nat.le_of_ble_eq_true rfl⟩ rfl hl.1 rfl (Nat.le_of_ble_eq_true rfl) hf0 dL_law_1912) hH (fun H locs hH => ?_)
  refine lv_aload_n hx hb dL_law_1915 rfl (lv_at hl 2 rfl) ?_
  obtain ⟨r_6, w_4, hq_5, hf⟩ := am_b2_some hf
  refine am_calli (r := r_6) (w' := w_4) (am_runV (n := 0) (As := []) (rest := [.int r_3]) ⟨hx, hb, hml, hown, hts⟩ hK hE hH (k_X12_image hq_5) (am_gV am_q1993 am_q1994 am_q1995 am_q13 am_q1996) (am_o12 (p := 271) (by decide +kernel)) rfl ⟨rfl, rfl⟩ (by decide +kernel) ⟨Nat.le_of_ble_eq_true rfl, Nat.le_of_ble_eq_true rfl⟩ rfl hl.1 rfl (Nat.le_of_ble_eq_true rfl) hf0 dL_law_1916) hH (fun H locs hH => ?_)
  refine lv_icmp_eq (tgt := 1962) hx hb dL_law_1919 (by decide) (fun hc_7 => ?_) (fun hc_7 => ?_)
  · have hf := (if_pos hc_7).symm.trans hf
    obtain rfl := Option.some.inj hf
    exact kk H locs ls hH (lv_sub hl [0, 1, 2, 3, 4] rfl)
  · have hf := (if_neg hc_7).symm.trans hf
    refine lv_iconst (v := 0) hx hb dL_law_1922 (by decide) ?_
    cases hf
def f_law_51 (Ls : Nat) (xs : Nat → Int32) (x4 : Int32) (w : am_S) : Option am_S :=
  am_b2 (f_X11_back w) fun r_3 w_1 => am_b2 (f_X12_back w_1) fun r_6 w_4 => if r_3 = r_6 then (some w_4) else none
set_option maxRecDepth 100000 in
set_option maxHeartbeats 4000000 in
theorem k_law_51 {p : Program} {l : Launch} {e : Env} {s : State} {m : MethodId} {below : List Frame} {meth : Method} {c : Code} {Q : State → Prop} {cells slots b0 Ls : Nat} {xs : Nat → Int32} {x4 : Int32} {G : am_G} {w ww : am_S} {H : Heap} {locs : List Loc} {ls : Array Slot} (hx : p.tables.exec = Jvm.exec) (hb : c.code = cL_law) (hml : c.maxLocals = 7) (hown : s.vm.findClass RL = some m.cls) (hts : ∀ w ∈ am_T, w.before #[Value.ref b0] s = true) (hK : va_K G.2.2.1 vwCl (am_tys G) s) (hE : am_E G s s.heap) (hXs : va_X b0 Ls xs s s.heap) (hbl : b0 < s.heap.size) (hbA : ¬ G.1 ≤ b0) (hf0 : cells ≤ room_1.cells ∧ slots ≤ room_1.slots) (hf : f_law_51 Ls xs x4 w = some ww) (hH : am_H G w s H locs) (hl : lv_has ls 7 [(0, .ref b0), (1, .ref (G.1 + 0)), (2, .ref (G.1 + 271)), (3, .ref (G.1 + 290)), (4, .int x4)]) (kk : ∀ (H : Heap) (locs : List Loc) (ls : Array Slot), am_H G ww s H locs → lv_has ls 7 [(0, .ref b0), (1, .ref (G.1 + 0)), (2, .ref (G.1 + 271)), (3, .ref (G.1 + 290)), (4, .int x4)] → W p l e room_1 s m #[Value.ref b0] below meth c H locs cells slots Q (F0 m 1962 ls [])) : W p l e room_1 s m #[Value.ref b0] below meth c H locs cells slots Q (F0 m 1924 ls []) := by
  unfold f_law_51 at hf
  refine lv_aload_n hx hb dL_law_1924 rfl (lv_at hl 1 rfl) ?_
  obtain ⟨r_3, w_1, hq_2, hf⟩ := am_b2_some hf
  refine am_calli (r := r_3) (w' := w_1) (am_runV (n := 0) (As := []) (rest := []) ⟨hx, hb, hml, hown, hts⟩ hK hE hH (k_X11_back hq_2) (am_gV am_q1232 am_q1233 am_q1234 am_q1 am_q1235) (am_o11 (p := 0) (by decide +kernel)) rfl ⟨rfl, rfl⟩ (by decide +kernel) ⟨Nat.le_of_ble_eq_true rfl, Nat.le_of_ble_eq_true rfl⟩ rfl hl.1 rfl (Nat.le_of_ble_eq_true rfl) hf0 dL_law_1925) hH (fun H locs hH => ?_)
  refine lv_aload_n hx hb dL_law_1928 rfl (lv_at hl 2 rfl) ?_
  obtain ⟨r_6, w_4, hq_5, hf⟩ := am_b2_some hf
  refine am_calli (r := r_6) (w' := w_4) (am_runV (n := 0) (As := []) (rest := [.int r_3]) ⟨hx, hb, hml, hown, hts⟩ hK hE hH (k_X12_back hq_5) (am_gV am_q1997 am_q1998 am_q1999 am_q13 am_q2000) (am_o12 (p := 271) (by decide +kernel)) rfl ⟨rfl, rfl⟩ (by decide +kernel) ⟨Nat.le_of_ble_eq_true rfl, Nat.le_of_ble_eq_true rfl⟩ rfl hl.1 rfl (Nat.le_of_ble_eq_true rfl) hf0 dL_law_1929) hH (fun H locs hH => ?_)
  refine lv_icmp_eq (tgt := 1962) hx hb dL_law_1932 (by decide) (fun hc_7 => ?_) (fun hc_7 => ?_)
  · have hf := (if_pos hc_7).symm.trans hf
    obtain rfl := Option.some.inj hf
    exact kk H locs ls hH (lv_sub hl [0, 1, 2, 3, 4] rfl)
  · have hf := (if_neg hc_7).symm.trans hf
    refine lv_iconst (v := 0) hx hb dL_law_1935 (by decide) ?_
    cases hf
def f_law_52 (Ls : Nat) (xs : Nat → Int32) (x4 : Int32) (w : am_S) : Option am_S :=
  am_chk (x4 + (1 : Int32)) Ls (am_b2 (f_X11_count (xs (x4 + (1 : Int32)).toNatClampNeg) w) fun r_4 w_2 => am_chk (x4 + (1 : Int32)) Ls (am_b2 (f_X12_count (xs (x4 + (1 : Int32)).toNatClampNeg) w_2) fun r_8 w_6 => if r_4 = r_8 then (some w_6) else none))
set_option maxRecDepth 100000 in
set_option maxHeartbeats 4000000 in
theorem k_law_52 {p : Program} {l : Launch} {e : Env} {s : State} {m : MethodId} {below : List Frame} {meth : Method} {c : Code} {Q : State → Prop} {cells slots b0 Ls : Nat} {xs : Nat → Int32} {x4 : Int32} {G : am_G} {w ww : am_S} {H : Heap} {locs : List Loc} {ls : Array Slot} (hx : p.tables.exec = Jvm.exec) (hb : c.code = cL_law) (hml : c.maxLocals = 7) (hown : s.vm.findClass RL = some m.cls) (hts : ∀ w ∈ am_T, w.before #[Value.ref b0] s = true) (hK : va_K G.2.2.1 vwCl (am_tys G) s) (hE : am_E G s s.heap) (hXs : va_X b0 Ls xs s s.heap) (hbl : b0 < s.heap.size) (hbA : ¬ G.1 ≤ b0) (hf0 : cells ≤ room_1.cells ∧ slots ≤ room_1.slots) (hf : f_law_52 Ls xs x4 w = some ww) (hH : am_H G w s H locs) (hl : lv_has ls 7 [(0, .ref b0), (1, .ref (G.1 + 0)), (2, .ref (G.1 + 271)), (3, .ref (G.1 + 290)), (4, .int x4)]) (kk : ∀ (H : Heap) (locs : List Loc) (ls : Array Slot), am_H G ww s H locs → lv_has ls 7 [(0, .ref b0), (1, .ref (G.1 + 0)), (2, .ref (G.1 + 271)), (3, .ref (G.1 + 290)), (4, .int x4)] → W p l e room_1 s m #[Value.ref b0] below meth c H locs cells slots Q (F0 m 1962 ls [])) : W p l e room_1 s m #[Value.ref b0] below meth c H locs cells slots Q (F0 m 1937 ls []) := by
  unfold f_law_52 at hf
  refine lv_aload_n hx hb dL_law_1937 rfl (lv_at hl 1 rfl) ?_
  refine lv_aload_n hx hb dL_law_1938 rfl (lv_at hl 0 rfl) ?_
  refine lv_iload hx hb dL_law_1939 (lv_at hl 4 rfl) ?_
  refine lv_iconst (v := 1) hx hb dL_law_1941 (by decide) ?_
  refine lv_iadd hx hb dL_law_1942 ?_
  obtain ⟨hi_1, hf⟩ := am_chk_some hf
  refine va_sld hx hb hXs hbl hbA hH.2 hi_1 dL_law_1943 ?_
  obtain ⟨r_4, w_2, hq_3, hf⟩ := am_b2_some hf
  refine am_calli (r := r_4) (w' := w_2) (am_runV (n := 1) (As := [.int (xs (x4 + (1 : Int32)).toNatClampNeg)]) (rest := []) ⟨hx, hb, hml, hown, hts⟩ hK hE hH (k_X11_count hq_3) (am_gV am_q1236 am_q1237 am_q1238 am_q1 am_q1239) (am_o11 (p := 0) (by decide +kernel)) rfl ⟨rfl, rfl⟩ (by decide +kernel) ⟨Nat.le_of_ble_eq_true rfl, Nat.le_of_ble_eq_true rfl⟩ rfl hl.1 rfl (Nat.le_of_ble_eq_true rfl) hf0 dL_law_1944) hH (fun H locs hH => ?_)
  refine lv_aload_n hx hb dL_law_1947 rfl (lv_at hl 2 rfl) ?_
  refine lv_aload_n hx hb dL_law_1948 rfl (lv_at hl 0 rfl) ?_
  refine lv_iload hx hb dL_law_1949 (lv_at hl 4 rfl) ?_
  refine lv_iconst (v := 1) hx hb dL_law_1951 (by decide) ?_
  refine lv_iadd hx hb dL_law_1952 ?_
  obtain ⟨hi_5, hf⟩ := am_chk_some hf
  refine va_sld hx hb hXs hbl hbA hH.2 hi_5 dL_law_1953 ?_
  obtain ⟨r_8, w_6, hq_7, hf⟩ := am_b2_some hf
  refine am_calli (r := r_8) (w' := w_6) (am_runV (n := 1) (As := [.int (xs (x4 + (1 : Int32)).toNatClampNeg)]) (rest := [.int r_4]) ⟨hx, hb, hml, hown, hts⟩ hK hE hH (k_X12_count hq_7) (am_gV am_q2001 am_q2002 am_q2003 am_q13 am_q2004) (am_o12 (p := 271) (by decide +kernel)) rfl ⟨rfl, rfl⟩ (by decide +kernel) ⟨Nat.le_of_ble_eq_true rfl, Nat.le_of_ble_eq_true rfl⟩ rfl hl.1 rfl (Nat.le_of_ble_eq_true rfl) hf0 dL_law_1954) hH (fun H locs hH => ?_)
  refine lv_icmp_eq (tgt := 1962) hx hb dL_law_1957 (by decide) (fun hc_9 => ?_) (fun hc_9 => ?_)
  · have hf := (if_pos hc_9).symm.trans hf
    obtain rfl := Option.some.inj hf
    exact kk H locs ls hH (lv_sub hl [0, 1, 2, 3, 4] rfl)
  · have hf := (if_neg hc_9).symm.trans hf
    refine lv_iconst (v := 0) hx hb dL_law_1960 (by decide) ?_
    cases hf
