/-! the loop of the law, over any invariant that each call keeps (wip/whole/lawloop.py) -/
def am_fl (k : Nat) : Nat → (Nat → Int32) → Int32 → am_S → Option am_S := match k with
  | 0 => f_law_0
  | 1 => f_law_1
  | 2 => f_law_2
  | 3 => f_law_3
  | 4 => f_law_4
  | 5 => f_law_5
  | 6 => f_law_6
  | 7 => f_law_7
  | 8 => f_law_8
  | 9 => f_law_9
  | 10 => f_law_10
  | 11 => f_law_11
  | 12 => f_law_12
  | 13 => f_law_13
  | 14 => f_law_14
  | 15 => f_law_15
  | 16 => f_law_16
  | 17 => f_law_17
  | 18 => f_law_18
  | 19 => f_law_19
  | 20 => f_law_20
  | 21 => f_law_21
  | 22 => f_law_22
  | 23 => f_law_23
  | 24 => f_law_24
  | 25 => f_law_25
  | 26 => f_law_26
  | 27 => f_law_27
  | 28 => f_law_28
  | 29 => f_law_29
  | 30 => f_law_30
  | 31 => f_law_31
  | 32 => f_law_32
  | 33 => f_law_33
  | 34 => f_law_34
  | 35 => f_law_35
  | 36 => f_law_36
  | 37 => f_law_37
  | 38 => f_law_38
  | 39 => f_law_39
  | 40 => f_law_40
  | 41 => f_law_41
  | 42 => f_law_42
  | 43 => f_law_43
  | 44 => f_law_44
  | 45 => f_law_45
  | 46 => f_law_46
  | 47 => f_law_47
  | 48 => f_law_48
  | 49 => f_law_49
  | 50 => f_law_50
  | 51 => f_law_51
  | 52 => f_law_52
  | _ => fun _ _ _ w => some w
/-- what the pure part owes: an invariant that holds at the start and is kept by every call, and every call answers alike on both sides -/
def am_Keeps (Inv : Nat → am_S → Prop) : Prop := Inv 0 am_w0 ∧ (∀ (j : Nat) (w : am_S), Inv j w → Inv (j + 1) w) ∧ ∀ (j k Ls : Nat) (xs : Nat → Int32) (x4 : Int32) (w : am_S), j < 512 → k < 53 → Ls ≤ 3072 → 0 ≤ x4.toInt → x4.toInt + 6 ≤ (Ls : Int) → Inv j w → ∃ ww, am_fl k Ls xs x4 w = some ww ∧ Inv (j + 1) ww
set_option maxRecDepth 100000 in
set_option maxHeartbeats 16000000 in
theorem am_lawloop {p : Program} {l : Launch} {e : Env} {s : State} {m : MethodId} {below : List Frame} {meth : Method} {c : Code} {Q : State → Prop} {b0 Ls : Nat} {xs : Nat → Int32} {G : am_G} (hx : p.tables.exec = Jvm.exec) (hb : c.code = cL_law) (hml : c.maxLocals = 7) (hown : s.vm.findClass RL = some m.cls) (hts : ∀ w ∈ am_T, w.before #[Value.ref b0] s = true) (hK : va_K G.2.2.1 vwCl (am_tys G) s) (hE : am_E G s s.heap) (hXs : va_X b0 Ls xs s s.heap) (hbl : b0 < s.heap.size) (hbA : ¬ G.1 ≤ b0) (hLs : Ls ≤ 3072) {Inv : Nat → am_S → Prop} (hI : am_Keeps Inv) (h6 : ∀ (j : Nat) (x4 : Int32) (w ww : am_S) (H : Heap) (locs : List Loc) (ls : Array Slot), j < 512 → f_law_6 Ls xs x4 w = some ww → am_H G w s H locs → lv_has ls 7 [(0, .ref b0), (1, .ref (G.1 + 0)), (2, .ref (G.1 + 271)), (3, .ref (G.1 + 290)), (4, .int x4)] → (∀ (H : Heap) (locs : List Loc) (ls : Array Slot), am_H G ww s H locs → lv_has ls 7 [(0, .ref b0), (1, .ref (G.1 + 0)), (2, .ref (G.1 + 271)), (3, .ref (G.1 + 290)), (4, .int x4)] → W p l e room_1 s m #[Value.ref b0] below meth c H locs (291 + (j + 1)) (16832 + 6 * (j + 1)) Q (F0 m 1962 ls [])) → W p l e room_1 s m #[Value.ref b0] below meth c H locs (291 + j) (16832 + 6 * j) Q (F0 m 466 ls []))
    (kend : ∀ (j : Nat) (H : Heap) (locs : List Loc) (ls : Array Slot), j ≤ 512 → (∀ q ∈ locs, G.1 ≤ q.base) → W p l e room_1 s m #[Value.ref b0] below meth c H locs (291 + j) (16832 + 6 * j) Q (F0 m 1968 ls [])) :
    ∀ (k j : Nat) (x4 : Int32) (w : am_S) (H : Heap) (locs : List Loc) (ls : Array Slot), j + k = 513 → j ≤ 512 → x4.toInt = ((6 * j : Nat) : Int) → Inv j w → am_H G w s H locs → lv_has ls 7 [(0, .ref b0), (1, .ref (G.1 + 0)), (2, .ref (G.1 + 271)), (3, .ref (G.1 + 290)), (4, .int x4)] → W p l e room_1 s m #[Value.ref b0] below meth c H locs (291 + j) (16832 + 6 * j) Q (F0 m 23 ls []) := by
  intro k
  induction k with
  | zero => intro j x4 w H locs ls hjk hj; omega
  | succ k ih =>
    intro j x4 w H locs ls hjk hj hx4 hInv hH hl
    have hLi : (Int32.ofNat Ls).toInt = (Ls : Int) := Int32.toInt_ofNat_of_lt (by omega)
    have h6i : (6 : Int32).toInt = 6 := by decide
    refine lv_iload hx hb dL_law_23 (lv_at hl 4 rfl) ?_
    refine lv_aload_n hx hb dL_law_25 rfl (lv_at hl 0 rfl) ?_
    refine va_slen hx hb hXs hbl hbA hH.2 dL_law_26 ?_
    refine lv_bipush (v := 6) hx hb dL_law_27 (by decide) ?_
    refine lv_isub hx hb dL_law_29 ?_
    have hsub : (Int32.ofNat Ls - 6).toInt = (Ls : Int) - 6 := by
      rw [Int32.toInt_sub, hLi, h6i, Int.bmod_eq_of_le (by omega) (by omega)]
    refine lv_icmp_gt (tgt := 1968) hx hb dL_law_30 (by decide) (fun _ => kend j H locs ls hj (fun q hq => hH.2.2.2 q hq)) (fun hc => ?_)
    have hle : x4.toInt + 6 ≤ (Ls : Int) := by
      have h1 : ¬ (Int32.ofNat Ls - 6).toInt < x4.toInt := fun h => hc (Int32.lt_iff_toInt_lt.mpr h)
      rw [hsub] at h1
      omega
    have hj2 : j < 512 := by omega
    have h0 : (0 : Int) ≤ x4.toInt := by omega
    have hin : vp_in x4 Ls := by
      intro h
      rcases h with h | h
      · have := Int32.lt_iff_toInt_lt.mp h
        rw [show (0 : Int32).toInt = 0 by decide] at this
        omega
      · have h2 : Ls ≤ x4.toInt.toNat := h
        omega
    have tail : ∀ (ww : am_S) (H : Heap) (locs : List Loc) (ls : Array Slot), Inv (j + 1) ww → am_H G ww s H locs → lv_has ls 7 [(0, .ref b0), (1, .ref (G.1 + 0)), (2, .ref (G.1 + 271)), (3, .ref (G.1 + 290)), (4, .int x4)] → W p l e room_1 s m #[Value.ref b0] below meth c H locs (291 + (j + 1)) (16832 + 6 * (j + 1)) Q (F0 m 1962 ls []) := by
      intro ww H locs ls hInv hH hl
      obtain ⟨y4, hy4⟩ : ∃ y : Int32, y = x4 + 6 := ⟨_, rfl⟩
      refine lv_iinc (v := y4) (lv' := [(4, .int y4), (0, .ref b0), (1, .ref (G.1 + 0)), (2, .ref (G.1 + 271)), (3, .ref (G.1 + 290))]) hx hb dL_law_1962 hl (k := 4) rfl (by rw [hy4]; rfl) (by decide) rfl (fun ls hl => ?_)
      refine lv_goto (tgt := 23) hx hb dL_law_1965 (by decide) ?_
      have hy4i : y4.toInt = ((6 * (j + 1) : Nat) : Int) := by
        rw [hy4, Int32.toInt_add, hx4, h6i, Int.bmod_eq_of_le (by omega) (by omega)]
        omega
      exact ih (j + 1) y4 ww H locs ls (by omega) (by omega) hy4i hInv hH (lv_sub hl [1, 2, 3, 4, 0] rfl)
    have tailw : ∀ (ww : am_S) (H : Heap) (locs : List Loc) (ls : Array Slot), Inv (j + 1) ww → am_H G ww s H locs → lv_has ls 7 [(0, .ref b0), (1, .ref (G.1 + 0)), (2, .ref (G.1 + 271)), (3, .ref (G.1 + 290)), (4, .int x4)] → W p l e room_1 s m #[Value.ref b0] below meth c H locs (291 + j) (16832 + 6 * j) Q (F0 m 1962 ls []) := fun ww H locs ls h1 h2 h3 => W.widen (by omega) (by omega) (tail ww H locs ls h1 h2 h3)
    refine lv_aload_n hx hb dL_law_33 rfl (lv_at hl 0 rfl) ?_
    refine lv_iload hx hb dL_law_34 (lv_at hl 4 rfl) ?_
    refine va_sld hx hb hXs hbl hbA hH.2 hin dL_law_36 ?_
    refine lv_bipush (v := 63) hx hb dL_law_37 (by decide) ?_
    refine lv_iand hx hb dL_law_39 ?_
    generalize xs x4.toNatClampNeg &&& 63 = v
    have hcs : 291 + j ≤ room_1.cells ∧ 16832 + 6 * j ≤ room_1.slots := ⟨(show 291 + j ≤ 601024 by omega), (show 16832 + 6 * j ≤ 7293034 by omega)⟩
    by_cases e0 : v = (0 : Int32)
    · obtain ⟨ww, hf, hInv⟩ := hI.2.2 j 0 Ls xs x4 w hj2 (by decide) hLs h0 hle hInv
      refine lv_tableIn (off := 228) (tgt := 268) hx hb dL_law_40 (by rw [e0]; decide) (by rw [e0]; decide) (by rw [e0]; rfl) (by decide) ?_
      exact k_law_0 hx hb hml hown hts hK hE hXs hbl hbA hcs hf hH hl (fun H locs ls hH hl => tailw ww H locs ls hInv hH hl)
    by_cases e1 : v = (1 : Int32)
    · obtain ⟨ww, hf, hInv⟩ := hI.2.2 j 1 Ls xs x4 w hj2 (by decide) hLs h0 hle hInv
      refine lv_tableIn (off := 301) (tgt := 341) hx hb dL_law_40 (by rw [e1]; decide) (by rw [e1]; decide) (by rw [e1]; rfl) (by decide) ?_
      exact k_law_1 hx hb hml hown hts hK hE hXs hbl hbA hcs hf hH hl (fun H locs ls hH hl => tailw ww H locs ls hInv hH hl)
    by_cases e2 : v = (2 : Int32)
    · obtain ⟨ww, hf, hInv⟩ := hI.2.2 j 2 Ls xs x4 w hj2 (by decide) hLs h0 hle hInv
      refine lv_tableIn (off := 326) (tgt := 366) hx hb dL_law_40 (by rw [e2]; decide) (by rw [e2]; decide) (by rw [e2]; rfl) (by decide) ?_
      exact k_law_2 hx hb hml hown hts hK hE hXs hbl hbA hcs hf hH hl (fun H locs ls hH hl => tailw ww H locs ls hInv hH hl)
    by_cases e3 : v = (3 : Int32)
    · obtain ⟨ww, hf, hInv⟩ := hI.2.2 j 3 Ls xs x4 w hj2 (by decide) hLs h0 hle hInv
      refine lv_tableIn (off := 351) (tgt := 391) hx hb dL_law_40 (by rw [e3]; decide) (by rw [e3]; decide) (by rw [e3]; rfl) (by decide) ?_
      exact k_law_3 hx hb hml hown hts hK hE hXs hbl hbA hcs hf hH hl (fun H locs ls hH hl => tailw ww H locs ls hInv hH hl)
    by_cases e4 : v = (4 : Int32)
    · obtain ⟨ww, hf, hInv⟩ := hI.2.2 j 4 Ls xs x4 w hj2 (by decide) hLs h0 hle hInv
      refine lv_tableIn (off := 376) (tgt := 416) hx hb dL_law_40 (by rw [e4]; decide) (by rw [e4]; decide) (by rw [e4]; rfl) (by decide) ?_
      exact k_law_4 hx hb hml hown hts hK hE hXs hbl hbA hcs hf hH hl (fun H locs ls hH hl => tailw ww H locs ls hInv hH hl)
    by_cases e5 : v = (5 : Int32)
    · obtain ⟨ww, hf, hInv⟩ := hI.2.2 j 5 Ls xs x4 w hj2 (by decide) hLs h0 hle hInv
      refine lv_tableIn (off := 401) (tgt := 441) hx hb dL_law_40 (by rw [e5]; decide) (by rw [e5]; decide) (by rw [e5]; rfl) (by decide) ?_
      exact k_law_5 hx hb hml hown hts hK hE hXs hbl hbA hcs hf hH hl (fun H locs ls hH hl => tailw ww H locs ls hInv hH hl)
    by_cases e6 : v = (6 : Int32)
    · obtain ⟨ww, hf, hInv⟩ := hI.2.2 j 6 Ls xs x4 w hj2 (by decide) hLs h0 hle hInv
      refine lv_tableIn (off := 426) (tgt := 466) hx hb dL_law_40 (by rw [e6]; decide) (by rw [e6]; decide) (by rw [e6]; rfl) (by decide) ?_
      exact h6 j x4 w ww H locs ls hj2 hf hH hl (fun H locs ls hH hl => tail ww H locs ls hInv hH hl)
    by_cases e7 : v = (7 : Int32)
    · obtain ⟨ww, hf, hInv⟩ := hI.2.2 j 7 Ls xs x4 w hj2 (by decide) hLs h0 hle hInv
      refine lv_tableIn (off := 494) (tgt := 534) hx hb dL_law_40 (by rw [e7]; decide) (by rw [e7]; decide) (by rw [e7]; rfl) (by decide) ?_
      exact k_law_7 hx hb hml hown hts hK hE hXs hbl hbA hcs hf hH hl (fun H locs ls hH hl => tailw ww H locs ls hInv hH hl)
    by_cases e8 : v = (8 : Int32)
    · obtain ⟨ww, hf, hInv⟩ := hI.2.2 j 8 Ls xs x4 w hj2 (by decide) hLs h0 hle hInv
      refine lv_tableIn (off := 520) (tgt := 560) hx hb dL_law_40 (by rw [e8]; decide) (by rw [e8]; decide) (by rw [e8]; rfl) (by decide) ?_
      exact k_law_8 hx hb hml hown hts hK hE hXs hbl hbA hcs hf hH hl (fun H locs ls hH hl => tailw ww H locs ls hInv hH hl)
    by_cases e9 : v = (9 : Int32)
    · obtain ⟨ww, hf, hInv⟩ := hI.2.2 j 9 Ls xs x4 w hj2 (by decide) hLs h0 hle hInv
      refine lv_tableIn (off := 545) (tgt := 585) hx hb dL_law_40 (by rw [e9]; decide) (by rw [e9]; decide) (by rw [e9]; rfl) (by decide) ?_
      exact k_law_9 hx hb hml hown hts hK hE hXs hbl hbA hcs hf hH hl (fun H locs ls hH hl => tailw ww H locs ls hInv hH hl)
    by_cases e10 : v = (10 : Int32)
    · obtain ⟨ww, hf, hInv⟩ := hI.2.2 j 10 Ls xs x4 w hj2 (by decide) hLs h0 hle hInv
      refine lv_tableIn (off := 582) (tgt := 622) hx hb dL_law_40 (by rw [e10]; decide) (by rw [e10]; decide) (by rw [e10]; rfl) (by decide) ?_
      exact k_law_10 hx hb hml hown hts hK hE hXs hbl hbA hcs hf hH hl (fun H locs ls hH hl => tailw ww H locs ls hInv hH hl)
    by_cases e11 : v = (11 : Int32)
    · obtain ⟨ww, hf, hInv⟩ := hI.2.2 j 11 Ls xs x4 w hj2 (by decide) hLs h0 hle hInv
      refine lv_tableIn (off := 619) (tgt := 659) hx hb dL_law_40 (by rw [e11]; decide) (by rw [e11]; decide) (by rw [e11]; rfl) (by decide) ?_
      exact k_law_11 hx hb hml hown hts hK hE hXs hbl hbA hcs hf hH hl (fun H locs ls hH hl => tailw ww H locs ls hInv hH hl)
    by_cases e12 : v = (12 : Int32)
    · obtain ⟨ww, hf, hInv⟩ := hI.2.2 j 12 Ls xs x4 w hj2 (by decide) hLs h0 hle hInv
      refine lv_tableIn (off := 656) (tgt := 696) hx hb dL_law_40 (by rw [e12]; decide) (by rw [e12]; decide) (by rw [e12]; rfl) (by decide) ?_
      exact k_law_12 hx hb hml hown hts hK hE hXs hbl hbA hcs hf hH hl (fun H locs ls hH hl => tailw ww H locs ls hInv hH hl)
    by_cases e13 : v = (13 : Int32)
    · obtain ⟨ww, hf, hInv⟩ := hI.2.2 j 13 Ls xs x4 w hj2 (by decide) hLs h0 hle hInv
      refine lv_tableIn (off := 693) (tgt := 733) hx hb dL_law_40 (by rw [e13]; decide) (by rw [e13]; decide) (by rw [e13]; rfl) (by decide) ?_
      exact k_law_13 hx hb hml hown hts hK hE hXs hbl hbA hcs hf hH hl (fun H locs ls hH hl => tailw ww H locs ls hInv hH hl)
    by_cases e14 : v = (14 : Int32)
    · obtain ⟨ww, hf, hInv⟩ := hI.2.2 j 14 Ls xs x4 w hj2 (by decide) hLs h0 hle hInv
      refine lv_tableIn (off := 706) (tgt := 746) hx hb dL_law_40 (by rw [e14]; decide) (by rw [e14]; decide) (by rw [e14]; rfl) (by decide) ?_
      exact k_law_14 hx hb hml hown hts hK hE hXs hbl hbA hcs hf hH hl (fun H locs ls hH hl => tailw ww H locs ls hInv hH hl)
    by_cases e15 : v = (15 : Int32)
    · obtain ⟨ww, hf, hInv⟩ := hI.2.2 j 15 Ls xs x4 w hj2 (by decide) hLs h0 hle hInv
      refine lv_tableIn (off := 719) (tgt := 759) hx hb dL_law_40 (by rw [e15]; decide) (by rw [e15]; decide) (by rw [e15]; rfl) (by decide) ?_
      exact k_law_15 hx hb hml hown hts hK hE hXs hbl hbA hcs hf hH hl (fun H locs ls hH hl => tailw ww H locs ls hInv hH hl)
    by_cases e16 : v = (16 : Int32)
    · obtain ⟨ww, hf, hInv⟩ := hI.2.2 j 16 Ls xs x4 w hj2 (by decide) hLs h0 hle hInv
      refine lv_tableIn (off := 744) (tgt := 784) hx hb dL_law_40 (by rw [e16]; decide) (by rw [e16]; decide) (by rw [e16]; rfl) (by decide) ?_
      exact k_law_16 hx hb hml hown hts hK hE hXs hbl hbA hcs hf hH hl (fun H locs ls hH hl => tailw ww H locs ls hInv hH hl)
    by_cases e17 : v = (17 : Int32)
    · obtain ⟨ww, hf, hInv⟩ := hI.2.2 j 17 Ls xs x4 w hj2 (by decide) hLs h0 hle hInv
      refine lv_tableIn (off := 769) (tgt := 809) hx hb dL_law_40 (by rw [e17]; decide) (by rw [e17]; decide) (by rw [e17]; rfl) (by decide) ?_
      exact k_law_17 hx hb hml hown hts hK hE hXs hbl hbA hcs hf hH hl (fun H locs ls hH hl => tailw ww H locs ls hInv hH hl)
    by_cases e18 : v = (18 : Int32)
    · obtain ⟨ww, hf, hInv⟩ := hI.2.2 j 18 Ls xs x4 w hj2 (by decide) hLs h0 hle hInv
      refine lv_tableIn (off := 806) (tgt := 846) hx hb dL_law_40 (by rw [e18]; decide) (by rw [e18]; decide) (by rw [e18]; rfl) (by decide) ?_
      exact k_law_18 hx hb hml hown hts hK hE hXs hbl hbA hcs hf hH hl (fun H locs ls hH hl => tailw ww H locs ls hInv hH hl)
    by_cases e19 : v = (19 : Int32)
    · obtain ⟨ww, hf, hInv⟩ := hI.2.2 j 19 Ls xs x4 w hj2 (by decide) hLs h0 hle hInv
      refine lv_tableIn (off := 831) (tgt := 871) hx hb dL_law_40 (by rw [e19]; decide) (by rw [e19]; decide) (by rw [e19]; rfl) (by decide) ?_
      exact k_law_19 hx hb hml hown hts hK hE hXs hbl hbA hcs hf hH hl (fun H locs ls hH hl => tailw ww H locs ls hInv hH hl)
    by_cases e20 : v = (20 : Int32)
    · obtain ⟨ww, hf, hInv⟩ := hI.2.2 j 20 Ls xs x4 w hj2 (by decide) hLs h0 hle hInv
      refine lv_tableIn (off := 900) (tgt := 940) hx hb dL_law_40 (by rw [e20]; decide) (by rw [e20]; decide) (by rw [e20]; rfl) (by decide) ?_
      exact k_law_20 hx hb hml hown hts hK hE hXs hbl hbA hcs hf hH hl (fun H locs ls hH hl => tailw ww H locs ls hInv hH hl)
    by_cases e21 : v = (21 : Int32)
    · obtain ⟨ww, hf, hInv⟩ := hI.2.2 j 21 Ls xs x4 w hj2 (by decide) hLs h0 hle hInv
      refine lv_tableIn (off := 937) (tgt := 977) hx hb dL_law_40 (by rw [e21]; decide) (by rw [e21]; decide) (by rw [e21]; rfl) (by decide) ?_
      exact k_law_21 hx hb hml hown hts hK hE hXs hbl hbA hcs hf hH hl (fun H locs ls hH hl => tailw ww H locs ls hInv hH hl)
    by_cases e22 : v = (22 : Int32)
    · obtain ⟨ww, hf, hInv⟩ := hI.2.2 j 22 Ls xs x4 w hj2 (by decide) hLs h0 hle hInv
      refine lv_tableIn (off := 974) (tgt := 1014) hx hb dL_law_40 (by rw [e22]; decide) (by rw [e22]; decide) (by rw [e22]; rfl) (by decide) ?_
      exact k_law_22 hx hb hml hown hts hK hE hXs hbl hbA hcs hf hH hl (fun H locs ls hH hl => tailw ww H locs ls hInv hH hl)
    by_cases e23 : v = (23 : Int32)
    · obtain ⟨ww, hf, hInv⟩ := hI.2.2 j 23 Ls xs x4 w hj2 (by decide) hLs h0 hle hInv
      refine lv_tableIn (off := 1011) (tgt := 1051) hx hb dL_law_40 (by rw [e23]; decide) (by rw [e23]; decide) (by rw [e23]; rfl) (by decide) ?_
      exact k_law_23 hx hb hml hown hts hK hE hXs hbl hbA hcs hf hH hl (fun H locs ls hH hl => tailw ww H locs ls hInv hH hl)
    by_cases e24 : v = (24 : Int32)
    · obtain ⟨ww, hf, hInv⟩ := hI.2.2 j 24 Ls xs x4 w hj2 (by decide) hLs h0 hle hInv
      refine lv_tableIn (off := 1080) (tgt := 1120) hx hb dL_law_40 (by rw [e24]; decide) (by rw [e24]; decide) (by rw [e24]; rfl) (by decide) ?_
      exact k_law_24 hx hb hml hown hts hK hE hXs hbl hbA hcs hf hH hl (fun H locs ls hH hl => tailw ww H locs ls hInv hH hl)
    by_cases e25 : v = (25 : Int32)
    · obtain ⟨ww, hf, hInv⟩ := hI.2.2 j 25 Ls xs x4 w hj2 (by decide) hLs h0 hle hInv
      refine lv_tableIn (off := 1105) (tgt := 1145) hx hb dL_law_40 (by rw [e25]; decide) (by rw [e25]; decide) (by rw [e25]; rfl) (by decide) ?_
      exact k_law_25 hx hb hml hown hts hK hE hXs hbl hbA hcs hf hH hl (fun H locs ls hH hl => tailw ww H locs ls hInv hH hl)
    by_cases e26 : v = (26 : Int32)
    · obtain ⟨ww, hf, hInv⟩ := hI.2.2 j 26 Ls xs x4 w hj2 (by decide) hLs h0 hle hInv
      refine lv_tableIn (off := 1118) (tgt := 1158) hx hb dL_law_40 (by rw [e26]; decide) (by rw [e26]; decide) (by rw [e26]; rfl) (by decide) ?_
      exact k_law_26 hx hb hml hown hts hK hE hXs hbl hbA hcs hf hH hl (fun H locs ls hH hl => tailw ww H locs ls hInv hH hl)
    by_cases e27 : v = (27 : Int32)
    · obtain ⟨ww, hf, hInv⟩ := hI.2.2 j 27 Ls xs x4 w hj2 (by decide) hLs h0 hle hInv
      refine lv_tableIn (off := 1155) (tgt := 1195) hx hb dL_law_40 (by rw [e27]; decide) (by rw [e27]; decide) (by rw [e27]; rfl) (by decide) ?_
      exact k_law_27 hx hb hml hown hts hK hE hXs hbl hbA hcs hf hH hl (fun H locs ls hH hl => tailw ww H locs ls hInv hH hl)
    by_cases e28 : v = (28 : Int32)
    · obtain ⟨ww, hf, hInv⟩ := hI.2.2 j 28 Ls xs x4 w hj2 (by decide) hLs h0 hle hInv
      refine lv_tableIn (off := 1180) (tgt := 1220) hx hb dL_law_40 (by rw [e28]; decide) (by rw [e28]; decide) (by rw [e28]; rfl) (by decide) ?_
      exact k_law_28 hx hb hml hown hts hK hE hXs hbl hbA hcs hf hH hl (fun H locs ls hH hl => tailw ww H locs ls hInv hH hl)
    by_cases e29 : v = (29 : Int32)
    · obtain ⟨ww, hf, hInv⟩ := hI.2.2 j 29 Ls xs x4 w hj2 (by decide) hLs h0 hle hInv
      refine lv_tableIn (off := 1205) (tgt := 1245) hx hb dL_law_40 (by rw [e29]; decide) (by rw [e29]; decide) (by rw [e29]; rfl) (by decide) ?_
      exact k_law_29 hx hb hml hown hts hK hE hXs hbl hbA hcs hf hH hl (fun H locs ls hH hl => tailw ww H locs ls hInv hH hl)
    by_cases e30 : v = (30 : Int32)
    · obtain ⟨ww, hf, hInv⟩ := hI.2.2 j 30 Ls xs x4 w hj2 (by decide) hLs h0 hle hInv
      refine lv_tableIn (off := 1242) (tgt := 1282) hx hb dL_law_40 (by rw [e30]; decide) (by rw [e30]; decide) (by rw [e30]; rfl) (by decide) ?_
      exact k_law_30 hx hb hml hown hts hK hE hXs hbl hbA hcs hf hH hl (fun H locs ls hH hl => tailw ww H locs ls hInv hH hl)
    by_cases e31 : v = (31 : Int32)
    · obtain ⟨ww, hf, hInv⟩ := hI.2.2 j 31 Ls xs x4 w hj2 (by decide) hLs h0 hle hInv
      refine lv_tableIn (off := 1255) (tgt := 1295) hx hb dL_law_40 (by rw [e31]; decide) (by rw [e31]; decide) (by rw [e31]; rfl) (by decide) ?_
      exact k_law_31 hx hb hml hown hts hK hE hXs hbl hbA hcs hf hH hl (fun H locs ls hH hl => tailw ww H locs ls hInv hH hl)
    by_cases e32 : v = (32 : Int32)
    · obtain ⟨ww, hf, hInv⟩ := hI.2.2 j 32 Ls xs x4 w hj2 (by decide) hLs h0 hle hInv
      refine lv_tableIn (off := 1292) (tgt := 1332) hx hb dL_law_40 (by rw [e32]; decide) (by rw [e32]; decide) (by rw [e32]; rfl) (by decide) ?_
      exact k_law_32 hx hb hml hown hts hK hE hXs hbl hbA hcs hf hH hl (fun H locs ls hH hl => tailw ww H locs ls hInv hH hl)
    by_cases e33 : v = (33 : Int32)
    · obtain ⟨ww, hf, hInv⟩ := hI.2.2 j 33 Ls xs x4 w hj2 (by decide) hLs h0 hle hInv
      refine lv_tableIn (off := 1329) (tgt := 1369) hx hb dL_law_40 (by rw [e33]; decide) (by rw [e33]; decide) (by rw [e33]; rfl) (by decide) ?_
      exact k_law_33 hx hb hml hown hts hK hE hXs hbl hbA hcs hf hH hl (fun H locs ls hH hl => tailw ww H locs ls hInv hH hl)
    by_cases e34 : v = (34 : Int32)
    · obtain ⟨ww, hf, hInv⟩ := hI.2.2 j 34 Ls xs x4 w hj2 (by decide) hLs h0 hle hInv
      refine lv_tableIn (off := 1354) (tgt := 1394) hx hb dL_law_40 (by rw [e34]; decide) (by rw [e34]; decide) (by rw [e34]; rfl) (by decide) ?_
      exact k_law_34 hx hb hml hown hts hK hE hXs hbl hbA hcs hf hH hl (fun H locs ls hH hl => tailw ww H locs ls hInv hH hl)
    by_cases e35 : v = (35 : Int32)
    · obtain ⟨ww, hf, hInv⟩ := hI.2.2 j 35 Ls xs x4 w hj2 (by decide) hLs h0 hle hInv
      refine lv_tableIn (off := 1379) (tgt := 1419) hx hb dL_law_40 (by rw [e35]; decide) (by rw [e35]; decide) (by rw [e35]; rfl) (by decide) ?_
      exact k_law_35 hx hb hml hown hts hK hE hXs hbl hbA hcs hf hH hl (fun H locs ls hH hl => tailw ww H locs ls hInv hH hl)
    by_cases e36 : v = (36 : Int32)
    · obtain ⟨ww, hf, hInv⟩ := hI.2.2 j 36 Ls xs x4 w hj2 (by decide) hLs h0 hle hInv
      refine lv_tableIn (off := 1416) (tgt := 1456) hx hb dL_law_40 (by rw [e36]; decide) (by rw [e36]; decide) (by rw [e36]; rfl) (by decide) ?_
      exact k_law_36 hx hb hml hown hts hK hE hXs hbl hbA hcs hf hH hl (fun H locs ls hH hl => tailw ww H locs ls hInv hH hl)
    by_cases e37 : v = (37 : Int32)
    · obtain ⟨ww, hf, hInv⟩ := hI.2.2 j 37 Ls xs x4 w hj2 (by decide) hLs h0 hle hInv
      refine lv_tableIn (off := 1441) (tgt := 1481) hx hb dL_law_40 (by rw [e37]; decide) (by rw [e37]; decide) (by rw [e37]; rfl) (by decide) ?_
      exact k_law_37 hx hb hml hown hts hK hE hXs hbl hbA hcs hf hH hl (fun H locs ls hH hl => tailw ww H locs ls hInv hH hl)
    by_cases e38 : v = (38 : Int32)
    · obtain ⟨ww, hf, hInv⟩ := hI.2.2 j 38 Ls xs x4 w hj2 (by decide) hLs h0 hle hInv
      refine lv_tableIn (off := 1466) (tgt := 1506) hx hb dL_law_40 (by rw [e38]; decide) (by rw [e38]; decide) (by rw [e38]; rfl) (by decide) ?_
      exact k_law_38 hx hb hml hown hts hK hE hXs hbl hbA hcs hf hH hl (fun H locs ls hH hl => tailw ww H locs ls hInv hH hl)
    by_cases e39 : v = (39 : Int32)
    · obtain ⟨ww, hf, hInv⟩ := hI.2.2 j 39 Ls xs x4 w hj2 (by decide) hLs h0 hle hInv
      refine lv_tableIn (off := 1491) (tgt := 1531) hx hb dL_law_40 (by rw [e39]; decide) (by rw [e39]; decide) (by rw [e39]; rfl) (by decide) ?_
      exact k_law_39 hx hb hml hown hts hK hE hXs hbl hbA hcs hf hH hl (fun H locs ls hH hl => tailw ww H locs ls hInv hH hl)
    by_cases e40 : v = (40 : Int32)
    · obtain ⟨ww, hf, hInv⟩ := hI.2.2 j 40 Ls xs x4 w hj2 (by decide) hLs h0 hle hInv
      refine lv_tableIn (off := 1516) (tgt := 1556) hx hb dL_law_40 (by rw [e40]; decide) (by rw [e40]; decide) (by rw [e40]; rfl) (by decide) ?_
      exact k_law_40 hx hb hml hown hts hK hE hXs hbl hbA hcs hf hH hl (fun H locs ls hH hl => tailw ww H locs ls hInv hH hl)
    by_cases e41 : v = (41 : Int32)
    · obtain ⟨ww, hf, hInv⟩ := hI.2.2 j 41 Ls xs x4 w hj2 (by decide) hLs h0 hle hInv
      refine lv_tableIn (off := 1553) (tgt := 1593) hx hb dL_law_40 (by rw [e41]; decide) (by rw [e41]; decide) (by rw [e41]; rfl) (by decide) ?_
      exact k_law_41 hx hb hml hown hts hK hE hXs hbl hbA hcs hf hH hl (fun H locs ls hH hl => tailw ww H locs ls hInv hH hl)
    by_cases e42 : v = (42 : Int32)
    · obtain ⟨ww, hf, hInv⟩ := hI.2.2 j 42 Ls xs x4 w hj2 (by decide) hLs h0 hle hInv
      refine lv_tableIn (off := 1602) (tgt := 1642) hx hb dL_law_40 (by rw [e42]; decide) (by rw [e42]; decide) (by rw [e42]; rfl) (by decide) ?_
      exact k_law_42 hx hb hml hown hts hK hE hXs hbl hbA hcs hf hH hl (fun H locs ls hH hl => tailw ww H locs ls hInv hH hl)
    by_cases e43 : v = (43 : Int32)
    · obtain ⟨ww, hf, hInv⟩ := hI.2.2 j 43 Ls xs x4 w hj2 (by decide) hLs h0 hle hInv
      refine lv_tableIn (off := 1640) (tgt := 1680) hx hb dL_law_40 (by rw [e43]; decide) (by rw [e43]; decide) (by rw [e43]; rfl) (by decide) ?_
      exact k_law_43 hx hb hml hown hts hK hE hXs hbl hbA hcs hf hH hl (fun H locs ls hH hl => tailw ww H locs ls hInv hH hl)
    by_cases e44 : v = (44 : Int32)
    · obtain ⟨ww, hf, hInv⟩ := hI.2.2 j 44 Ls xs x4 w hj2 (by decide) hLs h0 hle hInv
      refine lv_tableIn (off := 1653) (tgt := 1693) hx hb dL_law_40 (by rw [e44]; decide) (by rw [e44]; decide) (by rw [e44]; rfl) (by decide) ?_
      exact k_law_44 hx hb hml hown hts hK hE hXs hbl hbA hcs hf hH hl (fun H locs ls hH hl => tailw ww H locs ls hInv hH hl)
    by_cases e45 : v = (45 : Int32)
    · obtain ⟨ww, hf, hInv⟩ := hI.2.2 j 45 Ls xs x4 w hj2 (by decide) hLs h0 hle hInv
      refine lv_tableIn (off := 1710) (tgt := 1750) hx hb dL_law_40 (by rw [e45]; decide) (by rw [e45]; decide) (by rw [e45]; rfl) (by decide) ?_
      exact k_law_45 hx hb hml hown hts hK hE hXs hbl hbA hcs hf hH hl (fun H locs ls hH hl => tailw ww H locs ls hInv hH hl)
    by_cases e46 : v = (46 : Int32)
    · obtain ⟨ww, hf, hInv⟩ := hI.2.2 j 46 Ls xs x4 w hj2 (by decide) hLs h0 hle hInv
      refine lv_tableIn (off := 1735) (tgt := 1775) hx hb dL_law_40 (by rw [e46]; decide) (by rw [e46]; decide) (by rw [e46]; rfl) (by decide) ?_
      exact k_law_46 hx hb hml hown hts hK hE hXs hbl hbA hcs hf hH hl (fun H locs ls hH hl => tailw ww H locs ls hInv hH hl)
    by_cases e47 : v = (47 : Int32)
    · obtain ⟨ww, hf, hInv⟩ := hI.2.2 j 47 Ls xs x4 w hj2 (by decide) hLs h0 hle hInv
      refine lv_tableIn (off := 1784) (tgt := 1824) hx hb dL_law_40 (by rw [e47]; decide) (by rw [e47]; decide) (by rw [e47]; rfl) (by decide) ?_
      exact k_law_47 hx hb hml hown hts hK hE hXs hbl hbA hcs hf hH hl (fun H locs ls hH hl => tailw ww H locs ls hInv hH hl)
    by_cases e48 : v = (48 : Int32)
    · obtain ⟨ww, hf, hInv⟩ := hI.2.2 j 48 Ls xs x4 w hj2 (by decide) hLs h0 hle hInv
      refine lv_tableIn (off := 1821) (tgt := 1861) hx hb dL_law_40 (by rw [e48]; decide) (by rw [e48]; decide) (by rw [e48]; rfl) (by decide) ?_
      exact k_law_48 hx hb hml hown hts hK hE hXs hbl hbA hcs hf hH hl (fun H locs ls hH hl => tailw ww H locs ls hInv hH hl)
    by_cases e49 : v = (49 : Int32)
    · obtain ⟨ww, hf, hInv⟩ := hI.2.2 j 49 Ls xs x4 w hj2 (by decide) hLs h0 hle hInv
      refine lv_tableIn (off := 1846) (tgt := 1886) hx hb dL_law_40 (by rw [e49]; decide) (by rw [e49]; decide) (by rw [e49]; rfl) (by decide) ?_
      exact k_law_49 hx hb hml hown hts hK hE hXs hbl hbA hcs hf hH hl (fun H locs ls hH hl => tailw ww H locs ls hInv hH hl)
    by_cases e50 : v = (50 : Int32)
    · obtain ⟨ww, hf, hInv⟩ := hI.2.2 j 50 Ls xs x4 w hj2 (by decide) hLs h0 hle hInv
      refine lv_tableIn (off := 1871) (tgt := 1911) hx hb dL_law_40 (by rw [e50]; decide) (by rw [e50]; decide) (by rw [e50]; rfl) (by decide) ?_
      exact k_law_50 hx hb hml hown hts hK hE hXs hbl hbA hcs hf hH hl (fun H locs ls hH hl => tailw ww H locs ls hInv hH hl)
    by_cases e51 : v = (51 : Int32)
    · obtain ⟨ww, hf, hInv⟩ := hI.2.2 j 51 Ls xs x4 w hj2 (by decide) hLs h0 hle hInv
      refine lv_tableIn (off := 1884) (tgt := 1924) hx hb dL_law_40 (by rw [e51]; decide) (by rw [e51]; decide) (by rw [e51]; rfl) (by decide) ?_
      exact k_law_51 hx hb hml hown hts hK hE hXs hbl hbA hcs hf hH hl (fun H locs ls hH hl => tailw ww H locs ls hInv hH hl)
    by_cases e52 : v = (52 : Int32)
    · obtain ⟨ww, hf, hInv⟩ := hI.2.2 j 52 Ls xs x4 w hj2 (by decide) hLs h0 hle hInv
      refine lv_tableIn (off := 1897) (tgt := 1937) hx hb dL_law_40 (by rw [e52]; decide) (by rw [e52]; decide) (by rw [e52]; rfl) (by decide) ?_
      exact k_law_52 hx hb hml hown hts hK hE hXs hbl hbA hcs hf hH hl (fun H locs ls hH hl => tailw ww H locs ls hInv hH hl)
    have n0 := am_tne (k := 0) (0 : Int32) (by decide) e0
    have n1 := am_tne (k := 1) (1 : Int32) (by decide) e1
    have n2 := am_tne (k := 2) (2 : Int32) (by decide) e2
    have n3 := am_tne (k := 3) (3 : Int32) (by decide) e3
    have n4 := am_tne (k := 4) (4 : Int32) (by decide) e4
    have n5 := am_tne (k := 5) (5 : Int32) (by decide) e5
    have n6 := am_tne (k := 6) (6 : Int32) (by decide) e6
    have n7 := am_tne (k := 7) (7 : Int32) (by decide) e7
    have n8 := am_tne (k := 8) (8 : Int32) (by decide) e8
    have n9 := am_tne (k := 9) (9 : Int32) (by decide) e9
    have n10 := am_tne (k := 10) (10 : Int32) (by decide) e10
    have n11 := am_tne (k := 11) (11 : Int32) (by decide) e11
    have n12 := am_tne (k := 12) (12 : Int32) (by decide) e12
    have n13 := am_tne (k := 13) (13 : Int32) (by decide) e13
    have n14 := am_tne (k := 14) (14 : Int32) (by decide) e14
    have n15 := am_tne (k := 15) (15 : Int32) (by decide) e15
    have n16 := am_tne (k := 16) (16 : Int32) (by decide) e16
    have n17 := am_tne (k := 17) (17 : Int32) (by decide) e17
    have n18 := am_tne (k := 18) (18 : Int32) (by decide) e18
    have n19 := am_tne (k := 19) (19 : Int32) (by decide) e19
    have n20 := am_tne (k := 20) (20 : Int32) (by decide) e20
    have n21 := am_tne (k := 21) (21 : Int32) (by decide) e21
    have n22 := am_tne (k := 22) (22 : Int32) (by decide) e22
    have n23 := am_tne (k := 23) (23 : Int32) (by decide) e23
    have n24 := am_tne (k := 24) (24 : Int32) (by decide) e24
    have n25 := am_tne (k := 25) (25 : Int32) (by decide) e25
    have n26 := am_tne (k := 26) (26 : Int32) (by decide) e26
    have n27 := am_tne (k := 27) (27 : Int32) (by decide) e27
    have n28 := am_tne (k := 28) (28 : Int32) (by decide) e28
    have n29 := am_tne (k := 29) (29 : Int32) (by decide) e29
    have n30 := am_tne (k := 30) (30 : Int32) (by decide) e30
    have n31 := am_tne (k := 31) (31 : Int32) (by decide) e31
    have n32 := am_tne (k := 32) (32 : Int32) (by decide) e32
    have n33 := am_tne (k := 33) (33 : Int32) (by decide) e33
    have n34 := am_tne (k := 34) (34 : Int32) (by decide) e34
    have n35 := am_tne (k := 35) (35 : Int32) (by decide) e35
    have n36 := am_tne (k := 36) (36 : Int32) (by decide) e36
    have n37 := am_tne (k := 37) (37 : Int32) (by decide) e37
    have n38 := am_tne (k := 38) (38 : Int32) (by decide) e38
    have n39 := am_tne (k := 39) (39 : Int32) (by decide) e39
    have n40 := am_tne (k := 40) (40 : Int32) (by decide) e40
    have n41 := am_tne (k := 41) (41 : Int32) (by decide) e41
    have n42 := am_tne (k := 42) (42 : Int32) (by decide) e42
    have n43 := am_tne (k := 43) (43 : Int32) (by decide) e43
    have n44 := am_tne (k := 44) (44 : Int32) (by decide) e44
    have n45 := am_tne (k := 45) (45 : Int32) (by decide) e45
    have n46 := am_tne (k := 46) (46 : Int32) (by decide) e46
    have n47 := am_tne (k := 47) (47 : Int32) (by decide) e47
    have n48 := am_tne (k := 48) (48 : Int32) (by decide) e48
    have n49 := am_tne (k := 49) (49 : Int32) (by decide) e49
    have n50 := am_tne (k := 50) (50 : Int32) (by decide) e50
    have n51 := am_tne (k := 51) (51 : Int32) (by decide) e51
    have n52 := am_tne (k := 52) (52 : Int32) (by decide) e52
    refine lv_tableOut (tgt := 1962) hx hb dL_law_40 (by omega) (by decide) ?_
    exact tailw w H locs ls (hI.2.1 j w hInv) hH hl
