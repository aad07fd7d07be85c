def am_hT (G : am_G) (q : Nat) : Nat → List va_E
  | 0 => []
  | i + 1 => am_hT G q i ++ am_cells_X9 G (q + (5 * i + 2))
theorem am_hT_len {G : am_G} {q : Nat} : ∀ i, (am_hT G q i).length = 5 * i
  | 0 => rfl
  | i + 1 => by
    show (am_hT G q i ++ am_cells_X9 G (q + (5 * i + 2))).length = 5 * (i + 1)
    rw [List.length_append, am_hT_len i]
    show 5 * i + 5 = 5 * (i + 1)
    omega
def am_hF (G : am_G) (q : Nat) : Nat → Nat → Option Nat
  | 0 => fun _ => none
  | i + 1 => va_up (am_hF G q i) i (some (G.1 + (q + (5 * i + 2))))
theorem am_hF_at {G : am_G} {q : Nat} : ∀ i k, k < i → am_hF G q i k = some (G.1 + (q + (5 * k + 2)))
  | 0, k, h => absurd h (Nat.not_lt_zero _)
  | i + 1, k, h => by
    show va_up (am_hF G q i) i (some (G.1 + (q + (5 * i + 2)))) k = _
    unfold va_up
    by_cases e : k = i
    · rw [if_pos e, e]
    · rw [if_neg e]
      exact am_hF_at i k (by omega)
def am_hL (G : am_G) (q i : Nat) : List va_E := .inr (3, [.ref (G.1 + (q + 1)), .int 0, .int 0]) :: .inl (G.2.1 5, 40, .inr (.inr (.inr (.inr (am_hF G q i))))) :: am_hT G q i
def am_cells_X3 (G : am_G) (q : Nat) : List va_E := am_hL G q 40
theorem am_cells_X3_len {G : am_G} {q : Nat} : (am_cells_X3 G q).length = 202 := by
  show (am_hT G q 40).length + 2 = 202
  rw [am_hT_len]
set_option maxRecDepth 100000 in
set_option maxHeartbeats 8000000 in
theorem kI_X3 {G : am_G} {l : Launch} {pre : List va_E} : am_MI G l yX3_init (Cond.code yX3_init cX3_init 2 none :: am_T) { frames := 2, cells := 201, slots := 2360, locals := 128 } [.ref (G.1 + (pre.length + 0))] (pre ++ [.inr (3, [.null, .int 0, .int 0])]) (pre ++ am_cells_X3 G pre.length) 201 2360 := by
  refine Met.ofW (cc := cX3_init) (maxL := 2) (ret := none) (by decide) rfl ?_
  intro p e s m args below meth c s₁ B hml hv
  obtain ⟨rfl, hx, hb, hr, hts, hown, hlocks, hin, hK, hX, hN⟩ := am_beginN B hv
  have hown : s.vm.findClass RX3 = some m.cls := hown
  have hin : meth.name = "<init>" := hin
  have loop : ∀ (k i : Nat) (x : Int32) (H : Heap) (locs : List Loc) (ls : Array Slot), i + k = 40 → x.toNatClampNeg = i → ¬ x < 0 → x.toInt = (i : Int) → am_N G (pre ++ am_hL G pre.length i) s H locs (1 + 5 * i) → lv_has ls 2 [(1, .int x), (0, .ref (G.1 + (pre.length + 0)))] → W p l e { frames := 2, cells := 201, slots := 2360, locals := 128 } s m [.ref (G.1 + (pre.length + 0))].toArray below meth c H locs (1 + 5 * i) (40 + 58 * i) (MQ below (va_Qv (fun (_ : Unit) => True) (fun _ t => va_P G.2.2.1 vwCl (am_gw G.1 (pre ++ am_cells_X3 G pre.length)) t.heap) (am_A G)) [.ref (G.1 + (pre.length + 0))].toArray s 201 2360 (am_A G)) (F0 m 15 ls []) := by
    intro k
    induction k with
    | zero =>
      intro i x H locs ls hk hi h0 hxi hN hl
      have hi40 : i = 40 := by omega
      subst hi40
      refine lv_iload_n hx hb dX3_init_15 rfl (lv_at hl 0 rfl) ?_
      refine lv_bipush (v := 40) hx hb dX3_init_16 (by decide) ?_
      refine lv_icmp_ge (tgt := 40) hx hb dX3_init_18 (by decide) (fun _ => ?_) (fun h => absurd (Int32.le_iff_toInt_le.mpr (by rw [hxi]; decide)) h)
      exact am_retN hx hb hr hlocks hN rfl dX3_init_40
    | succ k ih =>
      intro i x H locs ls hk hi h0 hxi hN hl
      refine lv_iload_n hx hb dX3_init_15 rfl (lv_at hl 0 rfl) ?_
      refine lv_bipush (v := 40) hx hb dX3_init_16 (by decide) ?_
      refine lv_icmp_ge (tgt := 40) hx hb dX3_init_18 (by decide) (fun h => absurd (Int32.le_iff_toInt_le.mp h) (by rw [hxi, show (40 : Int32).toInt = 40 by decide]; omega)) (fun _ => ?_)
      refine lv_aload_n hx hb dX3_init_21 rfl (lv_at hl 1 rfl) ?_
      unfold am_hL at hN
      refine am_nget hx hb hts hK hown hN 0 rfl rfl am_inX3 0 (by decide) am_q232 (v := .ref (G.1 + (pre.length + 1))) rfl dX3_init_22 ?_
      refine lv_iload_n hx hb dX3_init_25 rfl (lv_at hl 0 rfl) ?_
      refine am_nnew (q := (am_hT G pre.length i).length + 2) (L' := .inr (3, [.ref (G.1 + (pre.length + 1)), .int 0, .int 0]) :: .inl (G.2.1 5, 40, .inr (.inr (.inr (.inr (am_hF G pre.length i))))) :: (am_hT G pre.length i ++ [.inr (9, [.null, .null, .null, .null, .int 0])])) (fs := [.null, .null, .null, .null, .int 0]) hx hb hts hK hown hN (ci := 9) rfl am_inX9 tyX9 tyX9_ok am_q229 am_q168 am_q5 (by decide +kernel) (show 1 + 5 * i + 1 ≤ 201 by omega) (show 40 + 58 * i + 5 ≤ 2360 by omega) rfl rfl dX3_init_26 (fun H hN => ?_)
      refine lv_dup hx hb dX3_init_29 rfl ?_
      have hpl : (pre ++ ((.inr (3, [.ref (G.1 + (pre.length + 1)), .int 0, .int 0]) :: .inl (G.2.1 5, 40, .inr (.inr (.inr (.inr (am_hF G pre.length i))))) :: am_hT G pre.length i) : List va_E)).length = pre.length + ((am_hT G pre.length i).length + 2) := by rw [List.length_append]; rfl
      have hM := kI_X9 (G := G) (l := l) (pre := pre ++ ((.inr (3, [.ref (G.1 + (pre.length + 1)), .int 0, .int 0]) :: .inl (G.2.1 5, 40, .inr (.inr (.inr (.inr (am_hF G pre.length i))))) :: am_hT G pre.length i) : List va_E))
      rw [hpl, List.append_assoc, List.append_assoc] at hM
      refine am_sz hN (fun hz => ?_)
      refine am_callN (cs' := pre ++ (.inr (3, [.ref (G.1 + (pre.length + 1)), .int 0, .int 0]) :: .inl (G.2.1 5, 40, .inr (.inr (.inr (.inr (am_hF G pre.length i))))) :: (am_hT G pre.length i ++ am_cells_X9 G (pre.length + ((am_hT G pre.length i).length + 2))))) (am_runIn (host := RX11) (n := 0) (As := []) (rest := [.ref (G.1 + (pre.length + ((am_hT G pre.length i).length + 2))), .int x, .ref (G.1 + (pre.length + 1))]) ⟨hx, hb, hml, hown, hts⟩ hK hX hN hz hM am_q171 (by simp [am_xw]) am_q5 am_q170 rfl ⟨rfl, rfl⟩ (by decide +kernel) ⟨Nat.le_of_ble_eq_true rfl, Nat.le_of_ble_eq_true rfl⟩ rfl hl.1 rfl (Nat.le_of_ble_eq_true rfl) ⟨(show 1 + 5 * i + 1 + 4 ≤ 201 by omega), (show 40 + 58 * i + 5 + 53 ≤ 2360 by omega)⟩ dX3_init_30) hN (by simp only [List.length_append, List.length_cons]; show _ = _ + 4; simp only [am_cells_X9, List.length_cons, List.length_nil]; omega) (by intro h0; cases pre <;> cases h0) (fun H locs hN => ?_)
      have hj : ((.inr (3, [.ref (G.1 + (pre.length + 1)), .int 0, .int 0]) :: .inl (G.2.1 5, 40, .inr (.inr (.inr (.inr (am_hF G pre.length i))))) :: (am_hT G pre.length i ++ am_cells_X9 G (pre.length + ((am_hT G pre.length i).length + 2)))) : List va_E)[(am_hT G pre.length i).length + 2]? = (am_cells_X9 G (pre.length + ((am_hT G pre.length i).length + 2)))[0]? := by
        rw [List.getElem?_cons_succ, List.getElem?_cons_succ, List.getElem?_append_right (Nat.le_refl _), Nat.sub_self]
      refine am_naast (L' := am_hL G pre.length (i + 1)) hx hb hK hN 1 ((am_hT G pre.length i).length + 2) (t := 5) (ci := 9) (r := (RX9, TX9, 5)) rfl rfl (hj.trans rfl) rfl (fun h => by rcases h with h | h; exact h0 h; rw [hi] at h; omega) (by rw [hi, am_hT_len]; rfl) dX3_init_33 (fun H locs hN => ?_)
      obtain ⟨x2, hx2⟩ : ∃ y : Int32, y = x + 1 := ⟨_, rfl⟩
      refine lv_iinc (v := x2) (lv' := [(1, .int x2), (0, .ref (G.1 + (pre.length + 0)))]) hx hb dX3_init_34 hl (k := 0) rfl (by rw [hx2]; rfl) (by decide) rfl (fun ls hl => ?_)
      refine lv_goto (tgt := 15) hx hb dX3_init_37 (by decide) ?_
      have hx2i : x2.toInt = ((i + 1 : Nat) : Int) := by
        rw [hx2, Int32.toInt_add, hxi, show (1 : Int32).toInt = 1 by decide, Int.bmod_eq_of_le (by omega) (by omega)]
        omega
      rw [show 1 + 5 * i + 1 + 4 = 1 + 5 * (i + 1) by omega, show 40 + 58 * i + 5 + 53 = 40 + 58 * (i + 1) by omega]
      rw [show 1 + 5 * i + 1 + 4 = 1 + 5 * (i + 1) by omega] at hN
      refine ih (i + 1) x2 H locs ls (by omega) ?_ ?_ hx2i hN hl
      · show x2.toInt.toNat = i + 1
        rw [hx2i]; rfl
      · intro h
        have := Int32.lt_iff_toInt_lt.mp h
        rw [hx2i, show (0 : Int32).toInt = 0 by decide] at this
        omega
  show W p l e { frames := 2, cells := 201, slots := 2360, locals := 128 } s m _ below meth c s.heap [] 0 0 _ _
  refine am_enter (lv := [(0, .ref (G.1 + (pre.length + 0)))]) (Nat.le_of_ble_eq_true rfl) rfl (fun ls hl => ?_)
  refine lv_aload_n hx hb dX3_init_0 rfl (lv_at hl 0 rfl) ?_
  refine W.objInit hx hb hown (hts _ am_q228) (hts _ am_q37) (hts _ am_q38) rfl (by rw [hml]; exact hl.1) rfl dX3_init_1 (Nat.le_of_ble_eq_true rfl) (Nat.le_of_ble_eq_true rfl) ?_
  show W _ _ _ _ _ _ _ _ _ _ _ _ _ _ _ (F0 m 4 ls [])
  refine lv_aload_n hx hb dX3_init_4 rfl (lv_at hl 0 rfl) ?_
  refine lv_bipush (v := 40) hx hb dX3_init_5 (by decide) ?_
  refine am_nanew (L := [.inr (3, [.null, .int 0, .int 0])]) (L' := [.inr (3, [.null, .int 0, .int 0]), .inl (G.2.1 5, 40, .inr (.inr (.inr (.inr (fun _ => none)))))]) (q := 1) (N' := 40) (t := 5) hx hb hts hK hown hX.2.2 hN rfl am_q229 (by decide) (by decide) (by decide) (Nat.le_of_ble_eq_true rfl) (Nat.le_of_ble_eq_true rfl) rfl rfl dX3_init_7 (fun H hN => ?_)
  refine am_nput (L := [.inr (3, [.null, .int 0, .int 0]), .inl (G.2.1 5, 40, .inr (.inr (.inr (.inr (fun _ => none)))))]) (L' := am_hL G pre.length 0) hx hb hts hK hown hN 0 rfl rfl am_inX3 tyX3 tyX3_ok nmX3 0 (by decide) am_q232 rfl hin rfl rfl rfl (Nat.le_of_ble_eq_true rfl) rfl dX3_init_10 (fun H locs hN => ?_)
  refine lv_iconst (v := 0) hx hb dX3_init_13 (by decide) ?_
  refine lv_istore_n (lv' := [(1, .int 0), (0, .ref (G.1 + (pre.length + 0)))]) hx hb dX3_init_14 rfl hl (by decide) rfl (fun ls hl => ?_)
  exact loop 40 0 0 H locs ls rfl (by decide) (by decide) (by decide) hN hl

