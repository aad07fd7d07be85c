theorem am_q31 : Cond.classLink RL 8 RX11 ∈ am_T := am_in 31 (by decide +kernel) (by decide +kernel)
theorem am_q32 : Cond.instantiable RX11 19 ∈ am_T := am_in 32 (by decide +kernel) (by decide +kernel)
theorem am_q33 : Cond.methodLink RL 15 yX11_init ∈ am_T := am_in 33 (by decide +kernel) (by decide +kernel)
theorem am_q34 : Cond.instanceMethod yX11_init ∈ am_T := am_in 34 (by decide +kernel) (by decide +kernel)
theorem am_q35 : Cond.code yX11_init cX11_init 2 none ∈ am_T := am_in 35 (by decide +kernel) (by decide +kernel)
theorem am_q1313 : Cond.classLink RL 16 RX12 ∈ am_T := am_in 1313 (by decide +kernel) (by decide +kernel)
theorem am_q1314 : Cond.instantiable RX12 30 ∈ am_T := am_in 1314 (by decide +kernel) (by decide +kernel)
theorem am_q1315 : Cond.methodLink RL 18 yX12_init ∈ am_T := am_in 1315 (by decide +kernel) (by decide +kernel)
theorem am_q1316 : Cond.instanceMethod yX12_init ∈ am_T := am_in 1316 (by decide +kernel) (by decide +kernel)
theorem am_q1317 : Cond.code yX12_init cX12_init 1 none ∈ am_T := am_in 1317 (by decide +kernel) (by decide +kernel)
theorem am_cells_X11_len {G : am_G} : (am_cells_X11 G 0).length = 271 := by
  unfold am_cells_X11
  show (am_X11_t44 G 0).length + 1 = 271
  rw [am_X11_t44_len]
theorem am_cells_X12_len {G : am_G} {q : Nat} : (am_cells_X12 G q).length = 19 := rfl
set_option maxRecDepth 100000 in
set_option maxHeartbeats 8000000 in
/-- the law from its entry: over an invariant of the pure part -/
theorem am_entry {p : Program} {e : Env} {s : State} {m : MethodId} {below : List Frame} {meth : Method} {c : Code} (l : Launch) (hflags : l.flags = flags0) {b L : Nat} {xs : Nat → Int32} (hL : L ≤ 3072) (C0 : lw_At p s m meth c b L xs) {Inv : Nat → am_S → Prop} (hI : am_Keeps Inv) :
    W p l e room_1 s m #[Value.ref b] below meth c s.heap [] 0 0 (lw_Z below #[Value.ref b] s) (entryFrame m ([Value.ref b] : List Value).toArray 7) := by
  obtain ⟨hx, hb, hr, hml, hown, hts0, hX, hbl, hlocks, hgv⟩ := id C0
  obtain ⟨G, hG, hK0, hE0, hXW0⟩ := am_setup hts0 hgv
  have hd0 := Drawn.sameBut.refl s.drawn lw_cs
  refine W.base ?_
  have hts : ∀ w ∈ am_T, w.before #[Value.ref b] (s.setDrawn s.drawn) = true := fun w hw => dr_words hts0 _ w (List.mem_filter.mp hw).1
  have hK : va_K G.2.2.1 vwCl (am_tys G) (s.setDrawn s.drawn) := hK0
  have hE : am_E G (s.setDrawn s.drawn) s.heap := am_E.same rfl hE0
  have hXW : am_XW (s.setDrawn s.drawn) := am_XW.same rfl hXW0
  have hown : (s.setDrawn s.drawn).vm.findClass RL = some m.cls := hown
  have hX : va_X b L xs (s.setDrawn s.drawn) (s.setDrawn s.drawn).heap := hX
  have hbl : b < (s.setDrawn s.drawn).heap.size := hbl
  have hbA : ¬ G.1 ≤ b := by rw [hG]; exact Nat.not_le.mpr hbl
  have hXU : am_XU G (s.setDrawn s.drawn) s.heap := am_XU.same rfl (am_setXU hts0 hgv hG)
  have hlt := am_noTraces hflags
  have hsz : (s.setDrawn s.drawn).heap.size = G.1 := hG.symm
  have hend : ∀ (j : Nat) (H : Heap) (locs : List Loc) (ls : Array Slot), j ≤ 512 → (∀ q ∈ locs, G.1 ≤ q.base) → W p l e room_1 (s.setDrawn s.drawn) m #[Value.ref b] below meth c H locs (291 + j) (16832 + 6 * j) (lw_Z below #[Value.ref b] s) (F0 m 1968 ls []) := by
    intro j H locs ls hj hloc
    refine va_forget (fun q hq => by rw [hsz]; exact hloc q hq) ?_
    refine W.widen (k := 601024) (n := 7293034) (by omega) (by omega) ?_
    refine lv_iconst (v := 1) hx hb dL_law_1968 (by decide) ?_
    exact lw_ret hd0 hx hb hr hlocks dL_law_1969
  have hheap : s.heap = (s.setDrawn s.drawn).heap := rfl
  rw [hheap] at hE hXU ⊢
  generalize hs' : s.setDrawn s.drawn = s' at *
  have hN : am_N G (([] : List va_E) ++ []) s' s'.heap [] 0 := ⟨fun k q hk => by simp [am_gw] at hk, va_S.rf, by rw [hsz]; rfl, by rw [hsz]; exact Nat.le_refl _⟩
  refine am_enter (lv := [(0, .ref b)]) (Nat.le_of_ble_eq_true rfl) rfl (fun ls hl => ?_)
  refine am_nnew (pre := []) (L := []) (L' := [.inr (11, [.null, .null, .null, .null, .null, .null, .null, .null, .null, .null, .null, .null, .null, .null, .null, .null, .null, .int 0, .int 0])]) (q := 0) (fs := [.null, .null, .null, .null, .null, .null, .null, .null, .null, .null, .null, .null, .null, .null, .null, .null, .null, .int 0, .int 0]) hx hb hts hK hown hN (ci := 11) rfl am_inX11 tyX11 tyX11_ok am_q31 am_q32 am_q1 (by decide +kernel) (Nat.le_of_ble_eq_true rfl) (Nat.le_of_ble_eq_true rfl) rfl rfl dL_law_0 (fun H hN => ?_)
  refine lv_dup hx hb dL_law_3 rfl ?_
  refine am_sz hN (fun hz => ?_)
  refine am_callN (cs := ([] : List va_E) ++ [.inr (11, [.null, .null, .null, .null, .null, .null, .null, .null, .null, .null, .null, .null, .null, .null, .null, .null, .null, .int 0, .int 0])]) (cs' := [] ++ am_cells_X11 G 0) (am_runIo (n := 0) (As := []) (rest := [.ref (G.1 + (([] : List va_E).length + 0))]) ⟨hx, hb, hml, hown, hts⟩ hK hXW hN hz (kI_X11 (G := G) (l := l) (pre := [])) am_q35 am_q33 am_q1 am_q34 rfl ⟨rfl, rfl⟩ (by decide +kernel) ⟨Nat.le_of_ble_eq_true rfl, Nat.le_of_ble_eq_true rfl⟩ rfl hl.1 rfl (Nat.le_of_ble_eq_true rfl) ⟨Nat.le_of_ble_eq_true rfl, Nat.le_of_ble_eq_true rfl⟩ dL_law_4) hN (by rw [List.nil_append, am_cells_X11_len]; rfl) (by rw [List.nil_append]; exact List.cons_ne_nil _ _) (fun H locs hN => ?_)
  refine lv_astore_n (lv' := [(1, .ref (G.1 + 0)), (0, .ref b)]) hx hb dL_law_7 rfl hl (by decide) rfl (fun ls hl => ?_)
  refine am_nnew (pre := []) (L := am_cells_X11 G 0) (L' := am_cells_X11 G 0 ++ [.inr (12, [.int 0, .null, .int 0, .int 0, .int 0, .null, .null, .null, .int 0, .int 0, .null, .null, .null, .int 0, .null, .null, .int 0, .null, .null, .null, .long 0, .null, .null, .int 0, .long 0, .null, .null, .null, .null, .int 0])]) (q := 271) (fs := [.int 0, .null, .int 0, .int 0, .int 0, .null, .null, .null, .int 0, .int 0, .null, .null, .null, .int 0, .null, .null, .int 0, .null, .null, .null, .long 0, .null, .null, .int 0, .long 0, .null, .null, .null, .null, .int 0]) hx hb hts hK hown hN (ci := 12) rfl am_inX12 tyX12 tyX12_ok am_q1313 am_q1314 am_q13 (by decide +kernel) (Nat.le_of_ble_eq_true rfl) (Nat.le_of_ble_eq_true rfl) am_cells_X11_len rfl dL_law_8 (fun H hN => ?_)
  refine lv_dup hx hb dL_law_11 rfl ?_
  have hM := kI_X12 (G := G) (l := l) (pre := am_cells_X11 G 0)
  rw [am_cells_X11_len, ← List.nil_append (am_cells_X11 G 0 ++ ([.inr (12, [.int 0, .null, .int 0, .int 0, .int 0, .null, .null, .null, .int 0, .int 0, .null, .null, .null, .int 0, .null, .null, .int 0, .null, .null, .null, .long 0, .null, .null, .int 0, .long 0, .null, .null, .null, .null, .int 0])] : List va_E)), ← List.nil_append (am_cells_X11 G 0 ++ am_cells_X12 G 271)] at hM
  refine am_sz hN (fun hz => ?_)
  have hrun := am_runIo (p := p) (e := e) (R := room_1) (below := below) (meth := meth) (ls := ls) (cells := 0 + 1 + 270 + 1) (slots := 0 + 19 + 5847 + 30) (st0 := [.ref (G.1 + (([] : List va_E).length + 271)), .ref (G.1 + (([] : List va_E).length + 271))]) (n := 0) (As := []) (rest := [.ref (G.1 + (([] : List va_E).length + 271))]) ⟨hx, hb, hml, hown, hts⟩ hK hXW hN hz hM am_q1317 am_q1315 am_q13 am_q1316 rfl ⟨rfl, rfl⟩ (by decide +kernel) ⟨Nat.le_of_ble_eq_true rfl, Nat.le_of_ble_eq_true rfl⟩ rfl hl.1 rfl (Nat.le_of_ble_eq_true rfl) ⟨Nat.le_of_ble_eq_true rfl, Nat.le_of_ble_eq_true rfl⟩ dL_law_12
  have hlen12 : (([] : List va_E) ++ (am_cells_X11 G 0 ++ am_cells_X12 G 271)).length = (([] : List va_E) ++ (am_cells_X11 G 0 ++ ([.inr (12, [.int 0, .null, .int 0, .int 0, .int 0, .null, .null, .null, .int 0, .int 0, .null, .null, .null, .int 0, .null, .null, .int 0, .null, .null, .null, .long 0, .null, .null, .int 0, .long 0, .null, .null, .null, .null, .int 0])] : List va_E))).length + 18 := by
    simp only [List.nil_append, List.length_append, am_cells_X11_len, am_cells_X12_len, List.length_cons, List.length_nil]
  have hne12 : ([] : List va_E) ++ (am_cells_X11 G 0 ++ am_cells_X12 G 271) ≠ [] := fun h => by
    have h2 := congrArg List.length h
    simp only [List.nil_append, List.length_append, am_cells_X11_len, am_cells_X12_len, List.length_nil] at h2
    omega
  refine am_callN hrun hN hlen12 hne12 (fun H locs hN => ?_)
  clear hrun hM hz
  refine lv_astore_n (lv' := [(2, .ref (G.1 + 271)), (1, .ref (G.1 + 0)), (0, .ref b)]) hx hb dL_law_15 rfl hl (by decide) rfl (fun ls hl => ?_)
  refine lv_iconst (v := 1) hx hb dL_law_16 (by decide) ?_
  refine am_nnewa (pre := []) (L := am_cells_X11 G 0 ++ am_cells_X12 G 271) (L' := am_total G) (q := 290) (N' := 1) (t := 3) (atype := .long) hx hb hts hK hN am_q202 rfl (fun _ => rfl) (by decide) (by decide) (by decide) (Nat.le_of_ble_eq_true rfl) (Nat.le_of_ble_eq_true rfl) (by rw [List.length_append, am_cells_X11_len, am_cells_X12_len]) (List.append_assoc _ _ _) dL_law_17 (fun H hN => ?_)
  refine lv_astore_n (lv' := [(3, .ref (G.1 + 290)), (2, .ref (G.1 + 271)), (1, .ref (G.1 + 0)), (0, .ref b)]) hx hb dL_law_19 rfl hl (by decide) rfl (fun ls hl => ?_)
  refine lv_iconst (v := 0) hx hb dL_law_20 (by decide) ?_
  refine lv_istore (lv' := [(4, .int 0), (3, .ref (G.1 + 290)), (2, .ref (G.1 + 271)), (1, .ref (G.1 + 0)), (0, .ref b)]) hx hb dL_law_21 hl (by decide) rfl (fun ls hl => ?_)
  rw [List.nil_append] at hN
  exact am_lawloop hx hb hml hown hts hK hE hX hbl hbA hL hI (fun j x4 w ww H locs ls hj hf hH hl kk => k_law_6 hlt hXU hx hb hml hown hts hK hE hX hbl hbA ⟨(show 291 + j + 1 ≤ 601024 by omega), (show 16832 + 6 * j + 6 ≤ 7293034 by omega)⟩ hf hH hl kk) hend 513 0 0 am_w0 H locs ls rfl (by decide) (by decide) hI.1 ⟨am_conv hN.1, hN.2.1⟩ (lv_sub hl [4, 3, 2, 1, 0] rfl)
