def am_v {α β : Type} (a : α) (k : α → Option β) : Option β := k a
theorem am_v_some {α β : Type} {a : α} {k : α → Option β} {r : β} (h : am_v a k = some r) : ∃ b, b = a ∧ k b = some r := ⟨a, rfl, h⟩
def am_iushr (x y : Int32) : Int32 := (x.toUInt32 >>> (y.toUInt32 &&& Int32.toUInt32 31)).toInt32
def am_lshl (x : Int64) (y : Int32) : Int64 := x <<< (y.toInt64 &&& 63)
def am_lshr (x : Int64) (y : Int32) : Int64 := x >>> (y.toInt64 &&& 63)
def am_lushr (x : Int64) (y : Int32) : Int64 := (x.toUInt64 >>> (y.toInt64.toUInt64 &&& Int64.toUInt64 63)).toInt64
-- families: an object with its arrays behind it
abbrev am_f0 (o : Nat) : Prop := am_kd o = 0
abbrev am_f1 (o : Nat) : Prop := am_kd o = 1 ∧ am_kd (o + 1) = 100 + 8 * 5 + 2 ∧ am_kd (o + 2) = 100 + 8 * 10 + 2 ∧ am_kd (o + 3) = 100 + 8 * 10 + 2 ∧ am_kd (o + 4) = 100 + 8 * 10 + 2 ∧ am_kd (o + 5) = 100 + 8 * 10 + 2 ∧ am_kd (o + 6) = 100 + 8 * 10 + 2 ∧ am_kd (o + 7) = 100 + 8 * 7 + 2
abbrev am_f4 (o : Nat) : Prop := am_kd o = 4 ∧ am_kd (o + 1) = 100 + 8 * 100 + 2 ∧ am_kd (o + 2) = 100 + 8 * 100 + 2 ∧ am_kd (o + 3) = 100 + 8 * 100 + 2
abbrev am_f8 (o : Nat) : Prop := am_kd o = 8 ∧ am_kd (o + 1) = 100 + 8 * 16 + 2 ∧ am_kd (o + 2) = 100 + 8 * 16 + 2
abbrev am_f9 (o : Nat) : Prop := am_kd o = 9 ∧ am_kd (o + 1) = 100 + 8 * 10 + 2 ∧ am_kd (o + 2) = 100 + 8 * 10 + 3 ∧ am_kd (o + 3) = 100 + 8 * 30 + 2 ∧ am_kd (o + 4) = 100 + 8 * 3 + 2
def am_bv (j i : Nat) : Int32 := (am_tb.getD j []).getD i 0
theorem am_row4 {i : Int32} (h : vp_in i 4) : am_f8 (259 + 3 * i.toNatClampNeg) := by
  have h1 : i.toNatClampNeg < 4 := Nat.not_le.mp fun q => h (Or.inr q)
  have h2 : ∀ k, k < 4 → am_f8 (259 + 3 * k) := by decide +kernel
  exact h2 _ h1
theorem am_row5 {i : Int32} (h : vp_in i 40) : am_f9 (48 + 5 * i.toNatClampNeg) := by
  have h1 : i.toNatClampNeg < 40 := Nat.not_le.mp fun q => h (Or.inr q)
  have h2 : ∀ k, k < 40 → am_f9 (48 + 5 * k) := by decide +kernel
  exact h2 _ h1
section AMQ
variable {p : Program} {l : Launch} {e : Env} {R : Room} {s : State} {m : MethodId} {args : Array Value} {below : List Frame} {meth : Method} {c : Code} {H : Heap} {locs : List Loc} {cells slots : Nat} {Q : State → Prop}
variable {cc : ByteArray} {pc : Nat} {ls : Array Slot} {rest : List Value} {G : am_G} {w : am_S}
theorem am_topi {x y : Int32} (h : y = x) (k : W p l e R s m args below meth c H locs cells slots Q (F0 m pc ls (.int y :: rest))) : W p l e R s m args below meth c H locs cells slots Q (F0 m pc ls (.int x :: rest)) := h ▸ k
theorem am_topl {x y : Int64} (h : y = x) (k : W p l e R s m args below meth c H locs cells slots Q (F0 m pc ls (.long y :: rest))) : W p l e R s m args below meth c H locs cells slots Q (F0 m pc ls (.long x :: rest)) := h ▸ k
theorem am_topf {x y : UInt32} (h : y = x) (k : W p l e R s m args below meth c H locs cells slots Q (F0 m pc ls (.float y :: rest))) : W p l e R s m args below meth c H locs cells slots Q (F0 m pc ls (.float x :: rest)) := h ▸ k
theorem am_topd {x y : UInt64} (h : y = x) (k : W p l e R s m args below meth c H locs cells slots Q (F0 m pc ls (.double y :: rest))) : W p l e R s m args below meth c H locs cells slots Q (F0 m pc ls (.double x :: rest)) := h ▸ k
theorem am_start {g : JFrame} (hH : am_H G w s s.heap []) (k : ∀ (H : Heap) (locs : List Loc), am_H G w s H locs → W p l e R s m args below meth c H locs cells slots Q g) : W p l e R s m args below meth c s.heap [] cells slots Q g := k _ _ hH
theorem am_copyi (hx : p.tables.exec = Jvm.exec) (hb : c.code = cc) (hml : c.maxLocals = ls.size) {own : String} {index : Nat} (hown : s.vm.findClass own = some m.cls) (hlink : (Cond.methodLink own index arraycopyName).before args s = true) (hnat : (Cond.native arraycopyName).before args s = true) (hstat : (Cond.static arraycopyName).before args s = true) (hini : (Cond.initialized "java/lang/System").before args s = true)
    (hK : va_K G.2.2.1 vwCl (am_tys G) s) (hH : am_H G w s H locs) {o0 o1 n0 n1 n : Nat} (h0 : am_ai G o0 n0) (h1 : am_ai G o1 n1) {v : Int32} (hv : Int32.ofNat n = v) (hn : v.toNatClampNeg = n) (hp : ¬ v < 0) (hn0 : n ≤ n0) (hn1 : n ≤ n1) (hframes : 1 ≤ R.frames) (hlocals : (rest.map fun v => v.category).sum + (nativeFrameWords "java/lang/System" "arraycopy" 5 + 11) ≤ R.locals) (hdg : decode cc pc = .ok (.invokestatic index, 3))
    (kk : ∀ (H : Heap) (locs : List Loc), am_H G (am_ci w o0 0 o1 0 n) s H locs → W p l e R s m args below meth c H locs cells slots Q (F0 m (pc + 3) ls rest)) : W p l e R s m args below meth c H locs cells slots Q (F0 m pc ls (.int v :: .int 0 :: .ref (G.1 + o1) :: .int 0 :: .ref (G.1 + o0) :: rest)) := by
  have hz : (0 : Int32).toNatClampNeg = 0 := by decide
  refine va_copyi hx hb hml hown hlink hnat hstat hini hK hH.1 am_D hH.2 o0 o1 2 2 (ty := .int) ((am_ws_at h0.1).trans (by rw [h0.2])) ((am_ws_at h1.1).trans (by rw [h1.2])) rfl rfl rfl (by decide) (by decide) hp (by rw [hz, hn]; omega) (by rw [hz, hn]; omega) (fun _ _ => rfl) hframes hlocals hdg (fun H1 locs1 hP _ hS => kk H1 locs1 ⟨?_, hS⟩)
  rw [hz, hn, am_ws_set (w' := am_ci w o0 0 o1 0 n) h1.1 (by rw [h1.2, am_ci_row]) am_ci_oth] at hP
  exact hP
theorem am_copyl (hx : p.tables.exec = Jvm.exec) (hb : c.code = cc) (hml : c.maxLocals = ls.size) {own : String} {index : Nat} (hown : s.vm.findClass own = some m.cls) (hlink : (Cond.methodLink own index arraycopyName).before args s = true) (hnat : (Cond.native arraycopyName).before args s = true) (hstat : (Cond.static arraycopyName).before args s = true) (hini : (Cond.initialized "java/lang/System").before args s = true)
    (hK : va_K G.2.2.1 vwCl (am_tys G) s) (hH : am_H G w s H locs) {o0 o1 n0 n1 n : Nat} (h0 : am_al G o0 n0) (h1 : am_al G o1 n1) {v : Int32} (hv : Int32.ofNat n = v) (hn : v.toNatClampNeg = n) (hp : ¬ v < 0) (hn0 : n ≤ n0) (hn1 : n ≤ n1) (hframes : 1 ≤ R.frames) (hlocals : (rest.map fun v => v.category).sum + (nativeFrameWords "java/lang/System" "arraycopy" 5 + 11) ≤ R.locals) (hdg : decode cc pc = .ok (.invokestatic index, 3))
    (kk : ∀ (H : Heap) (locs : List Loc), am_H G (am_cl w o0 0 o1 0 n) s H locs → W p l e R s m args below meth c H locs cells slots Q (F0 m (pc + 3) ls rest)) : W p l e R s m args below meth c H locs cells slots Q (F0 m pc ls (.int v :: .int 0 :: .ref (G.1 + o1) :: .int 0 :: .ref (G.1 + o0) :: rest)) := by
  have hz : (0 : Int32).toNatClampNeg = 0 := by decide
  refine va_copyl hx hb hml hown hlink hnat hstat hini hK hH.1 am_D hH.2 o0 o1 3 3 ((am_ws_at h0.1).trans (by rw [h0.2])) ((am_ws_at h1.1).trans (by rw [h1.2])) (ty := .long) rfl rfl rfl (by decide) (by decide) hp (by rw [hz, hn]; omega) (by rw [hz, hn]; omega) (fun _ _ => rfl) hframes hlocals hdg (fun H1 locs1 hP _ hS => kk H1 locs1 ⟨?_, hS⟩)
  rw [hz, hn, am_ws_set (w' := am_cl w o0 0 o1 0 n) h1.1 (by rw [h1.2, am_cl_row]) am_cl_oth] at hP
  exact hP
/-- from a static array that nobody writes -/
theorem am_copyx (hx : p.tables.exec = Jvm.exec) (hb : c.code = cc) (hml : c.maxLocals = ls.size) {own : String} {index : Nat} (hown : s.vm.findClass own = some m.cls) (hlink : (Cond.methodLink own index arraycopyName).before args s = true) (hnat : (Cond.native arraycopyName).before args s = true) (hstat : (Cond.static arraycopyName).before args s = true) (hini : (Cond.initialized "java/lang/System").before args s = true)
    (hK : va_K G.2.2.1 vwCl (am_tys G) s) (hH : am_H G w s H locs) {b0 o1 n0 n1 n : Nat} {f : Nat → Int32} (hX : va_T .int b0 n0 (fun j => .int (f j)) (fun q => G.1 ≤ q) s s.heap) (h1 : am_ai G o1 n1) {v : Int32} (hv : Int32.ofNat n = v) (hn : v.toNatClampNeg = n) (hp : ¬ v < 0) (hn0 : n ≤ n0) (hn1 : n ≤ n1) (hframes : 1 ≤ R.frames) (hlocals : (rest.map fun v => v.category).sum + (nativeFrameWords "java/lang/System" "arraycopy" 5 + 11) ≤ R.locals) (hdg : decode cc pc = .ok (.invokestatic index, 3))
    (kk : ∀ (H : Heap) (locs : List Loc), am_H G (am_cx w f 0 o1 0 n) s H locs → W p l e R s m args below meth c H locs cells slots Q (F0 m (pc + 3) ls rest)) : W p l e R s m args below meth c H locs cells slots Q (F0 m pc ls (.int v :: .int 0 :: .ref (G.1 + o1) :: .int 0 :: .ref b0 :: rest)) := by
  have nn : ∀ z : Int32, ¬ z < 0 → z.toInt = (z.toNatClampNeg : Int) := by
    intro z hz
    have hz0 : (0 : Int) ≤ z.toInt := by
      have := Int32.not_lt.mp hz
      simpa using Int32.le_iff_toInt_le.mp this
    show z.toInt = ((z.toInt.toNat : Nat) : Int)
    omega
  have hz : (0 : Int32).toNatClampNeg = 0 := by decide
  have hz2 : (0 : Int32).toInt = 0 := by decide
  have ha1 : (am_ws G w)[o1]? = some (G.1 + o1, .inl (G.2.1 2, n1, .inl (w.1 o1))) := (am_ws_at h1.1).trans (by rw [h1.2])
  intro T hT X
  obtain ⟨scr, hs1, hs2, hs3, hs4, -, hs5, hs7⟩ := hX
  have hc0 : H[b0]? = some scr := by rw [hH.2.2.1 b0 (Array.getElem?_eq_some_iff.mp hs1).1 hs7]; exact hs1
  have hc1 : H[G.1 + o1]? = some (vp_cell (G.2.1 2) (n1, .inl (w.1 o1))) := hH.1 o1 _ ha1
  obtain ⟨hs6, k0, hk0, cm0, hkk0⟩ := hs2
  obtain ⟨-, k1, hk1, cm1, hkk1⟩ := (hK.2 2 (G.2.1 2, .int) rfl).1 n1 (fun j => .int (w.1 o1 j))
  obtain ⟨vm', X', step⟩ := X.arraycopy hx hown hlink hnat hstat hini (src := b0) (dst := G.1 + o1) (cs := scr) (cd := vp_cell (G.2.1 2) (n1, .inl (w.1 o1))) (srcPos := 0) (destPos := 0) (n := v) (by rw [hT]; exact hc0) (by rw [hT]; exact hc1)
    hs6 (fun _ h => by cases h) hs3 (fun h => by cases h) hk0 hk1 hkk0 hkk1 (by simp [refKind]) (by decide) (by decide) hp
    (by rw [hz2, nn v hp, hn]; omega)
    (by rw [hz2, nn v hp, hn]; show ¬ _ > ((arrV (G.2.1 2) n1 (fun j => .int (w.1 o1 j))).slots.size : Int); rw [arrV_size]; omega)
    (fun vm₁ _ i hi => by
      rw [hn] at hi
      have e : scr.slots.getD ((0 : Int32).toNatClampNeg + i) .null = .int (f ((0 : Int32).toNatClampNeg + i)) := by
        rw [Array.getD_eq_getD_getElem?, hs5 _ (by rw [hz]; omega)]
        rfl
      exact ⟨by rw [e]; rfl, by rw [e]; exact trivial⟩)
    (g := F0 m pc ls (.int v :: .int 0 :: .ref (G.1 + o1) :: .int 0 :: .ref b0 :: rest)) rfl (by rw [hml]) (rest := rest) rfl (by rw [hb]; exact hdg) hframes (by show 2 * 0 + _ + _ ≤ _; omega)
  have e1 : copied scr (vp_cell (G.2.1 2) (n1, .inl (w.1 o1))) 0 0 v = vp_cell (G.2.1 2) (n1, .inl (va_cpy f (w.1 o1) (0 : Int32).toNatClampNeg (0 : Int32).toNatClampNeg v.toNatClampNeg)) := va_copiedX (fun z => .int z) scr (G.2.1 2) f (w.1 o1) hs5 (by rw [hz, hn]; omega)
  rw [e1, hz, hn] at X' step
  have hl : G.1 + o1 < H.size := (Array.getElem?_eq_some_iff.mp hc1).1
  have hheap : ((T.setVm vm').setCell (G.1 + o1) (vp_cell (G.2.1 2) (n1, .inl (va_cpy f (w.1 o1) 0 0 n)))).heap = H.setIfInBounds (G.1 + o1) (vp_cell (G.2.1 2) (n1, .inl (va_cpy f (w.1 o1) 0 0 n))) := by rw [← hT]; rfl
  have oq : ∀ q : Nat, q ≠ G.1 + o1 → (H.setIfInBounds (G.1 + o1) (vp_cell (G.2.1 2) (n1, .inl (va_cpy f (w.1 o1) 0 0 n))))[q]? = H[q]? := fun q hq => by simp [Array.getElem?_setIfInBounds, Ne.symm hq]
  have hP1 := hH.1.set am_D ha1 (e := .inl (G.2.1 2, n1, .inl (va_cpy f (w.1 o1) 0 0 n))) (show (H.setIfInBounds (G.1 + o1) _)[G.1 + o1]? = some _ by simp [Array.getElem?_setIfInBounds, hl]) oq
  rw [am_ws_set (w' := am_cx w f 0 o1 0 n) h1.1 (by rw [h1.2, am_cx_row]) am_cx_oth] at hP1
  obtain ⟨t, a1, b1⟩ := kk _ _ ⟨hP1, by simp; exact hH.2.1, fun q g1 g2 => by
      rw [oq q (fun e => g2 (by rw [e]; exact Nat.le_add_right _ _))]
      exact hH.2.2.1 q g1 g2, fun q hq => by
      rcases List.mem_append.mp hq with h | h
      · exact hH.2.2.2 q h
      · obtain ⟨z, -, hz⟩ := List.mem_map.mp h
        rw [← hz]
        exact Nat.le_add_right _ _⟩ _ hheap X'
  exact ⟨t, step t a1, b1⟩
variable {nL n index maxL : Nat} {own : String} {y : MethodName} {bytes : ByteArray} {ret : Option FieldType} {rm : Room} {As st0 : List Value}
/-- a call on a String constant -/
theorem am_runVT {Qc : Array Value → State → Outcome → State → Prop} (j : Nat) (hj : j < 4) (S : CallFix p m c cc nL s args am_T own) (hK : va_K G.2.2.1 vwCl (am_tys G) s) (hE : am_E G s s.heap) (hH : am_H G w s H locs) (hM : Met l y (Cond.code y bytes maxL ret :: am_T) rm (am_Pc G (.ref (G.2.2.2.2.1 j) :: As) w) Qc 0 0 (am_A G)) (hg : GoodIn am_T (wsV own index "java/lang/String" y (Cond.code y bytes maxL ret :: am_T))) (hrc : rm.cells = 0 ∧ rm.slots = 0)
    (hd : y.cls = "java/lang/String" ∧ y.cls ≠ "java/lang/invoke/MethodHandle" ∧ y.cls ≠ "java/lang/invoke/VarHandle" ∧ (parseMethodDescriptor y.desc).map (fun d => d.parameters.length) = some n) (hR : rm.frames + 1 ≤ R.frames ∧ 8 + (maxL + 11) + rm.locals ≤ R.locals) (hn : As.length = n) (hls : ls.size = nL) (hst : st0 = As.reverse ++ .ref (G.2.2.2.2.1 j) :: rest) (hW : (rest.map fun v => v.category).sum ≤ 8) (hf : cells ≤ R.cells ∧ slots ≤ R.slots) (hdg : decode cc pc = .ok (.invokevirtual index, 3)) :
    va_Run p l e R s m args below meth c H locs cells slots 0 0 (F0 m pc ls st0) rest (Qc (Value.ref (G.2.2.2.2.1 j) :: As).toArray) (am_A G) :=
  va_runV S hM (cwV n S.2.2.2.2 hg rfl hrc.1 hrc.2 hd hR) ⟨am_blind, vk_recv hE.2.1 hj hH.2, am_B_at hH hK hE⟩ rfl hn hls hst (lv_room hW) hdg hf
end AMQ

theorem am_inX0 : ∀ w ∈ u_ws RX0 TX0 1, w ∈ am_T := am_lays [250] (by decide +kernel) (by decide +kernel)
theorem am_inX1 : ∀ w ∈ u_ws RX1 TX1 15, w ∈ am_T := am_lays [115, 117, 119, 121, 123, 125, 127, 129, 131, 133, 135, 137, 139, 141, 143] (by decide +kernel) (by decide +kernel)
theorem am_inX2 : ∀ w ∈ u_ws RX2 TX2 3, w ∈ am_T := am_lays [301, 303, 305] (by decide +kernel) (by decide +kernel)
theorem am_inX3 : ∀ w ∈ u_ws RX3 TX3 3, w ∈ am_T := am_lays [236, 238, 240] (by decide +kernel) (by decide +kernel)
theorem am_inX4 : ∀ w ∈ u_ws RX4 TX4 4, w ∈ am_T := am_lays [214, 216, 218, 220] (by decide +kernel) (by decide +kernel)
theorem am_inX5 : ∀ w ∈ u_ws RX5 TX5 1, w ∈ am_T := am_lays [328] (by decide +kernel) (by decide +kernel)
theorem am_inX6 : ∀ w ∈ u_ws RX6 TX6 2, w ∈ am_T := am_lays [316, 318] (by decide +kernel) (by decide +kernel)
theorem am_inX7 : ∀ w ∈ u_ws RX7 TX7 7, w ∈ am_T := am_lays [274, 276, 278, 280, 282, 284, 286] (by decide +kernel) (by decide +kernel)
theorem am_inX8 : ∀ w ∈ u_ws RX8 TX8 3, w ∈ am_T := am_lays [159, 161, 163] (by decide +kernel) (by decide +kernel)
theorem am_inX9 : ∀ w ∈ u_ws RX9 TX9 5, w ∈ am_T := am_lays [191, 193, 195, 197, 199] (by decide +kernel) (by decide +kernel)
theorem am_inX10 : ∀ w ∈ u_ws RX10 TX10 4, w ∈ am_T := am_lays [55, 57, 59, 61] (by decide +kernel) (by decide +kernel)
theorem am_inX11 : ∀ w ∈ u_ws RX11 TX11 19, w ∈ am_T := am_lays [350, 352, 354, 356, 358, 360, 362, 364, 366, 368, 370, 372, 374, 376, 378, 380, 382, 384, 386] (by decide +kernel) (by decide +kernel)
theorem am_inX12 : ∀ w ∈ u_ws RX12 TX12 30, w ∈ am_T := am_lays [1349, 1351, 1353, 1355, 1357, 1359, 1361, 1363, 1365, 1367, 1369, 1371, 1373, 1375, 1377, 1379, 1381, 1383, 1385, 1387, 1389, 1391, 1393, 1395, 1397, 1399, 1401, 1403, 1405, 1407] (by decide +kernel) (by decide +kernel)
