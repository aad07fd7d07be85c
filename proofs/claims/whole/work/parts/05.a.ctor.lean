/-! Constructors: the world while it grows, cell by cell. -/
def am_gw (b : Nat) (cs : List va_E) : va_W := cs.mapIdx (fun p e => (b + p, e))
theorem am_gw_get {b : Nat} {cs : List va_E} {p : Nat} : (am_gw b cs)[p]? = cs[p]?.map (fun e => (b + p, e)) := by unfold am_gw; rw [List.getElem?_mapIdx]
theorem am_gw_at {b : Nat} {cs : List va_E} {p : Nat} {e : va_E} (h : cs[p]? = some e) : (am_gw b cs)[p]? = some (b + p, e) := by rw [am_gw_get, h]; rfl
theorem am_gw_set {b : Nat} {cs : List va_E} {p : Nat} {e : va_E} : (am_gw b cs).set p (b + p, e) = am_gw b (cs.set p e) := by
  apply List.ext_getElem?
  intro k
  rw [am_gw_get, List.getElem?_set, List.getElem?_set]
  by_cases h : p = k
  · subst h
    rw [if_pos rfl, if_pos rfl]
    have : (am_gw b cs).length = cs.length := by simp [am_gw]
    rw [this]
    by_cases h2 : p < cs.length
    · rw [if_pos h2, if_pos h2]; rfl
    · rw [if_neg h2, if_neg h2]; rfl
  · rw [if_neg h, if_neg h, am_gw_get]
theorem am_gw_push {b : Nat} {cs : List va_E} {e : va_E} : am_gw b (cs ++ [e]) = am_gw b cs ++ [(b + cs.length, e)] := by simp [am_gw]
theorem am_gw_D {b : Nat} {cs : List va_E} : va_D (fun q => b ≤ q) (am_gw b cs) := by
  have key : ∀ (k : Nat) (q : Nat × va_E), (am_gw b cs)[k]? = some q → q.1 = b + k := by
    intro k q hq
    rw [am_gw_get] at hq
    obtain ⟨e, -, he⟩ := Option.map_eq_some_iff.mp hq
    rw [← he]
  refine ⟨fun i j p q hi hj e => ?_, fun k q hk => ?_⟩
  · have h1 := key i p hi
    have h2 := key j q hj
    omega
  · have h1 := key k q hk
    show b ≤ q.1
    omega
theorem am_low {D : va_G} {b : Nat} {cs : List va_E} {H : Heap} (h : va_P D vwCl (am_gw b cs) H) (hne : cs ≠ []) : b + cs.length ≤ H.size := by
  have hl : cs.length - 1 < cs.length := by
    have : 0 < cs.length := List.length_pos_iff.mpr hne
    omega
  have := (h (cs.length - 1) _ (am_gw_at (List.getElem?_eq_getElem hl))).lt
  show b + cs.length ≤ H.size
  have h2 : b + (cs.length - 1) < H.size := this
  omega
/-- links among nest mates, rows of references: words that a method's list can't hold -/
def am_xw : List Cond := [Cond.methodLinkNest RX11 11 yX10_init RX11, Cond.methodLinkNest RX11 18 yX1_init RX11, Cond.methodLinkNest RX11 28 yX8_init RX11, Cond.methodLinkNest RX11 39 yX9_init RX11, Cond.methodLinkNest RX11 52 yX4_init RX11, Cond.methodLinkNest RX11 73 yX0_init RX11, Cond.methodLinkNest RX3 15 yX9_init RX11, Cond.methodLinkNest RX2 11 yX0_init RX11]
def am_XW (U : State) : Prop := (∀ w ∈ am_xw, va_Nw w U) ∧ va_AO "BurstPeeler$Script" U ∧ va_AO "BurstPeeler$State" U
theorem am_XW.warm {s U : State} (hW : s.WarmedH U.vm) (h : am_XW s) : am_XW U := by
  refine ⟨fun w hw => ?_, va_AO.moved hW.alike h.2.1, va_AO.moved hW.alike h.2.2⟩
  have h1 := h.1 w hw
  simp only [am_xw, List.mem_cons, List.not_mem_nil, or_false] at hw
  rcases hw with rfl | rfl | rfl | rfl | rfl | rfl | rfl | rfl <;> exact va_Nw.warmM hW h1
theorem am_XW.same {s U : State} (hv : s.vm = U.vm) (h : am_XW s) : am_XW U := by
  refine ⟨fun w hw => ?_, va_AO.moved (by rw [hv]; exact Vm.Alike.refl _) h.2.1, va_AO.moved (by rw [hv]; exact Vm.Alike.refl _) h.2.2⟩
  have h1 := h.1 w hw
  simp only [am_xw, List.mem_cons, List.not_mem_nil, or_false] at hw
  rcases hw with rfl | rfl | rfl | rfl | rfl | rfl | rfl | rfl <;> exact va_Nw.same rfl hv h1
def am_N (G : am_G) (cs : List va_E) (s : State) (H : Heap) (locs : List Loc) (cells : Nat) : Prop := va_P G.2.2.1 vwCl (am_gw G.1 cs) H ∧ va_S (fun q => G.1 ≤ q) s.heap H locs ∧ s.heap.size + cells = G.1 + cs.length ∧ G.1 + cs.length ≤ H.size
def am_BN (G : am_G) (cs : List va_E) (U : State) : Prop := va_P G.2.2.1 vwCl (am_gw G.1 cs) U.heap ∧ va_K G.2.2.1 vwCl (am_tys G) U ∧ am_XW U ∧ U.heap.size = G.1 + cs.length
abbrev am_MI (G : am_G) (l : Launch) (y : MethodName) (ws : List Cond) (rm : Room) (av : List Value) (cs cs' : List va_E) (mc ms : Nat) : Prop := Met l y ws rm (va_Pc av (am_BN G cs)) (va_Qv (fun (_ : Unit) => True) (fun _ t => va_P G.2.2.1 vwCl (am_gw G.1 cs') t.heap) (am_A G)) mc ms (am_A G)
theorem am_blindN {G : am_G} {av : List Value} {cs : List va_E} : FrameBlind (va_Pc av (am_BN G cs)) := by
  intro a U g mk h
  obtain ⟨h1, h2, h3, h4, h5⟩ := h
  exact ⟨h1, h2, va_K.moved (u := U) (U := U.calling g mk a) (Vm.Alike.refl U.vm) h3, am_XW.same (s := U) rfl h4, h5⟩
section AMN
variable {p : Program} {l : Launch} {e : Env} {R : Room} {s : State} {m : MethodId} {args : Array Value} {below : List Frame} {meth : Method} {c : Code} {H : Heap} {locs : List Loc} {cells slots : Nat} {Q : State → Prop}
variable {cc : ByteArray} {pc : Nat} {ls : Array Slot} {rest : List Value} {G : am_G} {cs pre L L' : List va_E}
theorem am_sz {g : JFrame} (hN : am_N G cs s H locs cells) (k : H.size = G.1 + cs.length → W p l e R s m args below meth c H locs cells slots Q g) : W p l e R s m args below meth c H locs cells slots Q g := fun T hT X => k (by
  have h1 := X.heapSize
  rw [hT] at h1
  have h2 := hN.2.2.1
  have h3 := hN.2.2.2
  omega) T hT X
theorem am_nnew (hx : p.tables.exec = Jvm.exec) (hb : c.code = cc) (hts : ∀ w ∈ am_T, w.before args s = true) (hK : va_K G.2.2.1 vwCl (am_tys G) s) {own C : String} (hown : s.vm.findClass own = some m.cls) (hN : am_N G (pre ++ L) s H locs cells) {T : u_T} {N ci index : Nat} (hc : vwCl[ci]? = some (C, T, N)) (hin : ∀ w ∈ u_ws C T N, w ∈ am_T) (ty : Nat → FieldType) (hty : ∀ k, k < N → parseFieldDescriptor (T k).2.2.1 = some (ty k)) (hcl : Cond.classLink own index C ∈ am_T) (hinst : Cond.instantiable C N ∈ am_T) (hini : Cond.initialized C ∈ am_T) {fs : List Value} (hfs : ∀ j, j < N → defaultValue (ty j) = vp_V fs j) (hcells : cells + 1 ≤ R.cells) (hslots : slots + N ≤ R.slots) {q : Nat} (hq : L.length = q) (hL : L ++ [.inr (ci, fs)] = L') (hdg : decode cc pc = .ok (.new index, 3))
    (kk : ∀ H : Heap, am_N G (pre ++ L') s H locs (cells + 1) → W p l e R s m args below meth c H locs (cells + 1) (slots + N) Q (F0 m (pc + 3) ls (.ref (G.1 + (pre.length + q)) :: rest))) : W p l e R s m args below meth c H locs cells slots Q (F0 m pc ls rest) := by
  subst hL; subst hq
  refine am_sz hN fun hz => ?_
  have hKn := hK.1 ci _ hc
  have hlen : (pre ++ L).length = pre.length + L.length := List.length_append
  refine W.newcK hx hb hown (hts _ hcl) (hts _ hinst) (hts _ hini) rfl hdg hcells hslots hKn.2.1 hz fun H1 kC hkC e1 z1 o1 => ?_
  rw [hlen]
  refine kk H1 ⟨?_, ⟨Nat.le_trans hN.2.1.1 (by rw [hz, z1]; omega), fun x h1 h2 => (o1 x (by rw [← hz]; exact Nat.lt_of_lt_of_le h1 hN.2.1.1)).trans (hN.2.1.2.1 x h1 h2), hN.2.1.2.2⟩, by have := hN.2.2.1; rw [← List.append_assoc, List.length_append]; simp only [List.length_cons, List.length_nil]; omega, by rw [z1, ← List.append_assoc, List.length_append]; simp only [List.length_cons, List.length_nil]; omega⟩
  rw [← List.append_assoc, am_gw_push]
  refine (hN.1.kept fun k x hx => o1 x.1 (by rw [← hz]; exact (hN.1 k x hx).lt)).app fun k x hx => ?_
  have hk0 : k < 1 := (List.getElem?_eq_some_iff.mp hx).1
  rw [show k = 0 by omega] at hx
  cases hx
  exact ⟨_, hc, (u_born ty hts hin hKn hkC e1 hty).to hfs⟩
theorem am_nnewa (hx : p.tables.exec = Jvm.exec) (hb : c.code = cc) (hts : ∀ w ∈ am_T, w.before args s = true) (hK : va_K G.2.2.1 vwCl (am_tys G) s) (hN : am_N G (pre ++ L) s H locs cells) {atype : ArrayType} (harr : Cond.arrayClass (newarray.typeOf atype) ∈ am_T) {t : Nat} (ht : (am_tys G)[t]? = some (G.2.1 t, newarray.typeOf atype)) {n : Int32} {N' : Nat} {a0 : vp_A} (ha : ∀ cA : ClassId, vp_cell cA a0 = arrV cA N' (fun _ => defaultValue (newarray.typeOf atype))) (hn : ¬ n < 0) (hNn : n.toNatClampNeg = N') (hbytes : N' * componentBytes (newarray.typeOf atype) ≤ 536870912) (hcells : cells + 1 ≤ R.cells) (hslots : slots + N' ≤ R.slots) {q : Nat} (hq : L.length = q) (hL : L ++ [.inl (G.2.1 t, a0)] = L') (hdg : decode cc pc = .ok (.newarray atype, 2))
    (kk : ∀ H : Heap, am_N G (pre ++ L') s H locs (cells + 1) → W p l e R s m args below meth c H locs (cells + 1) (slots + N') Q (F0 m (pc + 2) ls (.ref (G.1 + (pre.length + q)) :: rest))) : W p l e R s m args below meth c H locs cells slots Q (F0 m pc ls (.int n :: rest)) := by
  subst hL; subst hq
  refine am_sz hN fun hz => ?_
  have hlen : (pre ++ L).length = pre.length + L.length := List.length_append
  refine va_newaK hx hb (hts _ harr) rfl hdg rfl hn hNn hbytes hcells hslots hz fun H1 cA e1 z1 o1 hAr hNm => ?_
  have hcA : cA = G.2.1 t := by
    have h2 := (hK.2 t _ ht).2
    have h3 : s.vm.findClass ("[" ++ (newarray.typeOf atype).toString) = some (G.2.1 t) := by
      cases atype <;> exact h2
    exact Option.some.inj (hNm.symm.trans h3)
  rw [hlen]
  refine kk H1 ⟨?_, ⟨Nat.le_trans hN.2.1.1 (by rw [hz, z1]; omega), fun x h1 h2 => (o1 x (by rw [← hz]; exact Nat.lt_of_lt_of_le h1 hN.2.1.1)).trans (hN.2.1.2.1 x h1 h2), hN.2.1.2.2⟩, by have := hN.2.2.1; rw [← List.append_assoc, List.length_append]; simp only [List.length_cons, List.length_nil]; omega, by rw [z1, ← List.append_assoc, List.length_append]; simp only [List.length_cons, List.length_nil]; omega⟩
  rw [← List.append_assoc, am_gw_push]
  refine (hN.1.kept fun k x hx => o1 x.1 (by rw [← hz]; exact (hN.1 k x hx).lt)).app fun k x hx => ?_
  have hk0 : k < 1 := (List.getElem?_eq_some_iff.mp hx).1
  rw [show k = 0 by omega] at hx
  cases hx
  show H1[G.1 + (pre ++ L).length]? = some (vp_cell _ _)
  rw [ha, ← hcA]
  exact e1
theorem am_nanew (hx : p.tables.exec = Jvm.exec) (hb : c.code = cc) (hts : ∀ w ∈ am_T, w.before args s = true) (hK : va_K G.2.2.1 vwCl (am_tys G) s) {own C : String} (hown : s.vm.findClass own = some m.cls) (hover : va_AO C s) (hN : am_N G (pre ++ L) s H locs cells) {t index : Nat} (ht : (am_tys G)[t]? = some (G.2.1 t, .object C)) (hcl : Cond.classLink own index C ∈ am_T) {n : Int32} {N' : Nat} (hn : ¬ n < 0) (hNn : n.toNatClampNeg = N') (hbytes : N' * 4 ≤ 536870912) (hcells : cells + 1 ≤ R.cells) (hslots : slots + N' ≤ R.slots) {q : Nat} (hq : L.length = q) (hL : L ++ [.inl (G.2.1 t, N', .inr (.inr (.inr (.inr (fun _ => none)))))] = L') (hdg : decode cc pc = .ok (.anewarray index, 3))
    (kk : ∀ H : Heap, am_N G (pre ++ L') s H locs (cells + 1) → W p l e R s m args below meth c H locs (cells + 1) (slots + N') Q (F0 m (pc + 3) ls (.ref (G.1 + (pre.length + q)) :: rest))) : W p l e R s m args below meth c H locs cells slots Q (F0 m pc ls (.int n :: rest)) := by
  subst hL; subst hq; subst hNn
  refine am_sz hN fun hz => ?_
  have hlen : (pre ++ L).length = pre.length + L.length := List.length_append
  refine W.anew hx hb hown (hts _ hcl) (va_AO.use hover) rfl hdg rfl hn hbytes hcells hslots fun cA kA comp f1 f2 f3 f4 => ?_
  generalize hH1 : H.push ({ cls := cA, slots := Array.replicate n.toNatClampNeg .null, vm := .none } : Cell) = H1
  have z1 : H1.size = H.size + 1 := by rw [← hH1, Array.size_push]
  have e1 : H1[H.size]? = some (arrV cA n.toNatClampNeg (fun _ => .null)) := by rw [← hH1, Array.getElem?_push_size, ← arrV_new]
  have o1 : ∀ q : Nat, q < H.size → H1[q]? = H[q]? := fun q hq => by rw [← hH1, Array.getElem?_push, if_neg (Nat.ne_of_lt hq)]
  have hcA : cA = G.2.1 t := by
    obtain ⟨kB, compB, -, -, -, h3⟩ := (hK.2 t _ ht).2
    exact Option.some.inj (f1.symm.trans h3)
  have hz' : H.size = G.1 + (pre.length + L.length) := by rw [hz, hlen]
  show W p l e R s m args below meth c H1 locs (cells + 1) (slots + n.toNatClampNeg) Q (F0 m (pc + 3) ls (.ref H.size :: rest))
  rw [hz']
  refine kk H1 ⟨?_, ⟨Nat.le_trans hN.2.1.1 (by omega), fun x h1 h2 => (o1 x (Nat.lt_of_lt_of_le h1 hN.2.1.1)).trans (hN.2.1.2.1 x h1 h2), hN.2.1.2.2⟩, by have := hN.2.2.1; rw [← List.append_assoc, List.length_append]; simp only [List.length_cons, List.length_nil]; omega, by rw [z1, hz', ← List.append_assoc, List.length_append, hlen]; simp only [List.length_cons, List.length_nil]; omega⟩
  rw [← List.append_assoc, am_gw_push]
  refine (hN.1.kept fun k x hx => o1 x.1 ((hN.1 k x hx).lt)).app fun k x hx => ?_
  have hk0 : k < 1 := (List.getElem?_eq_some_iff.mp hx).1
  rw [show k = 0 by omega] at hx
  cases hx
  show H1[G.1 + (pre ++ L).length]? = some (vp_cell _ _)
  rw [← hcA, ← hz]
  exact e1
theorem am_nput (hx : p.tables.exec = Jvm.exec) (hb : c.code = cc) (hts : ∀ w ∈ am_T, w.before args s = true) (hK : va_K G.2.2.1 vwCl (am_tys G) s) {own C : String} (hown : s.vm.findClass own = some m.cls) (hN : am_N G (pre ++ L) s H locs cells) (i : Nat) {T : u_T} {N ci index : Nat} {fs : List Value} (he : L[i]? = some (.inr (ci, fs))) (hc : vwCl[ci]? = some (C, T, N)) (hin : ∀ w ∈ u_ws C T N, w ∈ am_T) (ty0 : Nat → FieldType) (hty : ∀ k, k < N → parseFieldDescriptor (T k).2.2.1 = some (ty0 k)) (hnm : ∀ a, a < N → ∀ b, b < N → a ≠ b → (T a).2.1 ≠ (T b).2.1) (k : Nat) (hk : k < N) (hlink : Cond.fieldLink own index (T k).1 (T k).2.1 (T k).2.2.1 ∈ am_T) (hfin : (T k).2.2.2 = true) (hin2 : meth.name = "<init>") (hdecl : (T k).1 = own) {v : Value} (hn : narrow (ty0 k) v = v) (hfit : fits (ty0 k) v = true) (hl : k < fs.length) (hL : L.set i (.inr (ci, fs.set k v)) = L') (hdg : decode cc pc = .ok (.putfield index, 3))
    (kk : ∀ (H : Heap) (locs : List Loc), am_N G (pre ++ L') s H locs cells → W p l e R s m args below meth c H locs cells slots Q (F0 m (pc + 3) ls rest)) : W p l e R s m args below meth c H locs cells slots Q (F0 m pc ls (v :: .ref (G.1 + (pre.length + i)) :: rest)) := by
  subst hL
  have hi : (pre ++ L)[pre.length + i]? = some (.inr (ci, fs)) := by rw [List.getElem?_append_right (Nat.le_add_right _ _), Nat.add_sub_cancel_left]; exact he
  refine va_putF hx hb hts hin ty0 hty hnm hown hK hN.1 am_gw_D hN.2.1 (pre.length + i) (am_gw_at hi) hc k hk (hts _ hlink) (fun _ h => h) hfin hin2 hdecl (hty k hk) hn hfit hl hdg (fun H1 locs1 hP _ hS => kk H1 locs1 ?_)
  have hset : (pre ++ L).set (pre.length + i) (.inr (ci, fs.set k v)) = pre ++ L.set i (.inr (ci, fs.set k v)) := by rw [List.set_append_right _ _ (Nat.le_add_right _ _), Nat.add_sub_cancel_left]
  rw [am_gw_set, hset] at hP
  have hlen : (pre ++ L.set i (.inr (ci, fs.set k v))).length = (pre ++ L).length := by simp
  refine ⟨hP, hS, by rw [hlen]; exact hN.2.2.1, am_low hP ?_⟩
  intro h0
  rw [h0] at hlen
  have hii := (List.getElem?_eq_some_iff.mp hi).1
  simp only [List.length_nil] at hlen
  omega
theorem am_nget (hx : p.tables.exec = Jvm.exec) (hb : c.code = cc) (hts : ∀ w ∈ am_T, w.before args s = true) (hK : va_K G.2.2.1 vwCl (am_tys G) s) {own C : String} (hown : s.vm.findClass own = some m.cls) (hN : am_N G (pre ++ L) s H locs cells) (i : Nat) {T : u_T} {N ci index : Nat} {fs : List Value} (he : L[i]? = some (.inr (ci, fs))) (hc : vwCl[ci]? = some (C, T, N)) (hin : ∀ w ∈ u_ws C T N, w ∈ am_T) (k : Nat) (hk : k < N) (hlink : Cond.fieldLink own index (T k).1 (T k).2.1 (T k).2.2.1 ∈ am_T) {v : Value} (hv : fs[k]? = some v) (hdg : decode cc pc = .ok (.getfield index, 3))
    (kk : W p l e R s m args below meth c H locs cells slots Q (F0 m (pc + 3) ls (v :: rest))) : W p l e R s m args below meth c H locs cells slots Q (F0 m pc ls (.ref (G.1 + (pre.length + i)) :: rest)) := by
  have hi : (pre ++ L)[pre.length + i]? = some (.inr (ci, fs)) := by rw [List.getElem?_append_right (Nat.le_add_right _ _), Nat.add_sub_cancel_left]; exact he
  exact va_get hx hb hts hin hown hK hN.1 (pre.length + i) (am_gw_at hi) hc k hk (hts _ hlink) (fun _ h => h) hv hdg kk
theorem am_naast (hx : p.tables.exec = Jvm.exec) (hb : c.code = cc) (hK : va_K G.2.2.1 vwCl (am_tys G) s) (hN : am_N G (pre ++ L) s H locs cells) (i j : Nat) {t ci n : Nat} {r : vw_C} {vs : List Value} {f : Nat → Option Nat} (he : L[i]? = some (.inl (G.2.1 t, n, .inr (.inr (.inr (.inr f)))))) (ht : (am_tys G)[t]? = some (G.2.1 t, .object r.1)) (hv : L[j]? = some (.inr (ci, vs))) (hc : vwCl[ci]? = some r) {x : Int32} (hin : vp_in x n) (hL : L.set i (.inl (G.2.1 t, n, .inr (.inr (.inr (.inr (va_up f x.toNatClampNeg (some (G.1 + (pre.length + j))))))))) = L') (hdg : decode cc pc = .ok (.aastore, 1))
    (kk : ∀ (H : Heap) (locs : List Loc), am_N G (pre ++ L') s H locs cells → W p l e R s m args below meth c H locs cells slots Q (F0 m (pc + 1) ls rest)) : W p l e R s m args below meth c H locs cells slots Q (F0 m pc ls (.ref (G.1 + (pre.length + j)) :: .int x :: .ref (G.1 + (pre.length + i)) :: rest)) := by
  subst hL
  have hi : (pre ++ L)[pre.length + i]? = some (.inl (G.2.1 t, n, .inr (.inr (.inr (.inr f))))) := by rw [List.getElem?_append_right (Nat.le_add_right _ _), Nat.add_sub_cancel_left]; exact he
  have hj : (pre ++ L)[pre.length + j]? = some (.inr (ci, vs)) := by rw [List.getElem?_append_right (Nat.le_add_right _ _), Nat.add_sub_cancel_left]; exact hv
  refine va_astq hx hb hK hN.1 am_gw_D hN.2.1 (pre.length + i) t (pre.length + j) ci (am_gw_at hi) ht (am_gw_at hj) hc hin hdg (fun H1 locs1 hP _ hS => kk H1 locs1 ?_)
  have hset : ∀ y, (pre ++ L).set (pre.length + i) y = pre ++ L.set i y := fun y => by rw [List.set_append_right _ _ (Nat.le_add_right _ _), Nat.add_sub_cancel_left]
  rw [am_gw_set, hset] at hP
  refine ⟨hP, hS, by rw [List.length_append, List.length_set, ← List.length_append]; exact hN.2.2.1, am_low hP ?_⟩
  intro h0
  have hii := (List.getElem?_eq_some_iff.mp hi).1
  have hlen := congrArg List.length h0
  rw [List.length_append, List.length_set, ← List.length_append] at hlen
  simp only [List.length_nil] at hlen
  omega
/-- a constructor's own beginning -/
theorem am_beginN {y : MethodName} {bytes : ByteArray} {maxL : Nat} {ret : Option FieldType} {rm : Room} {s₁ : State} {av : List Value} (B : BodyLoose p l y (headSpec (Cond.code y bytes maxL ret :: am_T) rm) bytes maxL ret e s m args below meth c s₁) (hv : va_Pc av (am_BN G cs) args s) :
    args = av.toArray ∧ p.tables.exec = Jvm.exec ∧ c.code = bytes ∧ meth.sig.returnType = ret ∧ (∀ w ∈ am_T, w.before args s = true) ∧ s.vm.findClass y.cls = some m.cls ∧ meth.locks = false ∧ meth.name = y.name ∧ va_K G.2.2.1 vwCl (am_tys G) s ∧ am_XW s ∧ am_N G cs s s.heap [] 0 := by
  obtain ⟨h1, h2, h3, h4, h5⟩ := hv
  exact ⟨h1, B.exec, B.bytes, B.returns, fun w hw => atoms_spec (ws := Cond.code y bytes maxL ret :: am_T) B.pre w (List.mem_cons_of_mem _ hw), findClass_of_methodNamed B.named, B.notSynchronized, (name_of_methodNamed B.named B.method).1, h3, h4, h2, va_S.rf, by rw [h5]; rfl, by rw [h5]; exact Nat.le_refl _⟩
theorem am_retN {cs' : List va_E} (hx : p.tables.exec = Jvm.exec) (hb : c.code = cc) (hr : meth.sig.returnType = none) (hlocks : meth.locks = false) (hN : am_N G cs s H locs cells) (hcs : cs = cs') (hdg : decode cc pc = .ok (.return_, 1)) : W p l e R s m args below meth c H locs cells slots (MQ below (va_Qv (fun (_ : Unit) => True) (fun _ t => va_P G.2.2.1 vwCl (am_gw G.1 cs') t.heap) (am_A G)) args s cells slots (am_A G)) (F0 m pc ls []) := by
  subst hcs
  exact W.vret hx hb hr (fun t ht _ => ⟨⟨(), rfl, trivial, (by rw [ht]; exact hN.1 : va_P G.2.2.1 vwCl (am_gw G.1 cs) t.heap)⟩, hN.2.1.F ht⟩) hN.2.1.2.2 hdg hlocks
variable {nL n index maxL mc ms q : Nat} {own host : String} {y : MethodName} {bytes : ByteArray} {rm : Room} {As st0 : List Value} {cs' : List va_E}
theorem am_BN_at (hN : am_N G cs s H locs cells) (hz : H.size = G.1 + cs.length) (hK : va_K G.2.2.1 vwCl (am_tys G) s) (hX : am_XW s) {av : List Value} : ∀ U : State, U.heap = H → s.WarmedH U.vm → va_Pc av (am_BN G cs) av.toArray U :=
  fun U hU hW => ⟨rfl, by rw [hU]; exact hN.1, va_K.moved hW.alike hK, am_XW.warm hW hX, by rw [hU]; exact hz⟩
theorem am_callN {a : Array Value} (hr : va_Run p l e R s m args below meth c H locs cells slots mc ms (F0 m pc ls st0) rest (va_Qv (fun (_ : Unit) => True) (fun _ t => va_P G.2.2.1 vwCl (am_gw G.1 cs') t.heap) (am_A G) a) (am_A G)) (hN : am_N G cs s H locs cells) (hlen : cs'.length = cs.length + mc) (hne : cs' ≠ []) (kk : ∀ (H : Heap) (locs : List Loc), am_N G cs' s H locs (cells + mc) → W p l e R s m args below meth c H locs (cells + mc) (slots + ms) Q (F0 m (pc + 3) ls rest)) : W p l e R s m args below meth c H locs cells slots Q (F0 m pc ls st0) :=
  va_callv hr hN.2.1 (fun _ _ h => h) (fun _ h => h) (fun u t H1 locs1 ht _ _ hB _ _ hS => by
    rw [ht] at hB
    exact kk H1 locs1 ⟨hB, hS, by have := hN.2.2.1; rw [hlen]; omega, am_low hB hne⟩)
theorem am_runIn (S : CallFix p m c cc nL s args am_T own) (hK : va_K G.2.2.1 vwCl (am_tys G) s) (hX : am_XW s) (hN : am_N G cs s H locs cells) (hz : H.size = G.1 + cs.length) (hM : am_MI G l y (Cond.code y bytes maxL none :: am_T) rm (.ref q :: As) cs cs' mc ms) (hcode : Cond.code y bytes maxL none ∈ am_T) (hl : Cond.methodLinkNest own index y host ∈ am_xw) (hini : Cond.initialized y.cls ∈ am_T) (hinst : Cond.instanceMethod y ∈ am_T) (hy : y.name = "<init>") (hrc : rm.cells = mc ∧ rm.slots = ms)
    (hd : y.cls ≠ "java/lang/invoke/MethodHandle" ∧ y.cls ≠ "java/lang/invoke/VarHandle" ∧ (parseMethodDescriptor y.desc).map (fun d => d.parameters.length) = some n) (hR : rm.frames + 1 ≤ R.frames ∧ 8 + (maxL + 11) + rm.locals ≤ R.locals) (hn : As.length = n) (hls : ls.size = nL) (hst : st0 = As.reverse ++ .ref q :: rest) (hW : (rest.map fun v => v.category).sum ≤ 8) (hf : cells + mc ≤ R.cells ∧ slots + ms ≤ R.slots) (hdg : decode cc pc = .ok (.invokespecial index, 3)) :
    va_Run p l e R s m args below meth c H locs cells slots mc ms (F0 m pc ls st0) rest (va_Qv (fun (_ : Unit) => True) (fun _ t => va_P G.2.2.1 vwCl (am_gw G.1 cs') t.heap) (am_A G) (Value.ref q :: As).toArray) (am_A G) :=
  va_runIN (host := host) S hM ⟨va_cnB n S.2.2.2.2 (am_goodC hcode) rfl hrc.1 hrc.2 (hX.1 _ hl) (S.2.2.2.2 _ hini) hd hR, hy, S.2.2.2.2 _ hinst⟩ ⟨am_blindN, am_BN_at hN hz hK hX⟩ rfl hn hls hst (lv_room hW) hdg hf
theorem am_runIo (S : CallFix p m c cc nL s args am_T own) (hK : va_K G.2.2.1 vwCl (am_tys G) s) (hX : am_XW s) (hN : am_N G cs s H locs cells) (hz : H.size = G.1 + cs.length) (hM : am_MI G l y (Cond.code y bytes maxL none :: am_T) rm (.ref q :: As) cs cs' mc ms) (hcode : Cond.code y bytes maxL none ∈ am_T) (hl : Cond.methodLink own index y ∈ am_T) (hini : Cond.initialized y.cls ∈ am_T) (hinst : Cond.instanceMethod y ∈ am_T) (hy : y.name = "<init>") (hrc : rm.cells = mc ∧ rm.slots = ms)
    (hd : y.cls ≠ "java/lang/invoke/MethodHandle" ∧ y.cls ≠ "java/lang/invoke/VarHandle" ∧ (parseMethodDescriptor y.desc).map (fun d => d.parameters.length) = some n) (hR : rm.frames + 1 ≤ R.frames ∧ 8 + (maxL + 11) + rm.locals ≤ R.locals) (hn : As.length = n) (hls : ls.size = nL) (hst : st0 = As.reverse ++ .ref q :: rest) (hW : (rest.map fun v => v.category).sum ≤ 8) (hf : cells + mc ≤ R.cells ∧ slots + ms ≤ R.slots) (hdg : decode cc pc = .ok (.invokespecial index, 3)) :
    va_Run p l e R s m args below meth c H locs cells slots mc ms (F0 m pc ls st0) rest (va_Qv (fun (_ : Unit) => True) (fun _ t => va_P G.2.2.1 vwCl (am_gw G.1 cs') t.heap) (am_A G) (Value.ref q :: As).toArray) (am_A G) :=
  va_runI S hM (cwI n S.2.2.2.2 (am_goodC hcode) rfl hrc.1 hrc.2 (S.2.2.2.2 _ hini) (S.2.2.2.2 _ hl) (S.2.2.2.2 _ hinst) hy hd hR) ⟨am_blindN, am_BN_at hN hz hK hX⟩ rfl hn hls hst (lv_room hW) hdg hf
end AMN
