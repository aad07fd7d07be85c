/-! The world: the state of class and reference behind their constructors, by places (0 .. 290: the order in which the cells are made); ints, longs and floats by place and index. -/
abbrev am_S : Type := (Nat → Nat → Int32) × (Nat → Nat → Int64) × (Nat → Nat → UInt32)
def am_pi (w : am_S) (p k : Nat) (v : Int32) : am_S := (fun q j => if q = p ∧ j = k then v else w.1 q j, w.2.1, w.2.2)
def am_pl (w : am_S) (p k : Nat) (v : Int64) : am_S := (w.1, fun q j => if q = p ∧ j = k then v else w.2.1 q j, w.2.2)
def am_pf (w : am_S) (p k : Nat) (v : UInt32) : am_S := (w.1, w.2.1, fun q j => if q = p ∧ j = k then v else w.2.2 q j)
/-- n ints from place p at sp to place q at dp -/
def am_ci (w : am_S) (p sp q dp n : Nat) : am_S := (fun r j => if r = q then va_cpy (w.1 p) (w.1 q) sp dp n j else w.1 r j, w.2.1, w.2.2)
def am_cx (w : am_S) (f : Nat → Int32) (sp q dp n : Nat) : am_S := (fun r j => if r = q then va_cpy f (w.1 q) sp dp n j else w.1 r j, w.2.1, w.2.2)
def am_cl (w : am_S) (p sp q dp n : Nat) : am_S := (w.1, fun r j => if r = q then va_cpy (w.2.1 p) (w.2.1 q) sp dp n j else w.2.1 r j, w.2.2)
/-- the kind of each place: 0 .. 12 an object of that class of vwCl; 100 + 8 * length + (0 char, 1 float, 2 int, 3 long, 4 Script, 5 State) an array -/
def am_kinds : List Nat := [11, 10, 2020, 1, 142, 182, 182, 182, 182, 182, 158, 1, 142, 182, 182, 182, 182, 182, 158, 8, 230, 230, 136, 9, 182, 183, 342, 126, 9, 182, 183, 342, 126, 9, 182, 183, 342, 126, 4, 902, 902, 902, 4, 902, 902, 902, 3, 425, 9, 182, 183, 342, 126, 9, 182, 183, 342, 126, 9, 182, 183, 342, 126, 9, 182, 183, 342, 126, 9, 182, 183, 342, 126, 9, 182, 183, 342, 126, 9, 182, 183, 342, 126, 9, 182, 183, 342, 126, 9, 182, 183, 342, 126, 9, 182, 183, 342, 126, 9, 182, 183, 342, 126, 9, 182, 183, 342, 126, 9, 182, 183, 342, 126, 9, 182, 183, 342, 126, 9, 182, 183, 342, 126, 9, 182, 183, 342, 126, 9, 182, 183, 342, 126, 9, 182, 183, 342, 126, 9, 182, 183, 342, 126, 9, 182, 183, 342, 126, 9, 182, 183, 342, 126, 9, 182, 183, 342, 126, 9, 182, 183, 342, 126, 9, 182, 183, 342, 126, 9, 182, 183, 342, 126, 9, 182, 183, 342, 126, 9, 182, 183, 342, 126, 9, 182, 183, 342, 126, 9, 182, 183, 342, 126, 9, 182, 183, 342, 126, 9, 182, 183, 342, 126, 9, 182, 183, 342, 126, 9, 182, 183, 342, 126, 9, 182, 183, 342, 126, 9, 182, 183, 342, 126, 9, 182, 183, 342, 126, 9, 182, 183, 342, 126, 9, 182, 183, 342, 126, 9, 182, 183, 342, 126, 9, 182, 183, 342, 126, 134, 0, 7, 181, 8293, 8294, 486, 2, 0, 6, 5, 8, 230, 230, 8, 230, 230, 8, 230, 230, 8, 230, 230, 12, 2022, 134, 502, 198, 134, 502, 158, 1382, 142, 2062, 134, 181, 182, 78502, 350, 486, 182, 2062, 111]
def am_kd (p : Nat) : Nat := am_kinds.getD p 99
theorem am_kinds_len : am_kinds.length = 291 := by decide +kernel
theorem am_lt {p : Nat} (h : am_kd p ≠ 99) : p < 291 := by
  rcases Nat.lt_or_ge p 291 with q | q
  · exact q
  · exact absurd (by unfold am_kd; rw [List.getD_eq_getElem?_getD, List.getElem?_eq_none (by rw [am_kinds_len]; exact q)]; rfl) h
def am_co (b p kd : Nat) (n : Nat → Int32) (l : Nat → Int64) : Nat × List Value := match kd with
  | 0 => (0, [.long (l 0)])
  | 1 => (1, [.ref (b + (p + 1)), .ref (b + (p + 2)), .ref (b + (p + 3)), .ref (b + (p + 4)), .ref (b + (p + 5)), .ref (b + (p + 6)), .ref (b + (p + 7)), .int (n 7), .int (n 8), .int (n 9), .int (n 10), .int (n 11), .int (n 12), .int (n 13), .int (n 14)])
  | 2 => (2, [.ref (b + 11), .ref (b + 250), .ref (b + 256)])
  | 3 => (3, [.ref (b + 47), .int (n 1), .int (n 2)])
  | 4 => (4, [.ref (b + (p + 1)), .ref (b + (p + 2)), .ref (b + (p + 3)), .int (n 3)])
  | 5 => (5, [.ref (b + 11)])
  | 6 => (6, [.ref (b + 11), .ref (b + 250)])
  | 7 => (7, [.ref (b + 11), .ref (b + 251), .ref (b + 252), .ref (b + 253), .ref (b + 254), .int (n 5), .int (n 6)])
  | 8 => (8, [.ref (b + (p + 1)), .ref (b + (p + 2)), .int (n 2)])
  | 9 => (9, [.ref (b + (p + 1)), .ref (b + (p + 2)), .ref (b + (p + 3)), .ref (b + (p + 4)), .int (n 4)])
  | 10 => (10, [.ref (b + 2), .int (n 1), .int (n 2), .int (n 3)])
  | 11 => (11, [.ref (b + 1), .ref (b + 3), .ref (b + 11), .ref (b + 19), .ref (b + 22), .ref (b + 23), .ref (b + 28), .ref (b + 33), .ref (b + 38), .ref (b + 42), .ref (b + 46), .ref (b + 248), .ref (b + 249), .ref (b + 250), .ref (b + 255), .ref (b + 257), .ref (b + 258), .int (n 17), .int (n 18)])
  | 12 => (12, [.int (n 0), .ref (b + 272), .int (n 2), .int (n 3), .int (n 4), .ref (b + 273), .ref (b + 274), .ref (b + 275), .int (n 8), .int (n 9), .ref (b + 276), .ref (b + 277), .ref (b + 278), .int (n 13), .ref (b + 279), .ref (b + 280), .int (n 16), .ref (b + 281), .ref (b + 282), .ref (b + 283), .long (l 20), .ref (b + 284), .ref (b + 285), .int (n 23), .long (l 24), .ref (b + 286), .ref (b + 287), .ref (b + 288), .ref (b + 289), .int (n 29)])
  | _ => (0, [])
def am_ca (b kd : Nat) (cy : Nat → ClassId) (n : Nat → Int32) (l : Nat → Int64) (f : Nat → UInt32) : ClassId × vp_A := match kd % 8 with
  | 0 => (cy 0, kd / 8, .inl n)
  | 1 => (cy 1, kd / 8, .inr (.inr (.inl f)))
  | 2 => (cy 2, kd / 8, .inl n)
  | 3 => (cy 3, kd / 8, .inr (.inl l))
  | 4 => (cy 4, kd / 8, .inr (.inr (.inr (.inr (fun i => some (b + (259 + 3 * i)))))))
  | _ => (cy 5, kd / 8, .inr (.inr (.inr (.inr (fun i => some (b + (48 + 5 * i)))))))
def am_ck (b : Nat) (cy : Nat → ClassId) (kd p : Nat) (n : Nat → Int32) (l : Nat → Int64) (f : Nat → UInt32) : va_E := if kd < 100 then .inr (am_co b p kd n l) else .inl (am_ca b (kd - 100) cy n l f)
/-- the launch's own numbers: where the world begins, its array classes, its classes, static arrays, String constants and their bytes -/
abbrev am_G : Type := Nat × (Nat → ClassId) × va_G × (Nat → Nat) × (Nat → Nat) × (Nat → Nat)
def am_ws (G : am_G) (w : am_S) : va_W := (List.range 291).map (fun p => (G.1 + p, am_ck G.1 G.2.1 (am_kd p) p (w.1 p) (w.2.1 p) (w.2.2 p)))
theorem am_ws_len {G : am_G} {w : am_S} : (am_ws G w).length = 291 := by simp [am_ws]
theorem am_ws_at {G : am_G} {w : am_S} {p : Nat} (h : p < 291) : (am_ws G w)[p]? = some (G.1 + p, am_ck G.1 G.2.1 (am_kd p) p (w.1 p) (w.2.1 p) (w.2.2 p)) := by
  unfold am_ws
  rw [List.getElem?_map, List.getElem?_range h]
  rfl
theorem am_ws_set {G : am_G} {w w' : am_S} {p : Nat} {e : va_E} (h : p < 291) (he : e = am_ck G.1 G.2.1 (am_kd p) p (w'.1 p) (w'.2.1 p) (w'.2.2 p)) (ho : ∀ q, q ≠ p → w'.1 q = w.1 q ∧ w'.2.1 q = w.2.1 q ∧ w'.2.2 q = w.2.2 q) : (am_ws G w).set p (G.1 + p, e) = am_ws G w' := by
  apply List.ext_getElem?
  intro k
  by_cases hk : k < 291
  · rw [am_ws_at hk]
    by_cases hp : k = p
    · subst hp
      rw [List.getElem?_set_self (by rw [am_ws_len]; exact hk), he]
    · rw [List.getElem?_set_ne (Ne.symm hp), am_ws_at hk, (ho k hp).1, (ho k hp).2.1, (ho k hp).2.2]
  · rw [List.getElem?_eq_none (by rw [List.length_set, am_ws_len]; omega), List.getElem?_eq_none (by rw [am_ws_len]; omega)]
theorem am_D {G : am_G} {w : am_S} : va_D (fun q => G.1 ≤ q) (am_ws G w) := by
  have key : ∀ (k : Nat) (q : Nat × va_E), (am_ws G w)[k]? = some q → q.1 = G.1 + k := by
    intro k q hq
    have hk : k < 291 := by
      have := (List.getElem?_eq_some_iff.mp hq).1
      rw [am_ws_len] at this
      exact this
    rw [am_ws_at hk] at hq
    rw [← Option.some.inj hq]
  refine ⟨fun i j p q hi hj e => ?_, fun k q hk => ?_⟩
  · have h1 := key i p hi
    have h2 := key j q hj
    omega
  · have h1 := key k q hk
    show G.1 ≤ q.1
    omega
def am_tys (G : am_G) : List (ClassId × FieldType) := [(G.2.1 0, .char), (G.2.1 1, .float), (G.2.1 2, .int), (G.2.1 3, .long), (G.2.1 4, .object "BurstPeeler$Script"), (G.2.1 5, .object "BurstPeeler$State")]
/-- static arrays: class, field, length, contents -/
def am_st : List (String × String × Nat × List Int32) := [("BurstPeeler$Field", "RULE_USUAL", 4, [8, 1, 0, 0]), ("BurstPeeler$Field", "RULE_LOW", 4, [2, 1, 0, 0]), ("BurstPeeler$Field", "RULE_HIGH", 4, [12, 4, 99, 99]), ("BurstPeeler$Field", "USER_LOW", 5, [1, 1, 0, 0, 0]), ("BurstPeeler$Field", "USER_HIGH", 5, [99, 9, 3, 4095, 4095]), ("BurstPeeler$Field", "USER_USUAL", 5, [10, 1, 0, 0, 0]), ("BurstPeeler$Field", "DEGREE_LOW", 2, [1, 1]), ("BurstPeeler$Field", "DEGREE_HIGH", 2, [6, 99]), ("BurstPeeler$Field", "DEGREE_USUAL", 2, [1, 1]), ("BurstPeeler$Script", "SORTS", 6, [0, 1, 2, 3, 6, 5])]
def am_sv (j i : Nat) : Int32 := ((am_st.getD j ("", "", 0, [])).2.2.2).getD i 0
/-- String constants: class, entry, text -/
def am_tx : List (String × Nat × String) := [("BurstPeeler$Field", 89, "nfcz"), ("BurstPeeler$Field", 101, "pgtab"), ("BurstPeeler$Field", 115, "kq"), ("BurstPeeler$Script", 38, "prtfxc")]
def am_tl : List Nat := [4, 5, 2, 6]
def am_tb : List (List Int32) := [[110, 102, 99, 122], [112, 103, 116, 97, 98], [107, 113], [112, 114, 116, 102, 120, 99]]
/-- what lies outside the world and is only read -/
def am_E (G : am_G) (U : State) (H : Heap) : Prop :=
  (∀ (j : Nat) (q : String × String × Nat × List Int32), am_st[j]? = some q → va_Z q.1 q.2.1 "[I" (.ref (G.2.2.2.1 j)) (fun q => G.1 ≤ q) U H ∧ va_T .int (G.2.2.2.1 j) q.2.2.1 (fun i => .int (am_sv j i)) (fun q => G.1 ≤ q) U H) ∧
  vk_S 4 am_tl am_tb G.2.2.2.2.1 G.2.2.2.2.2 (fun q => G.1 ≤ q) U H ∧
  (∀ (j : Nat) (q : String × Nat × String), am_tx[j]? = some q → vk_R q.1 q.2.1 q.2.2 (G.2.2.2.2.1 j) U) ∧
  va_Z "java/lang/String" "COMPACT_STRINGS" "Z" (.int 1) (fun q => G.1 ≤ q) U H ∧
  va_Z "java/lang/Math" "negativeZeroDoubleBits" "J" (.long (-9223372036854775808)) (fun q => G.1 ≤ q) U H
theorem am_E.warm {G : am_G} {s U : State} (hW : s.WarmedH U.vm) {H : Heap} (h : am_E G s H) : am_E G U H :=
  ⟨fun j q hj => ⟨va_Z.moved hW.alike (h.1 j q hj).1, va_T.moved hW.alike (h.1 j q hj).2⟩, vk_S.moved hW.alike h.2.1, fun j q hj => vk_R.warm hW (h.2.2.1 j q hj), va_Z.moved hW.alike h.2.2.2.1, va_Z.moved hW.alike h.2.2.2.2⟩
theorem am_E.same {G : am_G} {s U : State} (hv : U.vm = s.vm) {H : Heap} (h : am_E G s H) : am_E G U H := by
  have ha : s.vm.Alike U.vm := by rw [hv]; exact Vm.Alike.refl _
  exact ⟨fun j q hj => ⟨va_Z.moved ha (h.1 j q hj).1, va_T.moved ha (h.1 j q hj).2⟩, vk_S.moved ha h.2.1, fun j q hj => vk_R.same hv (h.2.2.1 j q hj), va_Z.moved ha h.2.2.2.1, va_Z.moved ha h.2.2.2.2⟩
theorem am_E.kept {G : am_G} {U : State} {H H1 : Heap} (h : am_E G U H) (hq : ∀ a : Nat, a < H.size → ¬ G.1 ≤ a → H1[a]? = H[a]?) : am_E G U H1 :=
  ⟨fun j q hj => ⟨(h.1 j q hj).1.kept hq, (h.1 j q hj).2.kept hq⟩, h.2.1.kept hq, h.2.2.1, h.2.2.2.1.kept hq, h.2.2.2.2.kept hq⟩
/-- the state of the world in a method's walk -/
def am_H (G : am_G) (w : am_S) (s : State) (H : Heap) (locs : List Loc) : Prop := va_P G.2.2.1 vwCl (am_ws G w) H ∧ va_S (fun q => G.1 ≤ q) s.heap H locs
/-- a method's start -/
def am_B (G : am_G) (w : am_S) (U : State) : Prop := va_P G.2.2.1 vwCl (am_ws G w) U.heap ∧ va_K G.2.2.1 vwCl (am_tys G) U ∧ am_E G U U.heap
def am_U (G : am_G) (u : am_S) (t : State) : Prop := va_P G.2.2.1 vwCl (am_ws G u) t.heap
abbrev am_A (G : am_G) : Nat → Prop := fun q => G.1 ≤ q
abbrev am_Pc (G : am_G) (av : List Value) (w : am_S) : Array Value → State → Prop := va_Pc av (am_B G w)
theorem am_blind {G : am_G} {av : List Value} {w : am_S} : FrameBlind (am_Pc G av w) := by
  intro a U g mk h
  obtain ⟨h1, h2, h3, h4⟩ := h
  exact ⟨h1, h2, va_K.moved (u := U) (U := U.calling g mk a) (Vm.Alike.refl U.vm) h3, am_E.same (s := U) rfl h4⟩
theorem am_B_at {G : am_G} {w : am_S} {s : State} {H : Heap} {locs : List Loc} (hH : am_H G w s H locs) (hK : va_K G.2.2.1 vwCl (am_tys G) s) (hE : am_E G s s.heap) {av : List Value} : ∀ U : State, U.heap = H → s.WarmedH U.vm → am_Pc G av w av.toArray U :=
  fun U hU hW => ⟨rfl, by rw [hU]; exact hH.1, va_K.moved hW.alike hK, by rw [hU]; exact am_E.warm hW (hE.kept hH.2.2.1)⟩
-- contracts: a method that returns an int (a long, a float, a double, nothing) and leaves the world w'
abbrev am_Mi (G : am_G) (l : Launch) (y : MethodName) (ws : List Cond) (rm : Room) (av : List Value) (w : am_S) (r : Int32) (w' : am_S) : Prop := Met l y ws rm (am_Pc G av w) (va_Qi (fun (x : Int32) (u : am_S) => x = r ∧ u = w') (am_U G) (am_A G)) 0 0 (am_A G)
abbrev am_Ml (G : am_G) (l : Launch) (y : MethodName) (ws : List Cond) (rm : Room) (av : List Value) (w : am_S) (r : Int64) (w' : am_S) : Prop := Met l y ws rm (am_Pc G av w) (va_Ql (fun (x : Int64) (u : am_S) => x = r ∧ u = w') (am_U G) (am_A G)) 0 0 (am_A G)
abbrev am_Mf (G : am_G) (l : Launch) (y : MethodName) (ws : List Cond) (rm : Room) (av : List Value) (w : am_S) (r : UInt32) (w' : am_S) : Prop := Met l y ws rm (am_Pc G av w) (va_Qf (fun (x : UInt32) (u : am_S) => x = r ∧ u = w') (am_U G) (am_A G)) 0 0 (am_A G)
abbrev am_Md (G : am_G) (l : Launch) (y : MethodName) (ws : List Cond) (rm : Room) (av : List Value) (w : am_S) (r : UInt64) (w' : am_S) : Prop := Met l y ws rm (am_Pc G av w) (va_Qd (fun (x : UInt64) (u : am_S) => x = r ∧ u = w') (am_U G) (am_A G)) 0 0 (am_A G)
abbrev am_Mv (G : am_G) (l : Launch) (y : MethodName) (ws : List Cond) (rm : Room) (av : List Value) (w : am_S) (w' : am_S) : Prop := Met l y ws rm (am_Pc G av w) (va_Qv (fun (u : am_S) => u = w') (am_U G) (am_A G)) 0 0 (am_A G)
-- the words: one list for all methods
def am_T : List Cond := lw_tbl.filter goodWord
theorem am_in {w : Cond} (i : Nat) (h : tables_1[i]? = some w) (hg : goodWord w = true) : w ∈ am_T := List.mem_filter.mpr ⟨List.mem_append_right _ (List.mem_of_getElem? h), hg⟩
theorem am_sel {q : MethodName × Nat} (i : Nat) (h : lw_privs[i]? = some q) (hg : goodWord (Cond.selects q.1.cls q.1 q.1) = true) : Cond.selects q.1.cls q.1 q.1 ∈ am_T := List.mem_filter.mpr ⟨List.mem_append_left _ (List.mem_map.mpr ⟨q, List.mem_of_getElem? h, rfl⟩), hg⟩
theorem am_goodT : GoodIn am_T am_T := fun w h => ⟨h, good_of_word (List.mem_filter.mp h).2⟩
/-- what a caller knows of a callee: its code is in the table -/
theorem am_goodC {c0 : Cond} (h : c0 ∈ am_T) : GoodIn am_T (c0 :: am_T) := fun w hw => (List.mem_cons.mp hw).elim (fun e => by rw [e]; exact am_goodT _ h) (am_goodT w)
theorem am_gV {c0 : Cond} {own C : String} {idx : Nat} {y : MethodName} (h1 : Cond.methodLink own idx y ∈ am_T) (h2 : Cond.instanceMethod y ∈ am_T) (h3 : Cond.selects C y y ∈ am_T) (h4 : Cond.initialized C ∈ am_T) (hc : c0 ∈ am_T) : GoodIn am_T (wsV own idx C y (c0 :: am_T)) := by
  refine goodIn_app (fun w hw => ?_) (am_goodC hc)
  simp only [List.mem_cons, List.not_mem_nil, or_false] at hw
  rcases hw with rfl | rfl | rfl | rfl
  · exact am_goodT _ h1
  · exact am_goodT _ h2
  · exact am_goodT _ h3
  · exact am_goodT _ h4
theorem am_gS {c0 : Cond} {own : String} {idx : Nat} {y : MethodName} (h1 : Cond.methodLink own idx y ∈ am_T) (h2 : Cond.static y ∈ am_T) (h4 : Cond.initialized y.cls ∈ am_T) (hc : c0 ∈ am_T) : GoodIn am_T (va_wsS own idx y (c0 :: am_T)) := by
  refine goodIn_app (fun w hw => ?_) (am_goodC hc)
  simp only [List.mem_cons, List.not_mem_nil, or_false] at hw
  rcases hw with rfl | rfl | rfl
  · exact am_goodT _ h1
  · exact am_goodT _ h2
  · exact am_goodT _ h4
-- objects and arrays of the world
def am_ob (G : am_G) (p ci : Nat) (g : (Nat → Int32) → (Nat → Int64) → List Value) : Prop := p < 291 ∧ ∀ n l f, am_ck G.1 G.2.1 (am_kd p) p n l f = .inr (ci, g n l)
def am_ai (G : am_G) (p N : Nat) : Prop := p < 291 ∧ ∀ n l f, am_ck G.1 G.2.1 (am_kd p) p n l f = .inl (G.2.1 2, N, .inl n)
def am_ac (G : am_G) (p N : Nat) : Prop := p < 291 ∧ ∀ n l f, am_ck G.1 G.2.1 (am_kd p) p n l f = .inl (G.2.1 0, N, .inl n)
def am_af (G : am_G) (p N : Nat) : Prop := p < 291 ∧ ∀ n l f, am_ck G.1 G.2.1 (am_kd p) p n l f = .inl (G.2.1 1, N, .inr (.inr (.inl f)))
def am_al (G : am_G) (p N : Nat) : Prop := p < 291 ∧ ∀ n l f, am_ck G.1 G.2.1 (am_kd p) p n l f = .inl (G.2.1 3, N, .inr (.inl l))
theorem am_ai_of {G : am_G} {p N : Nat} (h : am_kd p = 100 + 8 * N + 2) : am_ai G p N := ⟨am_lt (by rw [h]; omega), fun n l f => by
  rw [h]; unfold am_ck; rw [if_neg (by omega)]; unfold am_ca; rw [show (100 + 8 * N + 2 - 100) % 8 = 2 by omega, show (100 + 8 * N + 2 - 100) / 8 = N by omega]; rfl⟩
theorem am_ac_of {G : am_G} {p N : Nat} (h : am_kd p = 100 + 8 * N + 0) : am_ac G p N := ⟨am_lt (by rw [h]; omega), fun n l f => by
  rw [h]; unfold am_ck; rw [if_neg (by omega)]; unfold am_ca; rw [show (100 + 8 * N + 0 - 100) % 8 = 0 by omega, show (100 + 8 * N + 0 - 100) / 8 = N by omega]; rfl⟩
theorem am_af_of {G : am_G} {p N : Nat} (h : am_kd p = 100 + 8 * N + 1) : am_af G p N := ⟨am_lt (by rw [h]; omega), fun n l f => by
  rw [h]; unfold am_ck; rw [if_neg (by omega)]; unfold am_ca; rw [show (100 + 8 * N + 1 - 100) % 8 = 1 by omega, show (100 + 8 * N + 1 - 100) / 8 = N by omega]; rfl⟩
theorem am_al_of {G : am_G} {p N : Nat} (h : am_kd p = 100 + 8 * N + 3) : am_al G p N := ⟨am_lt (by rw [h]; omega), fun n l f => by
  rw [h]; unfold am_ck; rw [if_neg (by omega)]; unfold am_ca; rw [show (100 + 8 * N + 3 - 100) % 8 = 3 by omega, show (100 + 8 * N + 3 - 100) / 8 = N by omega]; rfl⟩

theorem am_o0 {G : am_G} {p : Nat} (h : am_kd p = 0) : am_ob G p 0 (fun n l => [.long (l 0)]) := ⟨am_lt (by rw [h]; decide), fun n l f => by rw [h]; rfl⟩
theorem am_o1 {G : am_G} {p : Nat} (h : am_kd p = 1) : am_ob G p 1 (fun n l => [.ref (G.1 + (p + 1)), .ref (G.1 + (p + 2)), .ref (G.1 + (p + 3)), .ref (G.1 + (p + 4)), .ref (G.1 + (p + 5)), .ref (G.1 + (p + 6)), .ref (G.1 + (p + 7)), .int (n 7), .int (n 8), .int (n 9), .int (n 10), .int (n 11), .int (n 12), .int (n 13), .int (n 14)]) := ⟨am_lt (by rw [h]; decide), fun n l f => by rw [h]; rfl⟩
theorem am_o2 {G : am_G} {p : Nat} (h : am_kd p = 2) : am_ob G p 2 (fun n l => [.ref (G.1 + 11), .ref (G.1 + 250), .ref (G.1 + 256)]) := ⟨am_lt (by rw [h]; decide), fun n l f => by rw [h]; rfl⟩
theorem am_o3 {G : am_G} {p : Nat} (h : am_kd p = 3) : am_ob G p 3 (fun n l => [.ref (G.1 + 47), .int (n 1), .int (n 2)]) := ⟨am_lt (by rw [h]; decide), fun n l f => by rw [h]; rfl⟩
theorem am_o4 {G : am_G} {p : Nat} (h : am_kd p = 4) : am_ob G p 4 (fun n l => [.ref (G.1 + (p + 1)), .ref (G.1 + (p + 2)), .ref (G.1 + (p + 3)), .int (n 3)]) := ⟨am_lt (by rw [h]; decide), fun n l f => by rw [h]; rfl⟩
theorem am_o5 {G : am_G} {p : Nat} (h : am_kd p = 5) : am_ob G p 5 (fun n l => [.ref (G.1 + 11)]) := ⟨am_lt (by rw [h]; decide), fun n l f => by rw [h]; rfl⟩
theorem am_o6 {G : am_G} {p : Nat} (h : am_kd p = 6) : am_ob G p 6 (fun n l => [.ref (G.1 + 11), .ref (G.1 + 250)]) := ⟨am_lt (by rw [h]; decide), fun n l f => by rw [h]; rfl⟩
theorem am_o7 {G : am_G} {p : Nat} (h : am_kd p = 7) : am_ob G p 7 (fun n l => [.ref (G.1 + 11), .ref (G.1 + 251), .ref (G.1 + 252), .ref (G.1 + 253), .ref (G.1 + 254), .int (n 5), .int (n 6)]) := ⟨am_lt (by rw [h]; decide), fun n l f => by rw [h]; rfl⟩
theorem am_o8 {G : am_G} {p : Nat} (h : am_kd p = 8) : am_ob G p 8 (fun n l => [.ref (G.1 + (p + 1)), .ref (G.1 + (p + 2)), .int (n 2)]) := ⟨am_lt (by rw [h]; decide), fun n l f => by rw [h]; rfl⟩
theorem am_o9 {G : am_G} {p : Nat} (h : am_kd p = 9) : am_ob G p 9 (fun n l => [.ref (G.1 + (p + 1)), .ref (G.1 + (p + 2)), .ref (G.1 + (p + 3)), .ref (G.1 + (p + 4)), .int (n 4)]) := ⟨am_lt (by rw [h]; decide), fun n l f => by rw [h]; rfl⟩
theorem am_o10 {G : am_G} {p : Nat} (h : am_kd p = 10) : am_ob G p 10 (fun n l => [.ref (G.1 + 2), .int (n 1), .int (n 2), .int (n 3)]) := ⟨am_lt (by rw [h]; decide), fun n l f => by rw [h]; rfl⟩
theorem am_o11 {G : am_G} {p : Nat} (h : am_kd p = 11) : am_ob G p 11 (fun n l => [.ref (G.1 + 1), .ref (G.1 + 3), .ref (G.1 + 11), .ref (G.1 + 19), .ref (G.1 + 22), .ref (G.1 + 23), .ref (G.1 + 28), .ref (G.1 + 33), .ref (G.1 + 38), .ref (G.1 + 42), .ref (G.1 + 46), .ref (G.1 + 248), .ref (G.1 + 249), .ref (G.1 + 250), .ref (G.1 + 255), .ref (G.1 + 257), .ref (G.1 + 258), .int (n 17), .int (n 18)]) := ⟨am_lt (by rw [h]; decide), fun n l f => by rw [h]; rfl⟩
theorem am_o12 {G : am_G} {p : Nat} (h : am_kd p = 12) : am_ob G p 12 (fun n l => [.int (n 0), .ref (G.1 + 272), .int (n 2), .int (n 3), .int (n 4), .ref (G.1 + 273), .ref (G.1 + 274), .ref (G.1 + 275), .int (n 8), .int (n 9), .ref (G.1 + 276), .ref (G.1 + 277), .ref (G.1 + 278), .int (n 13), .ref (G.1 + 279), .ref (G.1 + 280), .int (n 16), .ref (G.1 + 281), .ref (G.1 + 282), .ref (G.1 + 283), .long (l 20), .ref (G.1 + 284), .ref (G.1 + 285), .int (n 23), .long (l 24), .ref (G.1 + 286), .ref (G.1 + 287), .ref (G.1 + 288), .ref (G.1 + 289), .int (n 29)]) := ⟨am_lt (by rw [h]; decide), fun n l f => by rw [h]; rfl⟩
theorem am_lays {ws : List Cond} (is : List Nat) (h : ws = is.filterMap (fun i => tables_1[i]?)) (hg : ws.all goodWord = true) : ∀ w ∈ ws, w ∈ am_T := by
  intro w hw
  have h1 := List.all_eq_true.mp hg w hw
  rw [h] at hw
  obtain ⟨i, -, hi⟩ := List.mem_filterMap.mp hw
  exact am_in i hi h1
-- one row of the world changes
theorem am_pi_row {w : am_S} {o k : Nat} {v : Int32} : (am_pi w o k v).1 o = upd (w.1 o) k v := by funext j; simp [am_pi, upd]
theorem am_pl_row {w : am_S} {o k : Nat} {v : Int64} : (am_pl w o k v).2.1 o = vp_updL (w.2.1 o) k v := by funext j; simp [am_pl, vp_updL]
theorem am_pf_row {w : am_S} {o k : Nat} {v : UInt32} : (am_pf w o k v).2.2 o = vf_upd (w.2.2 o) k v := by funext j; simp [am_pf, vf_upd]
theorem am_pi_oth {w : am_S} {o k : Nat} {v : Int32} (q : Nat) (h : q ≠ o) : (am_pi w o k v).1 q = w.1 q ∧ (am_pi w o k v).2.1 q = w.2.1 q ∧ (am_pi w o k v).2.2 q = w.2.2 q := ⟨by funext j; simp [am_pi, h], rfl, rfl⟩
theorem am_pl_oth {w : am_S} {o k : Nat} {v : Int64} (q : Nat) (h : q ≠ o) : (am_pl w o k v).1 q = w.1 q ∧ (am_pl w o k v).2.1 q = w.2.1 q ∧ (am_pl w o k v).2.2 q = w.2.2 q := ⟨rfl, by funext j; simp [am_pl, h], rfl⟩
theorem am_pf_oth {w : am_S} {o k : Nat} {v : UInt32} (q : Nat) (h : q ≠ o) : (am_pf w o k v).1 q = w.1 q ∧ (am_pf w o k v).2.1 q = w.2.1 q ∧ (am_pf w o k v).2.2 q = w.2.2 q := ⟨rfl, rfl, by funext j; simp [am_pf, h]⟩
theorem am_ci_row {w : am_S} {p sp q dp n : Nat} : (am_ci w p sp q dp n).1 q = va_cpy (w.1 p) (w.1 q) sp dp n := by funext j; simp [am_ci]
theorem am_ci_oth {w : am_S} {p sp o dp n : Nat} (q : Nat) (h : q ≠ o) : (am_ci w p sp o dp n).1 q = w.1 q ∧ (am_ci w p sp o dp n).2.1 q = w.2.1 q ∧ (am_ci w p sp o dp n).2.2 q = w.2.2 q := ⟨by funext j; simp [am_ci, h], rfl, rfl⟩
theorem am_cx_row {w : am_S} {f : Nat → Int32} {sp q dp n : Nat} : (am_cx w f sp q dp n).1 q = va_cpy f (w.1 q) sp dp n := by funext j; simp [am_cx]
theorem am_cx_oth {w : am_S} {f : Nat → Int32} {sp o dp n : Nat} (q : Nat) (h : q ≠ o) : (am_cx w f sp o dp n).1 q = w.1 q ∧ (am_cx w f sp o dp n).2.1 q = w.2.1 q ∧ (am_cx w f sp o dp n).2.2 q = w.2.2 q := ⟨by funext j; simp [am_cx, h], rfl, rfl⟩
theorem am_cl_row {w : am_S} {p sp q dp n : Nat} : (am_cl w p sp q dp n).2.1 q = va_cpy (w.2.1 p) (w.2.1 q) sp dp n := by funext j; simp [am_cl]
theorem am_cl_oth {w : am_S} {p sp o dp n : Nat} (q : Nat) (h : q ≠ o) : (am_cl w p sp o dp n).1 q = w.1 q ∧ (am_cl w p sp o dp n).2.1 q = w.2.1 q ∧ (am_cl w p sp o dp n).2.2 q = w.2.2 q := ⟨rfl, by funext j; simp [am_cl, h], rfl⟩
-- what a function says: tests, loops, calls
def am_chk {α : Type} (i : Int32) (n : Nat) (k : Option α) : Option α := if i < 0 ∨ n ≤ i.toNatClampNeg then none else k
theorem am_chk_some {α : Type} {i : Int32} {n : Nat} {k : Option α} {r : α} (h : am_chk i n k = some r) : vp_in i n ∧ k = some r := by
  unfold am_chk at h
  split at h
  · cases h
  · exact ⟨by assumption, h⟩
def am_nz {α : Type} (y : Int32) (k : Option α) : Option α := if y = 0 then none else k
theorem am_nz_some {α : Type} {y : Int32} {k : Option α} {r : α} (h : am_nz y k = some r) : ¬ y = 0 ∧ k = some r := by
  unfold am_nz at h
  split at h
  · cases h
  · exact ⟨by assumption, h⟩
def am_nzl {α : Type} (y : Int64) (k : Option α) : Option α := if y = 0 then none else k
theorem am_nzl_some {α : Type} {y : Int64} {k : Option α} {r : α} (h : am_nzl y k = some r) : ¬ y = 0 ∧ k = some r := by
  unfold am_nzl at h
  split at h
  · cases h
  · exact ⟨by assumption, h⟩
/-- a float that is no NaN -/
def am_n32 {α : Type} (x : UInt32) (k : Option α) : Option α := if x &&& 0x7fffffff ≤ 0x7f800000 then k else none
theorem am_n32_some {α : Type} {x : UInt32} {k : Option α} {r : α} (h : am_n32 x k = some r) : vf_n32 x ∧ k = some r := by
  unfold am_n32 at h
  split at h
  · exact ⟨by assumption, h⟩
  · cases h
def am_n64 {α : Type} (x : UInt64) (k : Option α) : Option α := if x &&& 0x7fffffffffffffff ≤ 0x7ff0000000000000 then k else none
theorem am_n64_some {α : Type} {x : UInt64} {k : Option α} {r : α} (h : am_n64 x k = some r) : vf_n64 x ∧ k = some r := by
  unfold am_n64 at h
  split at h
  · exact ⟨by assumption, h⟩
  · cases h
/-- an int that is one of a narrow type -/
def am_nar {α : Type} (ty : FieldType) (x : Int32) (k : Option α) : Option α := if narrow ty (.int x) = .int x ∧ fits ty (.int x) = true then k else none
theorem am_nar_some {α : Type} {ty : FieldType} {x : Int32} {k : Option α} {r : α} (h : am_nar ty x k = some r) : (narrow ty (.int x) = .int x ∧ fits ty (.int x) = true) ∧ k = some r := by
  unfold am_nar at h
  split at h
  · exact ⟨by assumption, h⟩
  · cases h
def am_if {α : Type} (c : Prop) (d : Decidable c) (k : Option α) : Option α := if c then k else none
def am_b1 {α β : Type} (t : Option α) (k : α → Option β) : Option β := match t with
  | none => none
  | some a => k a
theorem am_b1_some {α β : Type} {t : Option α} {k : α → Option β} {r : β} (h : am_b1 t k = some r) : ∃ a, t = some a ∧ k a = some r := by
  cases t with
  | none => cases h
  | some a => exact ⟨a, rfl, h⟩
def am_b2 {α β γ : Type} (t : Option (α × β)) (k : α → β → Option γ) : Option γ := match t with
  | none => none
  | some q => k q.1 q.2
theorem am_b2_some {α β γ : Type} {t : Option (α × β)} {k : α → β → Option γ} {r : γ} (h : am_b2 t k = some r) : ∃ a b, t = some (a, b) ∧ k a b = some r := by
  cases t with
  | none => cases h
  | some q => exact ⟨q.1, q.2, rfl, h⟩
def am_loop {σ β : Type} (B : σ → Option (β ⊕ σ)) : Nat → σ → Option β
  | 0, _ => none
  | n + 1, s => match B s with
    | none => none
    | some (.inl b) => some b
    | some (.inr s') => am_loop B n s'
def am_lk {σ β : Type} (B : σ → Option (β ⊕ σ)) (n : Nat) (y : β) : β ⊕ σ → Prop
  | .inl b => b = y
  | .inr s' => am_loop B n s' = some y
theorem am_loop_succ {σ β : Type} {B : σ → Option (β ⊕ σ)} {n : Nat} {s : σ} {y : β} (h : am_loop B (n + 1) s = some y) : ∃ z, B s = some z ∧ am_lk B n y z := by
  unfold am_loop at h
  cases hB : B s with
  | none => rw [hB] at h; cases h
  | some z =>
    rw [hB] at h
    cases z with
    | inl b => exact ⟨.inl b, rfl, Option.some.inj h⟩
    | inr s' => exact ⟨.inr s', rfl, h⟩
theorem am_loop_zero {σ β : Type} {B : σ → Option (β ⊕ σ)} {s : σ} {y : β} (h : am_loop B 0 s = some y) : False := by cases h
def am_x {β σ : Type} (t : Option β) : Option (β ⊕ σ) := match t with
  | none => none
  | some b => some (.inl b)
theorem am_x_some {β σ : Type} {t : Option β} {z : β ⊕ σ} (h : am_x t = some z) : ∃ b, t = some b ∧ z = .inl b := by
  cases t with
  | none => cases h
  | some b => exact ⟨b, rfl, (Option.some.inj h).symm⟩
/-- more turns than any loop takes -/
def am_fuel : Nat := 1000000
theorem am_pair {α β : Type} {a c : α} {b d : β} (h : some (a, b) = some (c, d)) : a = c ∧ b = d := ⟨congrArg Prod.fst (Option.some.inj h), congrArg Prod.snd (Option.some.inj h)⟩
theorem am_tne {x : Int32} {k : Int} (v : Int32) (hv : v.toInt = k) (h : ¬ x = v) : x.toInt ≠ k := fun q => h (Int32.toInt_inj.mp (q.trans hv.symm))
section AMR
variable {p : Program} {l : Launch} {e : Env} {R : Room} {s : State} {m : MethodId} {args : Array Value} {below : List Frame} {meth : Method} {c : Code} {H : Heap} {locs : List Loc} {cells slots : Nat} {Q : State → Prop}
variable {cc : ByteArray} {pc : Nat} {ls : Array Slot} {rest : List Value} {G : am_G} {w : am_S}
theorem am_get (hx : p.tables.exec = Jvm.exec) (hb : c.code = cc) (hts : ∀ w ∈ am_T, w.before args s = true) (hK : va_K G.2.2.1 vwCl (am_tys G) s) {own C : String} (hown : s.vm.findClass own = some m.cls) (hH : am_H G w s H locs) {T : u_T} {N ci index o : Nat} {g : (Nat → Int32) → (Nat → Int64) → List Value} (ho : am_ob G o ci g) (hc : vwCl[ci]? = some (C, T, N)) (hin : ∀ w ∈ u_ws C T N, w ∈ am_T) (k : Nat) (hk : k < N) (hlink : Cond.fieldLink own index (T k).1 (T k).2.1 (T k).2.2.1 ∈ am_T) {v : Value} (hv : (g (w.1 o) (w.2.1 o))[k]? = some v) (hdg : decode cc pc = .ok (.getfield index, 3))
    (kk : W p l e R s m args below meth c H locs cells slots Q (F0 m (pc + 3) ls (v :: rest))) : W p l e R s m args below meth c H locs cells slots Q (F0 m pc ls (.ref (G.1 + o) :: rest)) :=
  va_get hx hb hts hin hown hK hH.1 o ((am_ws_at ho.1).trans (by rw [ho.2])) hc k hk (hts _ hlink) (fun _ h => h) hv hdg kk
theorem am_puti (hx : p.tables.exec = Jvm.exec) (hb : c.code = cc) (hts : ∀ w ∈ am_T, w.before args s = true) (hK : va_K G.2.2.1 vwCl (am_tys G) s) {own C : String} (hown : s.vm.findClass own = some m.cls) (hH : am_H G w s H locs) {T : u_T} {N ci index o : Nat} {g : (Nat → Int32) → (Nat → Int64) → List Value} (ho : am_ob G o ci g) (hc : vwCl[ci]? = some (C, T, N)) (hin : ∀ w ∈ u_ws C T N, w ∈ am_T) (ty0 : Nat → FieldType) (hty : ∀ k, k < N → parseFieldDescriptor (T k).2.2.1 = some (ty0 k)) (hnm : ∀ a, a < N → ∀ b, b < N → a ≠ b → (T a).2.1 ≠ (T b).2.1) (k : Nat) (hk : k < N) (hlink : Cond.fieldLink own index (T k).1 (T k).2.1 (T k).2.2.1 ∈ am_T) (hfin : (T k).2.2.2 = false) {v : Int32} (hn : narrow (ty0 k) (.int v) = .int v) (hfit : fits (ty0 k) (.int v) = true) (hl : ∀ n l, k < (g n l).length) (hset : ∀ n l (v : Int32), (g n l).set k (.int v) = g (upd n k v) l) (hdg : decode cc pc = .ok (.putfield index, 3))
    (kk : ∀ (H : Heap) (locs : List Loc), am_H G (am_pi w o k v) s H locs → W p l e R s m args below meth c H locs cells slots Q (F0 m (pc + 3) ls rest)) : W p l e R s m args below meth c H locs cells slots Q (F0 m pc ls (.int v :: .ref (G.1 + o) :: rest)) := by
  refine va_put hx hb hts hin ty0 hty hnm hown hK hH.1 am_D hH.2 o ((am_ws_at ho.1).trans (by rw [ho.2])) hc k hk (hts _ hlink) (fun _ h => h) hfin (hty k hk) hn hfit (hl _ _) hdg (fun H1 locs1 hP _ hS => kk H1 locs1 ⟨?_, hS⟩)
  rw [am_ws_set (w' := am_pi w o k v) ho.1 (by rw [ho.2, am_pi_row, hset]; rfl) am_pi_oth] at hP
  exact hP
theorem am_putl (hx : p.tables.exec = Jvm.exec) (hb : c.code = cc) (hts : ∀ w ∈ am_T, w.before args s = true) (hK : va_K G.2.2.1 vwCl (am_tys G) s) {own C : String} (hown : s.vm.findClass own = some m.cls) (hH : am_H G w s H locs) {T : u_T} {N ci index o : Nat} {g : (Nat → Int32) → (Nat → Int64) → List Value} (ho : am_ob G o ci g) (hc : vwCl[ci]? = some (C, T, N)) (hin : ∀ w ∈ u_ws C T N, w ∈ am_T) (ty0 : Nat → FieldType) (hty : ∀ k, k < N → parseFieldDescriptor (T k).2.2.1 = some (ty0 k)) (hnm : ∀ a, a < N → ∀ b, b < N → a ≠ b → (T a).2.1 ≠ (T b).2.1) (k : Nat) (hk : k < N) (hlink : Cond.fieldLink own index (T k).1 (T k).2.1 (T k).2.2.1 ∈ am_T) (hfin : (T k).2.2.2 = false) {v : Int64} (hn : narrow (ty0 k) (.long v) = .long v) (hfit : fits (ty0 k) (.long v) = true) (hl : ∀ n l, k < (g n l).length) (hset : ∀ n l (v : Int64), (g n l).set k (.long v) = g n (vp_updL l k v)) (hdg : decode cc pc = .ok (.putfield index, 3))
    (kk : ∀ (H : Heap) (locs : List Loc), am_H G (am_pl w o k v) s H locs → W p l e R s m args below meth c H locs cells slots Q (F0 m (pc + 3) ls rest)) : W p l e R s m args below meth c H locs cells slots Q (F0 m pc ls (.long v :: .ref (G.1 + o) :: rest)) := by
  refine va_put hx hb hts hin ty0 hty hnm hown hK hH.1 am_D hH.2 o ((am_ws_at ho.1).trans (by rw [ho.2])) hc k hk (hts _ hlink) (fun _ h => h) hfin (hty k hk) hn hfit (hl _ _) hdg (fun H1 locs1 hP _ hS => kk H1 locs1 ⟨?_, hS⟩)
  rw [am_ws_set (w' := am_pl w o k v) ho.1 (by rw [ho.2, am_pl_row, hset]; rfl) am_pl_oth] at hP
  exact hP
theorem am_iald (hx : p.tables.exec = Jvm.exec) (hb : c.code = cc) (hK : va_K G.2.2.1 vwCl (am_tys G) s) (hH : am_H G w s H locs) {o N : Nat} (ho : am_ai G o N) {i : Int32} (hin : vp_in i N) (hdg : decode cc pc = .ok (.iaload, 1))
    (kk : W p l e R s m args below meth c H locs cells slots Q (F0 m (pc + 1) ls (.int (w.1 o i.toNatClampNeg) :: rest))) : W p l e R s m args below meth c H locs cells slots Q (F0 m pc ls (.int i :: .ref (G.1 + o) :: rest)) :=
  va_iald hx hb hK hH.1 o 2 ((am_ws_at ho.1).trans (by rw [ho.2])) rfl hin hdg kk
theorem am_cald (hx : p.tables.exec = Jvm.exec) (hb : c.code = cc) (hK : va_K G.2.2.1 vwCl (am_tys G) s) (hH : am_H G w s H locs) {o N : Nat} (ho : am_ac G o N) {i : Int32} (hin : vp_in i N) (hdg : decode cc pc = .ok (.caload, 1))
    (kk : W p l e R s m args below meth c H locs cells slots Q (F0 m (pc + 1) ls (.int (w.1 o i.toNatClampNeg) :: rest))) : W p l e R s m args below meth c H locs cells slots Q (F0 m pc ls (.int i :: .ref (G.1 + o) :: rest)) :=
  va_cald hx hb hK hH.1 o 0 ((am_ws_at ho.1).trans (by rw [ho.2])) rfl hin hdg kk
theorem am_lald (hx : p.tables.exec = Jvm.exec) (hb : c.code = cc) (hK : va_K G.2.2.1 vwCl (am_tys G) s) (hH : am_H G w s H locs) {o N : Nat} (ho : am_al G o N) {i : Int32} (hin : vp_in i N) (hdg : decode cc pc = .ok (.laload, 1))
    (kk : W p l e R s m args below meth c H locs cells slots Q (F0 m (pc + 1) ls (.long (w.2.1 o i.toNatClampNeg) :: rest))) : W p l e R s m args below meth c H locs cells slots Q (F0 m pc ls (.int i :: .ref (G.1 + o) :: rest)) :=
  va_lald hx hb hK hH.1 o 3 ((am_ws_at ho.1).trans (by rw [ho.2])) rfl hin hdg kk
theorem am_fald (hx : p.tables.exec = Jvm.exec) (hb : c.code = cc) (hK : va_K G.2.2.1 vwCl (am_tys G) s) (hH : am_H G w s H locs) {o N : Nat} (ho : am_af G o N) {i : Int32} (hin : vp_in i N) (hdg : decode cc pc = .ok (.faload, 1))
    (kk : W p l e R s m args below meth c H locs cells slots Q (F0 m (pc + 1) ls (.float (w.2.2 o i.toNatClampNeg) :: rest))) : W p l e R s m args below meth c H locs cells slots Q (F0 m pc ls (.int i :: .ref (G.1 + o) :: rest)) :=
  va_fald hx hb hK hH.1 o 1 ((am_ws_at ho.1).trans (by rw [ho.2])) rfl hin hdg kk
/-- a SCRIPT out of the row of four -/
theorem am_aald4 (hx : p.tables.exec = Jvm.exec) (hb : c.code = cc) (hK : va_K G.2.2.1 vwCl (am_tys G) s) (hH : am_H G w s H locs) {i : Int32} (hin : vp_in i 4) (hdg : decode cc pc = .ok (.aaload, 1))
    (kk : W p l e R s m args below meth c H locs cells slots Q (F0 m (pc + 1) ls (.ref (G.1 + (259 + 3 * i.toNatClampNeg)) :: rest))) : W p l e R s m args below meth c H locs cells slots Q (F0 m pc ls (.int i :: .ref (G.1 + 22) :: rest)) :=
  va_aldq hx hb hK hH.1 22 4 (f := fun i => some (G.1 + (259 + 3 * i))) ((am_ws_at (by decide)).trans rfl) rfl hin hdg kk
/-- a State out of the row of forty -/
theorem am_aald5 (hx : p.tables.exec = Jvm.exec) (hb : c.code = cc) (hK : va_K G.2.2.1 vwCl (am_tys G) s) (hH : am_H G w s H locs) {i : Int32} (hin : vp_in i 40) (hdg : decode cc pc = .ok (.aaload, 1))
    (kk : W p l e R s m args below meth c H locs cells slots Q (F0 m (pc + 1) ls (.ref (G.1 + (48 + 5 * i.toNatClampNeg)) :: rest))) : W p l e R s m args below meth c H locs cells slots Q (F0 m pc ls (.int i :: .ref (G.1 + 47) :: rest)) :=
  va_aldq hx hb hK hH.1 47 5 (f := fun i => some (G.1 + (48 + 5 * i))) ((am_ws_at (by decide)).trans rfl) rfl hin hdg kk
theorem am_iast (hx : p.tables.exec = Jvm.exec) (hb : c.code = cc) (hK : va_K G.2.2.1 vwCl (am_tys G) s) (hH : am_H G w s H locs) {o N : Nat} (ho : am_ai G o N) {i x : Int32} (hin : vp_in i N) (hdg : decode cc pc = .ok (.iastore, 1))
    (kk : ∀ (H : Heap) (locs : List Loc), am_H G (am_pi w o i.toNatClampNeg x) s H locs → W p l e R s m args below meth c H locs cells slots Q (F0 m (pc + 1) ls rest)) : W p l e R s m args below meth c H locs cells slots Q (F0 m pc ls (.int x :: .int i :: .ref (G.1 + o) :: rest)) := by
  refine va_iast hx hb hK hH.1 am_D hH.2 o 2 ((am_ws_at ho.1).trans (by rw [ho.2])) rfl hin hdg (fun H1 locs1 hP _ hS => kk H1 locs1 ⟨?_, hS⟩)
  rw [am_ws_set (w' := am_pi w o i.toNatClampNeg x) ho.1 (by rw [ho.2, am_pi_row]) am_pi_oth] at hP
  exact hP
theorem am_cast (hx : p.tables.exec = Jvm.exec) (hb : c.code = cc) (hK : va_K G.2.2.1 vwCl (am_tys G) s) (hH : am_H G w s H locs) {o N : Nat} (ho : am_ac G o N) {i x : Int32} (hin : vp_in i N) (hdg : decode cc pc = .ok (.castore, 1))
    (kk : ∀ (H : Heap) (locs : List Loc), am_H G (am_pi w o i.toNatClampNeg (vp_nar .char x)) s H locs → W p l e R s m args below meth c H locs cells slots Q (F0 m (pc + 1) ls rest)) : W p l e R s m args below meth c H locs cells slots Q (F0 m pc ls (.int x :: .int i :: .ref (G.1 + o) :: rest)) := by
  refine va_cast hx hb hK hH.1 am_D hH.2 o 0 ((am_ws_at ho.1).trans (by rw [ho.2])) rfl hin hdg (fun H1 locs1 hP _ hS => kk H1 locs1 ⟨?_, hS⟩)
  rw [am_ws_set (w' := am_pi w o i.toNatClampNeg (vp_nar .char x)) ho.1 (by rw [ho.2, am_pi_row]) am_pi_oth] at hP
  exact hP
theorem am_last (hx : p.tables.exec = Jvm.exec) (hb : c.code = cc) (hK : va_K G.2.2.1 vwCl (am_tys G) s) (hH : am_H G w s H locs) {o N : Nat} (ho : am_al G o N) {i : Int32} {x : Int64} (hin : vp_in i N) (hdg : decode cc pc = .ok (.lastore, 1))
    (kk : ∀ (H : Heap) (locs : List Loc), am_H G (am_pl w o i.toNatClampNeg x) s H locs → W p l e R s m args below meth c H locs cells slots Q (F0 m (pc + 1) ls rest)) : W p l e R s m args below meth c H locs cells slots Q (F0 m pc ls (.long x :: .int i :: .ref (G.1 + o) :: rest)) := by
  refine va_last hx hb hK hH.1 am_D hH.2 o 3 ((am_ws_at ho.1).trans (by rw [ho.2])) rfl hin hdg (fun H1 locs1 hP _ hS => kk H1 locs1 ⟨?_, hS⟩)
  rw [am_ws_set (w' := am_pl w o i.toNatClampNeg x) ho.1 (by rw [ho.2, am_pl_row]) am_pl_oth] at hP
  exact hP
theorem am_fast (hx : p.tables.exec = Jvm.exec) (hb : c.code = cc) (hK : va_K G.2.2.1 vwCl (am_tys G) s) (hH : am_H G w s H locs) {o N : Nat} (ho : am_af G o N) {i : Int32} {x : UInt32} (hin : vp_in i N) (hdg : decode cc pc = .ok (.fastore, 1))
    (kk : ∀ (H : Heap) (locs : List Loc), am_H G (am_pf w o i.toNatClampNeg x) s H locs → W p l e R s m args below meth c H locs cells slots Q (F0 m (pc + 1) ls rest)) : W p l e R s m args below meth c H locs cells slots Q (F0 m pc ls (.float x :: .int i :: .ref (G.1 + o) :: rest)) := by
  refine va_fast hx hb hK hH.1 am_D hH.2 o 1 ((am_ws_at ho.1).trans (by rw [ho.2])) rfl hin hdg (fun H1 locs1 hP _ hS => kk H1 locs1 ⟨?_, hS⟩)
  rw [am_ws_set (w' := am_pf w o i.toNatClampNeg x) ho.1 (by rw [ho.2, am_pf_row]) am_pf_oth] at hP
  exact hP
theorem am_leni (hx : p.tables.exec = Jvm.exec) (hb : c.code = cc) (hK : va_K G.2.2.1 vwCl (am_tys G) s) (hH : am_H G w s H locs) {o N : Nat} (ho : am_ai G o N) {v : Int32} (hv : Int32.ofNat N = v) (hdg : decode cc pc = .ok (.arraylength, 1))
    (kk : W p l e R s m args below meth c H locs cells slots Q (F0 m (pc + 1) ls (.int v :: rest))) : W p l e R s m args below meth c H locs cells slots Q (F0 m pc ls (.ref (G.1 + o) :: rest)) :=
  va_alen hx hb hK hH.1 o 2 ((am_ws_at ho.1).trans (by rw [ho.2])) rfl hv hdg kk
theorem am_lenl (hx : p.tables.exec = Jvm.exec) (hb : c.code = cc) (hK : va_K G.2.2.1 vwCl (am_tys G) s) (hH : am_H G w s H locs) {o N : Nat} (ho : am_al G o N) {v : Int32} (hv : Int32.ofNat N = v) (hdg : decode cc pc = .ok (.arraylength, 1))
    (kk : W p l e R s m args below meth c H locs cells slots Q (F0 m (pc + 1) ls (.int v :: rest))) : W p l e R s m args below meth c H locs cells slots Q (F0 m pc ls (.ref (G.1 + o) :: rest)) :=
  va_alen hx hb hK hH.1 o 3 ((am_ws_at ho.1).trans (by rw [ho.2])) rfl hv hdg kk
/-- a method's own beginning -/
theorem am_begin {y : MethodName} {bytes : ByteArray} {maxL : Nat} {ret : Option FieldType} {rm : Room} {s₁ : State} {av : List Value} (B : BodyLoose p l y (headSpec (Cond.code y bytes maxL ret :: am_T) rm) bytes maxL ret e s m args below meth c s₁) (hv : am_Pc G av w args s) :
    args = av.toArray ∧ p.tables.exec = Jvm.exec ∧ c.code = bytes ∧ meth.sig.returnType = ret ∧ (∀ w ∈ am_T, w.before args s = true) ∧ s.vm.findClass y.cls = some m.cls ∧ meth.locks = false ∧ va_K G.2.2.1 vwCl (am_tys G) s ∧ am_E G s s.heap ∧ am_H G w s s.heap [] := by
  obtain ⟨h1, h2, h3, h4⟩ := hv
  exact ⟨h1, B.exec, B.bytes, B.returns, fun w hw => atoms_spec (ws := Cond.code y bytes maxL ret :: am_T) B.pre w (List.mem_cons_of_mem _ hw), findClass_of_methodNamed B.named, B.notSynchronized, h3, h4, h2, va_S.rf⟩
theorem am_enter {av : List Value} {n : Nat} {lv : List (Nat × Value)} (h : (lg_sl av).length ≤ n) (hlv : lv_args 0 av = lv) (k : ∀ ls : Array Slot, lv_has ls n lv → W p l e R s m args below meth c H locs cells slots Q (F0 m 0 ls [])) : W p l e R s m args below meth c H locs cells slots Q (entryFrame m av.toArray n) := by
  rw [lg_entry_eq]
  exact k _ (hlv ▸ lv_entry av h)
-- returns
theorem am_reti {r r' : Int32} {w' : am_S} (hx : p.tables.exec = Jvm.exec) (hb : c.code = cc) (hr : meth.sig.returnType = some .int) (hlocks : meth.locks = false) (hH : am_H G w s H locs) (hf : some (r, w) = some (r', w')) (hdg : decode cc pc = .ok (.ireturn, 1)) : W p l e R s m args below meth c H locs 0 0 (MQ below (va_Qi (fun (x : Int32) (u : am_S) => x = r' ∧ u = w') (am_U G) (am_A G)) args s 0 0 (am_A G)) (F0 m pc ls [.int r]) := by
  obtain ⟨rfl, rfl⟩ := am_pair hf
  exact W.iret hx hb hr (fun t ht _ => ⟨⟨r, w, rfl, ⟨rfl, rfl⟩, by unfold am_U; rw [ht]; exact hH.1⟩, hH.2.F ht⟩) hH.2.2.2 hdg hlocks
theorem am_retz {r r' : Int32} {w' : am_S} {ty : FieldType} (hx : p.tables.exec = Jvm.exec) (hb : c.code = cc) (hr : meth.sig.returnType = some ty) (hn : narrow ty (.int r) = .int r) (hlocks : meth.locks = false) (hH : am_H G w s H locs) (hf : some (r, w) = some (r', w')) (hdg : decode cc pc = .ok (.ireturn, 1)) : W p l e R s m args below meth c H locs 0 0 (MQ below (va_Qi (fun (x : Int32) (u : am_S) => x = r' ∧ u = w') (am_U G) (am_A G)) args s 0 0 (am_A G)) (F0 m pc ls [.int r]) := by
  obtain ⟨rfl, rfl⟩ := am_pair hf
  exact W.zret hx hb hr hn (fun t ht _ => ⟨⟨r, w, rfl, ⟨rfl, rfl⟩, by unfold am_U; rw [ht]; exact hH.1⟩, hH.2.F ht⟩) hH.2.2.2 hdg hlocks
theorem am_retl {r r' : Int64} {w' : am_S} (hx : p.tables.exec = Jvm.exec) (hb : c.code = cc) (hr : meth.sig.returnType = some .long) (hlocks : meth.locks = false) (hH : am_H G w s H locs) (hf : some (r, w) = some (r', w')) (hdg : decode cc pc = .ok (.lreturn, 1)) : W p l e R s m args below meth c H locs 0 0 (MQ below (va_Ql (fun (x : Int64) (u : am_S) => x = r' ∧ u = w') (am_U G) (am_A G)) args s 0 0 (am_A G)) (F0 m pc ls [.long r]) := by
  obtain ⟨rfl, rfl⟩ := am_pair hf
  exact W.lret hx hb hr (fun t ht _ => ⟨⟨r, w, rfl, ⟨rfl, rfl⟩, by unfold am_U; rw [ht]; exact hH.1⟩, hH.2.F ht⟩) hH.2.2.2 hdg hlocks
theorem am_retf {r r' : UInt32} {w' : am_S} (hx : p.tables.exec = Jvm.exec) (hb : c.code = cc) (hr : meth.sig.returnType = some .float) (hlocks : meth.locks = false) (hH : am_H G w s H locs) (hf : some (r, w) = some (r', w')) (hdg : decode cc pc = .ok (.freturn, 1)) : W p l e R s m args below meth c H locs 0 0 (MQ below (va_Qf (fun (x : UInt32) (u : am_S) => x = r' ∧ u = w') (am_U G) (am_A G)) args s 0 0 (am_A G)) (F0 m pc ls [.float r]) := by
  obtain ⟨rfl, rfl⟩ := am_pair hf
  exact W.fret hx hb hr (fun t ht _ => ⟨⟨r, w, rfl, ⟨rfl, rfl⟩, by unfold am_U; rw [ht]; exact hH.1⟩, hH.2.F ht⟩) hH.2.2.2 hdg hlocks
theorem am_retd {r r' : UInt64} {w' : am_S} (hx : p.tables.exec = Jvm.exec) (hb : c.code = cc) (hr : meth.sig.returnType = some .double) (hlocks : meth.locks = false) (hH : am_H G w s H locs) (hf : some (r, w) = some (r', w')) (hdg : decode cc pc = .ok (.dreturn, 1)) : W p l e R s m args below meth c H locs 0 0 (MQ below (va_Qd (fun (x : UInt64) (u : am_S) => x = r' ∧ u = w') (am_U G) (am_A G)) args s 0 0 (am_A G)) (F0 m pc ls [.double r]) := by
  obtain ⟨rfl, rfl⟩ := am_pair hf
  exact W.dret hx hb hr (fun t ht _ => ⟨⟨r, w, rfl, ⟨rfl, rfl⟩, by unfold am_U; rw [ht]; exact hH.1⟩, hH.2.F ht⟩) hH.2.2.2 hdg hlocks
theorem am_retv {w' : am_S} (hx : p.tables.exec = Jvm.exec) (hb : c.code = cc) (hr : meth.sig.returnType = none) (hlocks : meth.locks = false) (hH : am_H G w s H locs) (hf : some w = some w') (hdg : decode cc pc = .ok (.return_, 1)) : W p l e R s m args below meth c H locs 0 0 (MQ below (va_Qv (fun (u : am_S) => u = w') (am_U G) (am_A G)) args s 0 0 (am_A G)) (F0 m pc ls []) := by
  obtain rfl := Option.some.inj hf
  exact W.vret hx hb hr (fun t ht _ => ⟨⟨w, rfl, rfl, by unfold am_U; rw [ht]; exact hH.1⟩, hH.2.F ht⟩) hH.2.2.2 hdg hlocks
-- calls
variable {nL n index o ci N maxL : Nat} {own C : String} {y : MethodName} {bytes : ByteArray} {ret : Option FieldType} {rm : Room} {As st0 : List Value} {w' : am_S} {g : (Nat → Int32) → (Nat → Int64) → List Value} {T : u_T}
theorem am_recv (hK : va_K G.2.2.1 vwCl (am_tys G) s) (hH : am_H G w s H locs) (ho : am_ob G o ci g) (hc : vwCl[ci]? = some (C, T, N)) : ∃ cell : Cell, H[G.1 + o]? = some cell ∧ cell.vm.isStatics = false ∧ s.vm.findClass C = some cell.cls :=
  va_recv hK hH.1 hc ((am_ws_at ho.1).trans (by rw [ho.2]))
theorem am_runV {Qc : Array Value → State → Outcome → State → Prop} (S : CallFix p m c cc nL s args am_T own) (hK : va_K G.2.2.1 vwCl (am_tys G) s) (hE : am_E G s s.heap) (hH : am_H G w s H locs) (hM : Met l y (Cond.code y bytes maxL ret :: am_T) rm (am_Pc G (.ref (G.1 + o) :: As) w) Qc 0 0 (am_A G)) (hg : GoodIn am_T (wsV own index C y (Cond.code y bytes maxL ret :: am_T))) (ho : am_ob G o ci g) (hc : vwCl[ci]? = some (C, T, N)) (hrc : rm.cells = 0 ∧ rm.slots = 0)
    (hd : y.cls = C ∧ y.cls ≠ "java/lang/invoke/MethodHandle" ∧ y.cls ≠ "java/lang/invoke/VarHandle" ∧ (parseMethodDescriptor y.desc).map (fun d => d.parameters.length) = some n) (hR : rm.frames + 1 ≤ R.frames ∧ 8 + (maxL + 11) + rm.locals ≤ R.locals) (hn : As.length = n) (hls : ls.size = nL) (hst : st0 = As.reverse ++ .ref (G.1 + o) :: rest) (hW : (rest.map fun v => v.category).sum ≤ 8) (hf : cells ≤ R.cells ∧ slots ≤ R.slots) (hdg : decode cc pc = .ok (.invokevirtual index, 3)) :
    va_Run p l e R s m args below meth c H locs cells slots 0 0 (F0 m pc ls st0) rest (Qc (Value.ref (G.1 + o) :: As).toArray) (am_A G) :=
  va_runV S hM (cwV n S.2.2.2.2 hg rfl hrc.1 hrc.2 hd hR) ⟨am_blind, am_recv hK hH ho hc, am_B_at hH hK hE⟩ rfl hn hls hst (lv_room hW) hdg hf
theorem am_runS {Qc : Array Value → State → Outcome → State → Prop} (S : CallFix p m c cc nL s args am_T own) (hK : va_K G.2.2.1 vwCl (am_tys G) s) (hE : am_E G s s.heap) (hH : am_H G w s H locs) (hM : Met l y (Cond.code y bytes maxL ret :: am_T) rm (am_Pc G As w) Qc 0 0 (am_A G)) (hg : GoodIn am_T (va_wsS own index y (Cond.code y bytes maxL ret :: am_T))) (hrc : rm.cells = 0 ∧ rm.slots = 0)
    (hd : y.cls ≠ "java/lang/invoke/MethodHandle" ∧ y.cls ≠ "java/lang/invoke/VarHandle" ∧ (parseMethodDescriptor y.desc).map (fun d => d.parameters.length) = some n) (hR : rm.frames + 1 ≤ R.frames ∧ 8 + (maxL + 11) + rm.locals ≤ R.locals) (hn : As.length = n) (hls : ls.size = nL) (hst : st0 = As.reverse ++ rest) (hW : (rest.map fun v => v.category).sum ≤ 8) (hf : cells ≤ R.cells ∧ slots ≤ R.slots) (hdg : decode cc pc = .ok (.invokestatic index, 3)) :
    va_Run p l e R s m args below meth c H locs cells slots 0 0 (F0 m pc ls st0) rest (Qc As.toArray) (am_A G) :=
  va_runS S hM (va_cwS n S.2.2.2.2 hg rfl hrc.1 hrc.2 hd hR) ⟨am_blind, am_B_at hH hK hE⟩ rfl hn hls hst (lv_room hW) hdg hf
variable {a : Array Value}
theorem am_calli {r : Int32} (hr : va_Run p l e R s m args below meth c H locs cells slots 0 0 (F0 m pc ls st0) rest (va_Qi (fun (x : Int32) (u : am_S) => x = r ∧ u = w') (am_U G) (am_A G) a) (am_A G)) (hH : am_H G w s H locs) (kk : ∀ (H : Heap) (locs : List Loc), am_H G w' s H locs → W p l e R s m args below meth c H locs cells slots Q (F0 m (pc + 3) ls (.int r :: rest))) : W p l e R s m args below meth c H locs cells slots Q (F0 m pc ls st0) :=
  va_calli hr hH.2 (fun _ _ h => h) (fun _ h => h) (fun x u t H1 locs1 ht _ hw hB _ _ hS => by
    obtain ⟨rfl, rfl⟩ := hw
    exact kk H1 locs1 ⟨by rw [← ht]; exact hB, hS⟩)
theorem am_calll {r : Int64} (hr : va_Run p l e R s m args below meth c H locs cells slots 0 0 (F0 m pc ls st0) rest (va_Ql (fun (x : Int64) (u : am_S) => x = r ∧ u = w') (am_U G) (am_A G) a) (am_A G)) (hH : am_H G w s H locs) (kk : ∀ (H : Heap) (locs : List Loc), am_H G w' s H locs → W p l e R s m args below meth c H locs cells slots Q (F0 m (pc + 3) ls (.long r :: rest))) : W p l e R s m args below meth c H locs cells slots Q (F0 m pc ls st0) :=
  va_calll hr hH.2 (fun _ _ h => h) (fun _ h => h) (fun x u t H1 locs1 ht _ hw hB _ _ hS => by
    obtain ⟨rfl, rfl⟩ := hw
    exact kk H1 locs1 ⟨by rw [← ht]; exact hB, hS⟩)
theorem am_callf {r : UInt32} (hr : va_Run p l e R s m args below meth c H locs cells slots 0 0 (F0 m pc ls st0) rest (va_Qf (fun (x : UInt32) (u : am_S) => x = r ∧ u = w') (am_U G) (am_A G) a) (am_A G)) (hH : am_H G w s H locs) (kk : ∀ (H : Heap) (locs : List Loc), am_H G w' s H locs → W p l e R s m args below meth c H locs cells slots Q (F0 m (pc + 3) ls (.float r :: rest))) : W p l e R s m args below meth c H locs cells slots Q (F0 m pc ls st0) :=
  va_callf hr hH.2 (fun _ _ h => h) (fun _ h => h) (fun x u t H1 locs1 ht _ hw hB _ _ hS => by
    obtain ⟨rfl, rfl⟩ := hw
    exact kk H1 locs1 ⟨by rw [← ht]; exact hB, hS⟩)
theorem am_calld {r : UInt64} (hr : va_Run p l e R s m args below meth c H locs cells slots 0 0 (F0 m pc ls st0) rest (va_Qd (fun (x : UInt64) (u : am_S) => x = r ∧ u = w') (am_U G) (am_A G) a) (am_A G)) (hH : am_H G w s H locs) (kk : ∀ (H : Heap) (locs : List Loc), am_H G w' s H locs → W p l e R s m args below meth c H locs cells slots Q (F0 m (pc + 3) ls (.double r :: rest))) : W p l e R s m args below meth c H locs cells slots Q (F0 m pc ls st0) :=
  va_calld hr hH.2 (fun _ _ h => h) (fun _ h => h) (fun x u t H1 locs1 ht _ hw hB _ _ hS => by
    obtain ⟨rfl, rfl⟩ := hw
    exact kk H1 locs1 ⟨by rw [← ht]; exact hB, hS⟩)
theorem am_callv (hr : va_Run p l e R s m args below meth c H locs cells slots 0 0 (F0 m pc ls st0) rest (va_Qv (fun (u : am_S) => u = w') (am_U G) (am_A G) a) (am_A G)) (hH : am_H G w s H locs) (kk : ∀ (H : Heap) (locs : List Loc), am_H G w' s H locs → W p l e R s m args below meth c H locs cells slots Q (F0 m (pc + 3) ls rest)) : W p l e R s m args below meth c H locs cells slots Q (F0 m pc ls st0) :=
  va_callv hr hH.2 (fun _ _ h => h) (fun _ h => h) (fun u t H1 locs1 ht _ hw hB _ _ hS => by
    obtain rfl := hw
    exact kk H1 locs1 ⟨by rw [← ht]; exact hB, hS⟩)
end AMR

