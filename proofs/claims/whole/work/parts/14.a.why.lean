/-! pure part: why an ACT can't be (wip/whole/pure/14.a.why.src) -/
/-- an argument as one of the first n numbers -/
def ix (n : Nat) (a : Int32) : Option Nat := if 0 ≤ a.toInt ∧ a.toInt < n then some a.toInt.toNat else none
theorem ix_s {n : Nat} {a : Int32} {j : Nat} (h : ix n a = some j) : j < n ∧ a = nI j ∧ j < 2 ^ 31 := by
  unfold ix at h
  split at h
  · next q =>
    cases h
    have := Int32.toInt_lt a
    refine ⟨by omega, Int32.toInt_inj.mp ?_, by omega⟩
    rw [nI_toInt (by omega)]
    omega
  · cases h
theorem ix_nI {n j : Nat} (h : j < n) (h2 : j < 2 ^ 31) : ix n (nI j) = some j := by
  unfold ix
  rw [nI_toInt h2, if_pos (by omega)]
  simp
theorem ix_nI_n {n j : Nat} (h : n ≤ j) (h2 : j < 2 ^ 31) : ix n (nI j) = none := by
  unfold ix
  rw [nI_toInt h2, if_neg (by omega)]
theorem ix_n {n : Nat} {a : Int32} (h : ix n a = none) : a.toInt < 0 ∨ (n : Int) ≤ a.toInt := by
  unfold ix at h
  split at h
  · cases h
  · omega
theorem lt_ti {a b : Int32} : (a < b) = (a.toInt < b.toInt) := propext Int32.lt_iff_toInt_lt
theorem le_ti {a b : Int32} : (a ≤ b) = (a.toInt ≤ b.toInt) := propext Int32.le_iff_toInt_le
theorem eq_ti {a b : Int32} : (a = b) = (a.toInt = b.toInt) := propext Int32.toInt_inj.symm
theorem sub1_ti {n : Nat} (h : n < 2 ^ 30) : (nI n - nI 1).toInt = (n : Int) - 1 := pk_sub_toInt h (by decide)
theorem ix_m1 {n : Nat} : ix n (-nI 1) = none := by
  unfold ix
  rw [show (-nI 1 : Int32).toInt = -1 by decide, if_neg (by omega)]
theorem in_ix {w : am_S} (a : Int32) {n : Nat} (hn : n < 2 ^ 30) : f_X12_in a (nI 0) (nI n - nI 1) w = some (bI (ix n a).isSome, w) := by
  unfold f_X12_in f_X12_in_14 f_X12_in_15
  simp only [lt_ti, sub1_ti hn, show (nI 0).toInt = 0 by decide]
  unfold ix
  by_cases c1 : a.toInt < 0
  · rw [if_pos c1, if_neg (by omega)]; exact pu_nar0 _
  · rw [if_neg c1]
    by_cases c2 : (n : Int) - 1 < a.toInt
    · rw [if_pos c2, if_neg (by omega)]; exact pu_nar0 _
    · rw [if_neg c2, if_pos (by omega)]; exact pu_nar1 _
theorem in_ix2 {w : am_S} (a : Int32) {m : Nat} (hm : m < 2 ^ 30) : f_X12_in a (nI 0) (nI m) w = some (bI (ix (m + 1) a).isSome, w) := by
  unfold f_X12_in f_X12_in_14 f_X12_in_15
  simp only [lt_ti, nI_toInt (show m < 2 ^ 31 by omega), show (nI 0).toInt = 0 by decide]
  unfold ix
  by_cases c1 : a.toInt < 0
  · rw [if_pos c1, if_neg (by omega)]; exact pu_nar0 _
  · rw [if_neg c1]
    by_cases c2 : (m : Int) < a.toInt
    · rw [if_pos c2, if_neg (by omega)]; exact pu_nar0 _
    · rw [if_neg c2, if_pos (by omega)]; exact pu_nar1 _
section WHY
variable {fd st : Nat → Nat → Nat} {jm : Nat} {w : am_S}
theorem r_isUserI (hF : wF fd) (h : rF fd w) (a : Int32) : f_X12_isUser a w = some (bI (ix (fd 0 0) a).isSome, w) := by
  have h10 := hF.1
  unfold f_X12_isUser
  rw [h.1, show (0 : Int32) = nI 0 from rfl, show (1 : Int32) = nI 1 from rfl, in_ix a (by omega), pu_b2, pu_narb]
theorem r_isSlotI (hF : wF fd) (h : rF fd w) (a : Int32) : f_X12_isSlot a w = some (bI (ix ((fd 0 1) * (fd 0 2)) a).isSome, w) := by
  have hT := pu_T48 hF
  unfold f_X12_isSlot
  rw [r_slotMany hF h, pu_b2, show (0 : Int32) = nI 0 from rfl, show (1 : Int32) = nI 1 from rfl, in_ix a (by omega), pu_b2, pu_narb]
theorem c_noUserI (h : w.1 11 11 = nI (fd 0 0)) (hn : (fd 0 0) ≤ 10) (a : Int32) : f_X11_noUser a w = some (bI (ix (fd 0 0) a).isNone, w) := by
  unfold f_X11_noUser f_X11_noUser_15 f_X11_noUser_20
  rw [h, show (0 : Int32) = nI 0 from rfl]
  simp only [lt_ti, nI_toInt (show (fd 0 0) < 2 ^ 31 by omega), show (nI 0).toInt = 0 by decide]
  unfold ix
  by_cases c1 : a.toInt < 0
  · rw [if_pos c1, if_neg (by omega)]; exact pu_nar1 _
  · rw [if_neg c1]
    by_cases c2 : a.toInt < ((fd 0 0) : Int)
    · rw [if_pos c2, if_pos (by omega)]; exact pu_nar0 _
    · rw [if_neg c2, if_neg (by omega)]; exact pu_nar1 _
theorem c_noUserI2 (h : w.1 11 11 = nI (fd 0 0)) (hn : (fd 0 0) ≤ 10) (a : Int32) : f_X2_noUser a w = some (bI (ix (fd 0 0) a).isNone, w) := by
  unfold f_X2_noUser f_X2_noUser_15 f_X2_noUser_20
  rw [h, show (0 : Int32) = nI 0 from rfl]
  simp only [lt_ti, nI_toInt (show (fd 0 0) < 2 ^ 31 by omega), show (nI 0).toInt = 0 by decide]
  unfold ix
  by_cases c1 : a.toInt < 0
  · rw [if_pos c1, if_neg (by omega)]; exact pu_nar1 _
  · rw [if_neg c1]
    by_cases c2 : a.toInt < ((fd 0 0) : Int)
    · rw [if_pos c2, if_pos (by omega)]; exact pu_nar0 _
    · rw [if_neg c2, if_neg (by omega)]; exact pu_nar1 _
theorem c_noSlotI (hF : wF fd) (h1 : w.1 11 7 = nI (fd 0 1)) (h2 : w.1 11 8 = nI (fd 0 2)) (a : Int32) : f_X11_noSlot a w = some (bI (ix ((fd 0 1) * (fd 0 2)) a).isNone, w) := by
  have hT := pu_T48 hF
  unfold f_X11_noSlot f_X11_noSlot_15 f_X11_noSlot_20
  rw [c_allSlots h1 h2, pu_b2, show (0 : Int32) = nI 0 from rfl]
  simp only [lt_ti, nI_toInt (show (fd 0 1) * (fd 0 2) < 2 ^ 31 by omega), show (nI 0).toInt = 0 by decide]
  unfold ix
  by_cases c1 : a.toInt < 0
  · rw [if_pos c1, if_neg (by omega)]; exact pu_nar1 _
  · rw [if_neg c1]
    by_cases c2 : a.toInt < (((fd 0 1) * (fd 0 2) : Nat) : Int)
    · rw [if_pos c2, if_pos (by omega)]; exact pu_nar0 _
    · rw [if_neg c2, if_neg (by omega)]; exact pu_nar1 _
theorem c_noField (h : w.1 11 11 = nI (fd 0 0)) (hn : (fd 0 0) ≤ 10) : f_X11_noField w = some (bI (decide ((fd 0 0) = 0)), w) := by
  unfold f_X11_noField f_X11_noField_15
  simp (disch := omega) only [pv_v, pv_b2, pv_b1, pv_x, pv_lit, pv_ofN, pu_chk, pu_cl, nI_add, pk_mul, nI_leI, nI_ltI, nI_eq, pu_nar0, pu_nar1, pu_narb, bI_0, bI_1, ↓reduceIte, pu_leT, pu_leF, pu_ltT, pu_ltF, pu_eqT, pu_eqF, pu_x1, pu_x2, pu_x3, pu_x4, pu_x5, pu_x6, pu_x7, pu_x8, Nat.zero_add, pu_m31I, pu_m31, pu_shlI, eq_self, Bool.false_eq_true, Bool.true_eq_false, h]
  by_cases c : (fd 0 0) = 0
  · rw [if_pos c, decide_eq_true c]; rfl
  · rw [if_neg c, decide_eq_false c]; rfl
def pu_W (fd : Nat → Nat → Nat) : Nat := fd 4 1 + fd 4 2 + fd 4 3 + fd 4 4 + fd 4 5 + fd 4 6
theorem r_degreesOfAll (hF : wF fd) (h : rF fd w) : f_X12_degreesOfAll w = some (nI (pu_W fd), w) := by
  have e6 := h.2.2.2.2.2.1
  have hW := hF.2.2.2.2.2.2.2.2
  unfold f_X12_degreesOfAll f_X12_degreesOfAll_4
  refine pu_tr (fun i => (nI (pu_sum (fun k => fd 4 (k + 1)) i), nI (i + 1), w)) 6 rfl (by decide) (fun i hi => ?_) ?_
  · unfold f_X12_degreesOfAll_4b
    simp (disch := omega) only [pv_v, pv_b2, pv_b1, pv_x, pv_lit, pv_ofN, pu_chk, pu_cl, nI_add, pk_mul, nI_leI, nI_ltI, nI_eq, pu_nar0, pu_nar1, pu_narb, bI_0, bI_1, ↓reduceIte, pu_leT, pu_leF, pu_ltT, pu_ltF, pu_eqT, pu_eqF, pu_x1, pu_x2, pu_x3, pu_x4, pu_x5, pu_x6, pu_x7, pu_x8, Nat.zero_add, pu_m31I, pu_m31, pu_shlI, eq_self, Bool.false_eq_true, Bool.true_eq_false, e6 (i + 1) (by omega) (by omega)]
    rfl
  · unfold f_X12_degreesOfAll_4b
    simp (disch := omega) only [pv_v, pv_b2, pv_b1, pv_x, pv_lit, pv_ofN, pu_chk, pu_cl, nI_add, pk_mul, nI_leI, nI_ltI, nI_eq, pu_nar0, pu_nar1, pu_narb, bI_0, bI_1, ↓reduceIte, pu_leT, pu_leF, pu_ltT, pu_ltF, pu_eqT, pu_eqF, pu_x1, pu_x2, pu_x3, pu_x4, pu_x5, pu_x6, pu_x7, pu_x8, Nat.zero_add, pu_m31I, pu_m31, pu_shlI, eq_self, Bool.false_eq_true, Bool.true_eq_false]
    unfold pu_W pu_sum pu_sum pu_sum pu_sum pu_sum pu_sum pu_sum
    rw [Nat.zero_add]
/-- why an ACT can't be -/
def aW (fd st : Nat → Nat → Nat) (k : Nat) (a b : Int32) : Option Nat :=
  if (fd 0 0) = 0 then some 0
  else if k ≤ 1 then (if pu_A fd st 0 = 0 then some 2 else none)
  else if k = 5 then (match ix 100 a with | none => some 1 | some c => if (st 2 0) = c then some 2 else none)
  else if k = 7 then (match ix 3 a with | none => some 0 | some j => match ix (fd 0 0) b with | none => some 0 | some u => if st 0 u = 0 then some 2 else if st 0 u = j + 1 ∧ st 3 j ≠ 10 then none else some 3)
  else match ix (fd 0 0) a with
    | none => some 0
    | some u => if k = 2 then (if st 0 u = 0 then none else some 2) else if k = 3 then (if st 0 u = 0 then some 2 else none) else if k = 4 then (match ix ((fd 0 1) * (fd 0 2)) b with | none => some 0 | some s => if pu_lo fd u ≤ s ∧ s < pu_up fd u then none else some 1) else if k = 6 then (if pu_W fd = 0 then some 2 else none) else (match ix (fd 0 0) b with | none => some 0 | some o => if fd 3 u = fd 3 o then (if st 1 u = st 1 o then some 2 else none) else some 1)
theorem ix_z {a : Int32} : ix 0 a = none := by
  unfold ix
  rw [if_neg (by omega)]
theorem half_eq {x y : Nat} : (x % 2 ^ 24 = y % 2 ^ 24 ∧ x / 2 ^ 24 = y / 2 ^ 24) ↔ x = y := by
  constructor
  · rintro ⟨h1, h2⟩; omega
  · rintro rfl; exact ⟨rfl, rfl⟩
theorem pu_A_K (hF : wF fd) (hS : wS fd st) : pu_A fd st 0 = 0 ↔ ∀ s, s < (fd 0 1) * (fd 0 2) → pu_K fd st 0 s = 0 := by
  unfold pu_A
  rw [sel_0, sA_zero]
  constructor
  · intro h s hs; rw [pu_K_0]; exact h s hs rfl
  · intro h s hs _
    have := h s hs
    rw [pu_K_0] at this
    exact this
theorem r_whyNot (h : rQ fd st 0 w) {k : Nat} (hk : k ≤ 8) (a b : Int32) : f_X12_whyNot (nI k) a b w = some (oI (aW fd st k a b), w) := by
  have hF := h.1
  have hS := h.2.1
  have h10 := hF.1
  have hT := pu_T48 hF
  have hu := r_isUserI hF h.2.2.1
  have e1 := h.2.2.1.1
  have hm : ∀ i, i < (fd 0 0) → w.1 277 (5 * i + 2) = nI (fd 3 i) := fun i hi => (h.2.2.1.2.2.2.2.1 i hi).2.2
  have hh : ∀ i, i < (fd 0 0) → fd 3 i < 10 := fun i hi => by have := (hF.2.2.2.2.2.1 i hi).2.2.2.2; have := hF.2.2.1; omega
  obtain ⟨g1, g2, g3, g4, g5, g6⟩ := h.2.2.2.1
  have hfld := r_isField e1 h10
  have hc := hS.1
  have hw3 : ∀ u, st 0 u ≤ 3 := hS.2.1
  have hf10 : ∀ j, st 3 j ≤ 10 := hS.2.2.2.2
  unfold f_X12_whyNot
  by_cases k0 : k ≤ 1
  · have hcl : f_X12_whyNot_48 (nI k) a b w = some (oI (aW fd st k a b), w) := by
      unfold f_X12_whyNot_48 f_X12_whyNot_77 aW
      by_cases n0 : (fd 0 0) = 0
      · rw [hfld, pu_b2, decide_eq_false (by omega), if_pos n0]; rfl
      · rw [hfld, pu_b2, decide_eq_true (by omega), if_neg (by decide), r_slotMany hF h.2.2.1, pu_b2, if_neg n0, if_pos k0, show (0 : Int32) = nI 0 from rfl]
        rcases r_firstClear h (Nat.zero_le ((fd 0 1) * (fd 0 2))) (by omega) with ⟨s, s1, s2, s3, s4, s5⟩ | ⟨s1, s5⟩
        · have hA : ¬ pu_A fd st 0 = 0 := fun z => s3 ((pu_A_K hF hS).mp z s s2)
          simp (disch := omega) only [pv_v, pv_b2, pv_b1, pv_x, pv_lit, pv_ofN, pu_chk, pu_cl, nI_add, pk_mul, nI_leI, nI_ltI, nI_eq, pu_nar0, pu_nar1, pu_narb, bI_0, bI_1, ↓reduceIte, pu_leT, pu_leF, pu_ltT, pu_ltF, pu_eqT, pu_eqF, pu_x1, pu_x2, pu_x3, pu_x4, pu_x5, pu_x6, pu_x7, pu_x8, Nat.zero_add, pu_m31I, pu_m31, pu_shlI, eq_self, Bool.false_eq_true, Bool.true_eq_false, s5, hA]
          rfl
        · have hA : pu_A fd st 0 = 0 := (pu_A_K hF hS).mpr (fun s hs => s1 s (Nat.zero_le _) hs)
          simp (disch := omega) only [pv_v, pv_b2, pv_b1, pv_x, pv_lit, pv_ofN, pu_chk, pu_cl, nI_add, pk_mul, nI_leI, nI_ltI, nI_eq, pu_nar0, pu_nar1, pu_narb, bI_0, bI_1, ↓reduceIte, pu_leT, pu_leF, pu_ltT, pu_ltF, pu_eqT, pu_eqF, pu_x1, pu_x2, pu_x3, pu_x4, pu_x5, pu_x6, pu_x7, pu_x8, Nat.zero_add, pu_m31I, pu_m31, pu_shlI, eq_self, Bool.false_eq_true, Bool.true_eq_false, s5, hA]
          rfl
    rcases Nat.le_one_iff_eq_zero_or_eq_one.mp k0 with rfl | rfl
    · simp (disch := omega) only [pv_v, pv_b2, pv_b1, pv_x, pv_lit, pv_ofN, pu_chk, pu_cl, nI_add, pk_mul, nI_leI, nI_ltI, nI_eq, pu_nar0, pu_nar1, pu_narb, bI_0, bI_1, ↓reduceIte, pu_leT, pu_leF, pu_ltT, pu_ltF, pu_eqT, pu_eqF, pu_x1, pu_x2, pu_x3, pu_x4, pu_x5, pu_x6, pu_x7, pu_x8, Nat.zero_add, pu_m31I, pu_m31, pu_shlI, eq_self, Bool.false_eq_true, Bool.true_eq_false]
      exact hcl
    · simp (disch := omega) only [pv_v, pv_b2, pv_b1, pv_x, pv_lit, pv_ofN, pu_chk, pu_cl, nI_add, pk_mul, nI_leI, nI_ltI, nI_eq, pu_nar0, pu_nar1, pu_narb, bI_0, bI_1, ↓reduceIte, pu_leT, pu_leF, pu_ltT, pu_ltF, pu_eqT, pu_eqF, pu_x1, pu_x2, pu_x3, pu_x4, pu_x5, pu_x6, pu_x7, pu_x8, Nat.zero_add, pu_m31I, pu_m31, pu_shlI, eq_self, Bool.false_eq_true, Bool.true_eq_false]
      exact hcl
  · unfold aW
    by_cases n0 : (fd 0 0) = 0
    · rw [if_pos n0]
      rw [n0] at hu
      have hu0 : ∀ a, f_X12_isUser a w = some (bI false, w) := fun a => by rw [hu a, ix_z]; rfl
      have hf0 : f_X12_isField w = some (bI false, w) := by rw [hfld, decide_eq_false (by omega)]
      unfold f_X12_whyNotFiled f_X12_whyNotFiled_24 f_X12_whyNotSwapped f_X12_whyNotSwapped_16 f_X12_whyNot_103 f_X12_whyNot_129 f_X12_whyNot_146 f_X12_whyNot_164 f_X12_whyNot_206 f_X12_whyNot_231
      rcases (by omega : k = 2 ∨ k = 3 ∨ k = 4 ∨ k = 5 ∨ k = 6 ∨ k = 7 ∨ k = 8) with rfl | rfl | rfl | rfl | rfl | rfl | rfl <;> simp (disch := omega) only [pv_v, pv_b2, pv_b1, pv_x, pv_lit, pv_ofN, pu_chk, pu_cl, nI_add, pk_mul, nI_leI, nI_ltI, nI_eq, pu_nar0, pu_nar1, pu_narb, bI_0, bI_1, ↓reduceIte, pu_leT, pu_leF, pu_ltT, pu_ltF, pu_eqT, pu_eqF, pu_x1, pu_x2, pu_x3, pu_x4, pu_x5, pu_x6, pu_x7, pu_x8, Nat.zero_add, pu_m31I, pu_m31, pu_shlI, eq_self, Bool.false_eq_true, Bool.true_eq_false, hu0, hf0] <;> rfl
    · have hf1 : f_X12_isField w = some (bI true, w) := by rw [hfld, decide_eq_true (by omega)]
      rw [if_neg n0, if_neg k0]
      by_cases k5 : k = 5
      · subst k5
        rw [if_pos rfl]
        have hi := in_ix2 (w := w) a (m := 99) (by decide)
        unfold f_X12_whyNot_206
        cases e : ix 100 a with
        | none => rw [e] at hi; simp (disch := omega) only [pv_v, pv_b2, pv_b1, pv_x, pv_lit, pv_ofN, pu_chk, pu_cl, nI_add, pk_mul, nI_leI, nI_ltI, nI_eq, pu_nar0, pu_nar1, pu_narb, bI_0, bI_1, ↓reduceIte, pu_leT, pu_leF, pu_ltT, pu_ltF, pu_eqT, pu_eqF, pu_x1, pu_x2, pu_x3, pu_x4, pu_x5, pu_x6, pu_x7, pu_x8, Nat.zero_add, pu_m31I, pu_m31, pu_shlI, eq_self, Bool.false_eq_true, Bool.true_eq_false, hf1, hi, Option.isSome_none]; rfl
        | some c =>
          obtain ⟨q1, rfl, q3⟩ := ix_s e
          rw [e] at hi
          by_cases qc : (st 2 0) = c
          · simp (disch := omega) only [pv_v, pv_b2, pv_b1, pv_x, pv_lit, pv_ofN, pu_chk, pu_cl, nI_add, pk_mul, nI_leI, nI_ltI, nI_eq, pu_nar0, pu_nar1, pu_narb, bI_0, bI_1, ↓reduceIte, pu_leT, pu_leF, pu_ltT, pu_ltF, pu_eqT, pu_eqF, pu_x1, pu_x2, pu_x3, pu_x4, pu_x5, pu_x6, pu_x7, pu_x8, Nat.zero_add, pu_m31I, pu_m31, pu_shlI, eq_self, Bool.false_eq_true, Bool.true_eq_false, hf1, hi, Option.isSome_some, g4, qc]; rfl
          · simp (disch := omega) only [pv_v, pv_b2, pv_b1, pv_x, pv_lit, pv_ofN, pu_chk, pu_cl, nI_add, pk_mul, nI_leI, nI_ltI, nI_eq, pu_nar0, pu_nar1, pu_narb, bI_0, bI_1, ↓reduceIte, pu_leT, pu_leF, pu_ltT, pu_ltF, pu_eqT, pu_eqF, pu_x1, pu_x2, pu_x3, pu_x4, pu_x5, pu_x6, pu_x7, pu_x8, Nat.zero_add, pu_m31I, pu_m31, pu_shlI, eq_self, Bool.false_eq_true, Bool.true_eq_false, hf1, hi, Option.isSome_some, g4, qc]; rfl
      · rw [if_neg k5]
        by_cases k7 : k = 7
        · subst k7
          rw [if_pos rfl]
          have hi := in_ix2 (w := w) a (m := 2) (by decide)
          unfold f_X12_whyNotFiled f_X12_whyNotFiled_24 f_X12_whyNotFiled_67 f_X12_whyNotFiled_72
          cases e : ix 3 a with
          | none => rw [e] at hi; simp (disch := omega) only [pv_v, pv_b2, pv_b1, pv_x, pv_lit, pv_ofN, pu_chk, pu_cl, nI_add, pk_mul, nI_leI, nI_ltI, nI_eq, pu_nar0, pu_nar1, pu_narb, bI_0, bI_1, ↓reduceIte, pu_leT, pu_leF, pu_ltT, pu_ltF, pu_eqT, pu_eqF, pu_x1, pu_x2, pu_x3, pu_x4, pu_x5, pu_x6, pu_x7, pu_x8, Nat.zero_add, pu_m31I, pu_m31, pu_shlI, eq_self, Bool.false_eq_true, Bool.true_eq_false, hf1, hi, Option.isSome_none]; rfl
          | some j =>
            obtain ⟨q1, rfl, q3⟩ := ix_s e
            rw [e] at hi
            have hub := hu b
            cases e2 : ix (fd 0 0) b with
            | none => rw [e2] at hub; simp (disch := omega) only [pv_v, pv_b2, pv_b1, pv_x, pv_lit, pv_ofN, pu_chk, pu_cl, nI_add, pk_mul, nI_leI, nI_ltI, nI_eq, pu_nar0, pu_nar1, pu_narb, bI_0, bI_1, ↓reduceIte, pu_leT, pu_leF, pu_ltT, pu_ltF, pu_eqT, pu_eqF, pu_x1, pu_x2, pu_x3, pu_x4, pu_x5, pu_x6, pu_x7, pu_x8, Nat.zero_add, pu_m31I, pu_m31, pu_shlI, eq_self, Bool.false_eq_true, Bool.true_eq_false, hf1, hi, Option.isSome_some, hub, Option.isSome_none]; rfl
            | some u =>
              obtain ⟨p1, rfl, p3⟩ := ix_s e2
              rw [e2] at hub
              have w3 := hw3 u
              have f10 := hf10 j
              by_cases z : st 0 u = 0
              · simp (disch := omega) only [pv_v, pv_b2, pv_b1, pv_x, pv_lit, pv_ofN, pu_chk, pu_cl, nI_add, pk_mul, nI_leI, nI_ltI, nI_eq, pu_nar0, pu_nar1, pu_narb, bI_0, bI_1, ↓reduceIte, pu_leT, pu_leF, pu_ltT, pu_ltF, pu_eqT, pu_eqF, pu_x1, pu_x2, pu_x3, pu_x4, pu_x5, pu_x6, pu_x7, pu_x8, Nat.zero_add, pu_m31I, pu_m31, pu_shlI, eq_self, Bool.false_eq_true, Bool.true_eq_false, hf1, hi, Option.isSome_some, hub, r_isUnknown h (u := u) (by omega), bq_t z, z]; rfl
              · by_cases z2 : st 0 u = j + 1
                · by_cases z3 : st 3 j = 10
                  · have f31 : st 3 j < 2 ^ 31 := by omega
                    simp (disch := omega) only [pv_v, pv_b2, pv_b1, pv_x, pv_lit, pv_ofN, pu_chk, pu_cl, nI_add, pk_mul, nI_leI, nI_ltI, nI_eq, pu_nar0, pu_nar1, pu_narb, bI_0, bI_1, ↓reduceIte, pu_leT, pu_leF, pu_ltT, pu_ltF, pu_eqT, pu_eqF, pu_x1, pu_x2, pu_x3, pu_x4, pu_x5, pu_x6, pu_x7, pu_x8, Nat.zero_add, pu_m31I, pu_m31, pu_shlI, eq_self, Bool.false_eq_true, Bool.true_eq_false, hf1, hi, Option.isSome_some, hub, r_isUnknown h (u := u) (by omega), bq_f z, g1 u (by omega), z2, f_X12_shelfAt, g5 j (by omega), z3]
                    simp [oI, pu_b2]
                  · simp (disch := omega) only [pv_v, pv_b2, pv_b1, pv_x, pv_lit, pv_ofN, pu_chk, pu_cl, nI_add, pk_mul, nI_leI, nI_ltI, nI_eq, pu_nar0, pu_nar1, pu_narb, bI_0, bI_1, ↓reduceIte, pu_leT, pu_leF, pu_ltT, pu_ltF, pu_eqT, pu_eqF, pu_x1, pu_x2, pu_x3, pu_x4, pu_x5, pu_x6, pu_x7, pu_x8, Nat.zero_add, pu_m31I, pu_m31, pu_shlI, eq_self, Bool.false_eq_true, Bool.true_eq_false, hf1, hi, Option.isSome_some, hub, r_isUnknown h (u := u) (by omega), bq_f z, g1 u (by omega), z2, f_X12_shelfAt, g5 j (by omega), z3]
                    simp [oI, z3, pu_b2]
                · simp (disch := omega) only [pv_v, pv_b2, pv_b1, pv_x, pv_lit, pv_ofN, pu_chk, pu_cl, nI_add, pk_mul, nI_leI, nI_ltI, nI_eq, pu_nar0, pu_nar1, pu_narb, bI_0, bI_1, ↓reduceIte, pu_leT, pu_leF, pu_ltT, pu_ltF, pu_eqT, pu_eqF, pu_x1, pu_x2, pu_x3, pu_x4, pu_x5, pu_x6, pu_x7, pu_x8, Nat.zero_add, pu_m31I, pu_m31, pu_shlI, eq_self, Bool.false_eq_true, Bool.true_eq_false, hf1, hi, Option.isSome_some, hub, r_isUnknown h (u := u) (by omega), bq_f z, g1 u (by omega), z2, z]
                  simp [oI]
        · rw [if_neg k7]
          have hua := hu a
          cases e : ix (fd 0 0) a with
          | none =>
            rw [e] at hua
            unfold f_X12_whyNotSwapped f_X12_whyNotSwapped_16 f_X12_whyNot_103 f_X12_whyNot_129 f_X12_whyNot_146 f_X12_whyNot_164 f_X12_whyNot_231
            rcases (by omega : k = 2 ∨ k = 3 ∨ k = 4 ∨ k = 6 ∨ k = 8) with rfl | rfl | rfl | rfl | rfl <;> simp (disch := omega) only [pv_v, pv_b2, pv_b1, pv_x, pv_lit, pv_ofN, pu_chk, pu_cl, nI_add, pk_mul, nI_leI, nI_ltI, nI_eq, pu_nar0, pu_nar1, pu_narb, bI_0, bI_1, ↓reduceIte, pu_leT, pu_leF, pu_ltT, pu_ltF, pu_eqT, pu_eqF, pu_x1, pu_x2, pu_x3, pu_x4, pu_x5, pu_x6, pu_x7, pu_x8, Nat.zero_add, pu_m31I, pu_m31, pu_shlI, eq_self, Bool.false_eq_true, Bool.true_eq_false, hua, Option.isSome_none] <;> rfl
          | some u =>
            obtain ⟨q1, rfl, q3⟩ := ix_s e
            rw [e] at hua
            have hua : f_X12_isUser (nI u) w = some (bI true, w) := hua
            have w3 := hw3 u
            rcases (by omega : k = 2 ∨ k = 3 ∨ k = 4 ∨ k = 6 ∨ k = 8) with rfl | rfl | rfl | rfl | rfl
            · unfold f_X12_whyNot_103
              by_cases z : st 0 u = 0
              · simp (disch := omega) only [pv_v, pv_b2, pv_b1, pv_x, pv_lit, pv_ofN, pu_chk, pu_cl, nI_add, pk_mul, nI_leI, nI_ltI, nI_eq, pu_nar0, pu_nar1, pu_narb, bI_0, bI_1, ↓reduceIte, pu_leT, pu_leF, pu_ltT, pu_ltF, pu_eqT, pu_eqF, pu_x1, pu_x2, pu_x3, pu_x4, pu_x5, pu_x6, pu_x7, pu_x8, Nat.zero_add, pu_m31I, pu_m31, pu_shlI, eq_self, Bool.false_eq_true, Bool.true_eq_false, hua, r_isUnknown h (u := u) (by omega), bq_t z, z]; rfl
              · simp (disch := omega) only [pv_v, pv_b2, pv_b1, pv_x, pv_lit, pv_ofN, pu_chk, pu_cl, nI_add, pk_mul, nI_leI, nI_ltI, nI_eq, pu_nar0, pu_nar1, pu_narb, bI_0, bI_1, ↓reduceIte, pu_leT, pu_leF, pu_ltT, pu_ltF, pu_eqT, pu_eqF, pu_x1, pu_x2, pu_x3, pu_x4, pu_x5, pu_x6, pu_x7, pu_x8, Nat.zero_add, pu_m31I, pu_m31, pu_shlI, eq_self, Bool.false_eq_true, Bool.true_eq_false, hua, r_isUnknown h (u := u) (by omega), bq_f z, z]; rfl
            · unfold f_X12_whyNot_129
              by_cases z : st 0 u = 0
              · simp (disch := omega) only [pv_v, pv_b2, pv_b1, pv_x, pv_lit, pv_ofN, pu_chk, pu_cl, nI_add, pk_mul, nI_leI, nI_ltI, nI_eq, pu_nar0, pu_nar1, pu_narb, bI_0, bI_1, ↓reduceIte, pu_leT, pu_leF, pu_ltT, pu_ltF, pu_eqT, pu_eqF, pu_x1, pu_x2, pu_x3, pu_x4, pu_x5, pu_x6, pu_x7, pu_x8, Nat.zero_add, pu_m31I, pu_m31, pu_shlI, eq_self, Bool.false_eq_true, Bool.true_eq_false, hua, r_isUnknown h (u := u) (by omega), bq_t z, z]; rfl
              · simp (disch := omega) only [pv_v, pv_b2, pv_b1, pv_x, pv_lit, pv_ofN, pu_chk, pu_cl, nI_add, pk_mul, nI_leI, nI_ltI, nI_eq, pu_nar0, pu_nar1, pu_narb, bI_0, bI_1, ↓reduceIte, pu_leT, pu_leF, pu_ltT, pu_ltF, pu_eqT, pu_eqF, pu_x1, pu_x2, pu_x3, pu_x4, pu_x5, pu_x6, pu_x7, pu_x8, Nat.zero_add, pu_m31I, pu_m31, pu_shlI, eq_self, Bool.false_eq_true, Bool.true_eq_false, hua, r_isUnknown h (u := u) (by omega), bq_f z, z]; rfl
            · have hub := r_isSlotI hF h.2.2.1 b
              unfold f_X12_whyNot_146 f_X12_whyNot_164
              cases e2 : ix ((fd 0 1) * (fd 0 2)) b with
              | none => rw [e2] at hub; simp (disch := omega) only [pv_v, pv_b2, pv_b1, pv_x, pv_lit, pv_ofN, pu_chk, pu_cl, nI_add, pk_mul, nI_leI, nI_ltI, nI_eq, pu_nar0, pu_nar1, pu_narb, bI_0, bI_1, ↓reduceIte, pu_leT, pu_leF, pu_ltT, pu_ltF, pu_eqT, pu_eqF, pu_x1, pu_x2, pu_x3, pu_x4, pu_x5, pu_x6, pu_x7, pu_x8, Nat.zero_add, pu_m31I, pu_m31, pu_shlI, eq_self, Bool.false_eq_true, Bool.true_eq_false, hua, hub, Option.isSome_none]; rfl
              | some s =>
                obtain ⟨p1, rfl, p3⟩ := ix_s e2
                rw [e2] at hub
                have hub : f_X12_isSlot (nI s) w = some (bI true, w) := hub
                obtain ⟨l1, l2, l3, l4⟩ := pu_lo_up hF q1
                have hof : f_X12_isOf (nI u) (nI s) w = some (bI (decide (pu_lo fd u ≤ s ∧ s < pu_up fd u)), w) := by
                  unfold f_X12_isOf
                  simp (disch := omega) only [pv_v, pv_b2, pv_b1, pv_x, pv_lit, pv_ofN, pu_chk, pu_cl, nI_add, pk_mul, nI_leI, nI_ltI, nI_eq, pu_nar0, pu_nar1, pu_narb, bI_0, bI_1, ↓reduceIte, pu_leT, pu_leF, pu_ltT, pu_ltF, pu_eqT, pu_eqF, pu_x1, pu_x2, pu_x3, pu_x4, pu_x5, pu_x6, pu_x7, pu_x8, Nat.zero_add, pu_m31I, pu_m31, pu_shlI, eq_self, Bool.false_eq_true, Bool.true_eq_false, r_beginOf h q1, r_widthOf h q1, pk_sub, r_in]
                  congr 3
                  exact decide_eq_decide.mpr (by omega)
                by_cases z : pu_lo fd u ≤ s ∧ s < pu_up fd u
                · rw [decide_eq_true z] at hof
                  simp (disch := omega) only [pv_v, pv_b2, pv_b1, pv_x, pv_lit, pv_ofN, pu_chk, pu_cl, nI_add, pk_mul, nI_leI, nI_ltI, nI_eq, pu_nar0, pu_nar1, pu_narb, bI_0, bI_1, ↓reduceIte, pu_leT, pu_leF, pu_ltT, pu_ltF, pu_eqT, pu_eqF, pu_x1, pu_x2, pu_x3, pu_x4, pu_x5, pu_x6, pu_x7, pu_x8, Nat.zero_add, pu_m31I, pu_m31, pu_shlI, eq_self, Bool.false_eq_true, Bool.true_eq_false, hua, hub, hof]
                  simp [oI, z.1, z.2]
                · rw [decide_eq_false z] at hof
                  simp (disch := omega) only [pv_v, pv_b2, pv_b1, pv_x, pv_lit, pv_ofN, pu_chk, pu_cl, nI_add, pk_mul, nI_leI, nI_ltI, nI_eq, pu_nar0, pu_nar1, pu_narb, bI_0, bI_1, ↓reduceIte, pu_leT, pu_leF, pu_ltT, pu_ltF, pu_eqT, pu_eqF, pu_x1, pu_x2, pu_x3, pu_x4, pu_x5, pu_x6, pu_x7, pu_x8, Nat.zero_add, pu_m31I, pu_m31, pu_shlI, eq_self, Bool.false_eq_true, Bool.true_eq_false, hua, hub, hof, z]
                  rfl
            · have hd := r_degreesOfAll hF h.2.2.1
              have hW : pu_W fd ≤ 594 := hF.2.2.2.2.2.2.2.2
              unfold f_X12_whyNot_231
              by_cases z : pu_W fd = 0
              · simp (disch := omega) only [pv_v, pv_b2, pv_b1, pv_x, pv_lit, pv_ofN, pu_chk, pu_cl, nI_add, pk_mul, nI_leI, nI_ltI, nI_eq, pu_nar0, pu_nar1, pu_narb, bI_0, bI_1, ↓reduceIte, pu_leT, pu_leF, pu_ltT, pu_ltF, pu_eqT, pu_eqF, pu_x1, pu_x2, pu_x3, pu_x4, pu_x5, pu_x6, pu_x7, pu_x8, Nat.zero_add, pu_m31I, pu_m31, pu_shlI, eq_self, Bool.false_eq_true, Bool.true_eq_false, hua, hd, z]; rfl
              · simp (disch := omega) only [pv_v, pv_b2, pv_b1, pv_x, pv_lit, pv_ofN, pu_chk, pu_cl, nI_add, pk_mul, nI_leI, nI_ltI, nI_eq, pu_nar0, pu_nar1, pu_narb, bI_0, bI_1, ↓reduceIte, pu_leT, pu_leF, pu_ltT, pu_ltF, pu_eqT, pu_eqF, pu_x1, pu_x2, pu_x3, pu_x4, pu_x5, pu_x6, pu_x7, pu_x8, Nat.zero_add, pu_m31I, pu_m31, pu_shlI, eq_self, Bool.false_eq_true, Bool.true_eq_false, hua, hd, z]; rfl
            · have hub := hu b
              unfold f_X12_whyNotSwapped f_X12_whyNotSwapped_16 f_X12_whyNotSwapped_59
              cases e2 : ix (fd 0 0) b with
              | none => rw [e2] at hub; simp (disch := omega) only [pv_v, pv_b2, pv_b1, pv_x, pv_lit, pv_ofN, pu_chk, pu_cl, nI_add, pk_mul, nI_leI, nI_ltI, nI_eq, pu_nar0, pu_nar1, pu_narb, bI_0, bI_1, ↓reduceIte, pu_leT, pu_leF, pu_ltT, pu_ltF, pu_eqT, pu_eqF, pu_x1, pu_x2, pu_x3, pu_x4, pu_x5, pu_x6, pu_x7, pu_x8, Nat.zero_add, pu_m31I, pu_m31, pu_shlI, eq_self, Bool.false_eq_true, Bool.true_eq_false, hua, hub, Option.isSome_none]; rfl
              | some o =>
                obtain ⟨p1, rfl, p3⟩ := ix_s e2
                rw [e2] at hub
                have hub : f_X12_isUser (nI o) w = some (bI true, w) := hub
                have t1 := hh u q1
                have t2 := hh o p1
                have lu := wS_lt hF hS u
                have lo := wS_lt hF hS o
                have hlk : f_X12_haveLikeCopies (nI u) (nI o) w = some (bI (decide (st 1 u = st 1 o)), w) := by
                  unfold f_X12_haveLikeCopies f_X12_haveLikeCopies_46 f_X12_haveLikeCopies_47
                  have m1 : st 1 u % 2 ^ 24 < 2 ^ 31 := by omega
                  have m2 : st 1 o % 2 ^ 24 < 2 ^ 31 := by omega
                  have m3 : st 1 u / 2 ^ 24 < 2 ^ 31 := by omega
                  have m4 : st 1 o / 2 ^ 24 < 2 ^ 31 := by omega
                  rw [show (decide (st 1 u = st 1 o)) = decide (st 1 u % 2 ^ 24 = st 1 o % 2 ^ 24 ∧ st 1 u / 2 ^ 24 = st 1 o / 2 ^ 24) from decide_eq_decide.mpr half_eq.symm]
                  generalize hx1 : st 1 u % 2 ^ 24 = x1 at *
                  generalize hx2 : st 1 o % 2 ^ 24 = x2 at *
                  generalize hx3 : st 1 u / 2 ^ 24 = x3 at *
                  generalize hx4 : st 1 o / 2 ^ 24 = x4 at *
                  have r1 := g2 u (by omega)
                  have r2 := g2 o (by omega)
                  have r3 := g3 u (by omega)
                  have r4 := g3 o (by omega)
                  rw [hx1] at r1
                  rw [hx2] at r2
                  rw [hx3] at r3
                  rw [hx4] at r4
                  simp (disch := omega) only [pv_v, pv_b2, pv_b1, pv_x, pv_lit, pv_ofN, pu_chk, pu_cl, nI_add, pk_mul, nI_leI, nI_ltI, nI_eq, pu_nar0, pu_nar1, pu_narb, bI_0, bI_1, ↓reduceIte, pu_leT, pu_leF, pu_ltT, pu_ltF, pu_eqT, pu_eqF, pu_x1, pu_x2, pu_x3, pu_x4, pu_x5, pu_x6, pu_x7, pu_x8, Nat.zero_add, pu_m31I, pu_m31, pu_shlI, eq_self, Bool.false_eq_true, Bool.true_eq_false, r1, r2, r3, r4]
                  by_cases y1 : x1 = x2
                  · by_cases y2 : x3 = x4
                    · rw [if_pos y1, if_pos y2, decide_eq_true ⟨y1, y2⟩]; rfl
                    · rw [if_pos y1, if_neg y2, decide_eq_false (fun q => y2 q.2)]; rfl
                  · rw [if_neg y1, decide_eq_false (fun q => y1 q.1)]; rfl
                by_cases z : fd 3 u = fd 3 o
                · by_cases z2 : st 1 u = st 1 o
                  · rw [decide_eq_true z2] at hlk
                    simp (disch := omega) only [pv_v, pv_b2, pv_b1, pv_x, pv_lit, pv_ofN, pu_chk, pu_cl, nI_add, pk_mul, nI_leI, nI_ltI, nI_eq, pu_nar0, pu_nar1, pu_narb, bI_0, bI_1, ↓reduceIte, pu_leT, pu_leF, pu_ltT, pu_ltF, pu_eqT, pu_eqF, pu_x1, pu_x2, pu_x3, pu_x4, pu_x5, pu_x6, pu_x7, pu_x8, Nat.zero_add, pu_m31I, pu_m31, pu_shlI, eq_self, Bool.false_eq_true, Bool.true_eq_false, hua, hub, hm u q1, hm o p1, z, hlk, z2]; rfl
                  · rw [decide_eq_false z2] at hlk
                    simp (disch := omega) only [pv_v, pv_b2, pv_b1, pv_x, pv_lit, pv_ofN, pu_chk, pu_cl, nI_add, pk_mul, nI_leI, nI_ltI, nI_eq, pu_nar0, pu_nar1, pu_narb, bI_0, bI_1, ↓reduceIte, pu_leT, pu_leF, pu_ltT, pu_ltF, pu_eqT, pu_eqF, pu_x1, pu_x2, pu_x3, pu_x4, pu_x5, pu_x6, pu_x7, pu_x8, Nat.zero_add, pu_m31I, pu_m31, pu_shlI, eq_self, Bool.false_eq_true, Bool.true_eq_false, hua, hub, hm u q1, hm o p1, z, hlk, z2]; rfl
                · simp (disch := omega) only [pv_v, pv_b2, pv_b1, pv_x, pv_lit, pv_ofN, pu_chk, pu_cl, nI_add, pk_mul, nI_leI, nI_ltI, nI_eq, pu_nar0, pu_nar1, pu_narb, bI_0, bI_1, ↓reduceIte, pu_leT, pu_leF, pu_ltT, pu_ltF, pu_eqT, pu_eqF, pu_x1, pu_x2, pu_x3, pu_x4, pu_x5, pu_x6, pu_x7, pu_x8, Nat.zero_add, pu_m31I, pu_m31, pu_shlI, eq_self, Bool.false_eq_true, Bool.true_eq_false, hua, hub, hm u q1, hm o p1, z]; rfl
end WHY
