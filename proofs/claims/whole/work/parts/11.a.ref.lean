/-! pure part: the reference's questions about its row (wip/whole/pure/11.a.ref.src) -/
def rS (st : Nat → Nat → Nat) (g : Nat → Int32) : Prop := (∀ u, u < 10 → g u = nI (st 0 u)) ∧ (∀ u, u < 10 → g (10 + u) = nI (st 1 u % 2 ^ 24)) ∧ (∀ u, u < 10 → g (20 + u) = nI (st 1 u / 2 ^ 24)) ∧ g 30 = nI (st 2 0) ∧ (∀ j, j < 3 → g (31 + 11 * j) = nI (st 3 j)) ∧ (∀ j i, j < 3 → i < st 3 j → g (32 + 11 * j + i) = nI (st 4 (10 * j + i)))
def rF (fd : Nat → Nat → Nat) (w : am_S) : Prop := w.1 271 13 = nI (fd 0 0) ∧ w.1 276 0 = nI (fd 0 1) ∧ w.1 276 1 = nI (fd 0 2) ∧ w.1 276 3 = nI (fd 0 3) ∧ (∀ u, u < (fd 0 0) → w.1 277 (5 * u) = nI (fd 1 u) ∧ w.1 277 (5 * u + 1) = nI (fd 2 u) ∧ w.1 277 (5 * u + 2) = nI (fd 3 u)) ∧ (∀ k, 1 ≤ k → k ≤ 6 → w.1 278 k = nI (fd 4 k)) ∧ (∀ u, u < (fd 0 0) → w.2.2 283 u = pu_f fd u)
/-- the reference's side of FIELD and state; jm: the JAMMED SLOTS -/
def rQ (fd st : Nat → Nat → Nat) (jm : Nat) (w : am_S) : Prop := wF fd ∧ wS fd st ∧ rF fd w ∧ rS st (w.1 281) ∧ w.2.1 271 20 = lN jm ∧ jm < 2 ^ 48
section REF
variable {fd st : Nat → Nat → Nat} {jm : Nat} {w : am_S}
theorem r_bits {a : Nat} (ha : a < 2 ^ 31) : f_X12_bits (nI a) w = some (nI (pu_B a), w) := by
  unfold f_X12_bits f_X12_bits_4
  refine pu_tr (fun i => (nI (pu_C (fun u => a.testBit u) i), nI i, w)) 24 rfl (by decide) (fun i hi => ?_) ?_
  · unfold f_X12_bits_4b
    simp (disch := omega) only [pv_v, pv_b2, pv_b1, pv_x, pv_lit, pv_ofN, pu_chk, pu_cl, nI_add, pk_mul, nI_leI, nI_ltI, nI_eq, pu_nar0, pu_nar1, pu_narb, bI_0, bI_1, ↓reduceIte, pu_leT, pu_leF, pu_ltT, pu_ltF, pu_eqT, pu_eqF, pu_x1, pu_x2, pu_x3, pu_x4, pu_x5, pu_x6, pu_x7, pu_x8, Nat.zero_add, pu_m31I, pu_m31, pu_shlI, eq_self, Bool.false_eq_true, Bool.true_eq_false, pu_shrI, pu_and, pu_bitN]
    rw [bI_eq, nI_add, pu_C_succ]
    cases a.testBit i <;> rfl
  · unfold f_X12_bits_4b
    simp (disch := omega) only [pv_v, pv_b2, pv_b1, pv_x, pv_lit, pv_ofN, pu_chk, pu_cl, nI_add, pk_mul, nI_leI, nI_ltI, nI_eq, pu_nar0, pu_nar1, pu_narb, bI_0, bI_1, ↓reduceIte, pu_leT, pu_leF, pu_ltT, pu_ltF, pu_eqT, pu_eqF, pu_x1, pu_x2, pu_x3, pu_x4, pu_x5, pu_x6, pu_x7, pu_x8, Nat.zero_add, pu_m31I, pu_m31, pu_shlI, eq_self, Bool.false_eq_true, Bool.true_eq_false]
    rfl
theorem r_has {a k : Nat} (ha : a < 2 ^ 31) (hk : k < 31) : f_X12_has (nI a) (nI k) w = some (bI (a.testBit k), w) := by
  unfold f_X12_has f_X12_has_14
  simp (disch := omega) only [pv_v, pv_b2, pv_b1, pv_x, pv_lit, pv_ofN, pu_chk, pu_cl, nI_add, pk_mul, nI_leI, nI_ltI, nI_eq, pu_nar0, pu_nar1, pu_narb, bI_0, bI_1, ↓reduceIte, pu_leT, pu_leF, pu_ltT, pu_ltF, pu_eqT, pu_eqF, pu_x1, pu_x2, pu_x3, pu_x4, pu_x5, pu_x6, pu_x7, pu_x8, Nat.zero_add, pu_m31I, pu_m31, pu_shlI, eq_self, Bool.false_eq_true, Bool.true_eq_false, pu_shrI, pu_and, pu_bitN]
  cases a.testBit k <;> rfl
theorem r_isField (h1 : w.1 271 13 = nI (fd 0 0)) (hn : (fd 0 0) ≤ 10) : f_X12_isField w = some (bI (decide (0 < (fd 0 0))), w) := by
  unfold f_X12_isField f_X12_isField_12
  simp (disch := omega) only [pv_v, pv_b2, pv_b1, pv_x, pv_lit, pv_ofN, pu_chk, pu_cl, nI_add, pk_mul, nI_leI, nI_ltI, nI_eq, pu_nar0, pu_nar1, pu_narb, bI_0, bI_1, ↓reduceIte, pu_leT, pu_leF, pu_ltT, pu_ltF, pu_eqT, pu_eqF, pu_x1, pu_x2, pu_x3, pu_x4, pu_x5, pu_x6, pu_x7, pu_x8, Nat.zero_add, pu_m31I, pu_m31, pu_shlI, eq_self, Bool.false_eq_true, Bool.true_eq_false, h1]
  by_cases c : (fd 0 0) ≤ 0
  · rw [if_pos c, decide_eq_false (by omega)]; rfl
  · rw [if_neg c, decide_eq_true (by omega)]; rfl
theorem r_in {a b c : Nat} (ha : a < 2 ^ 31) (hb : b < 2 ^ 31) (hc : c < 2 ^ 31) : f_X12_in (nI a) (nI b) (nI c) w = some (bI (decide (b ≤ a ∧ a ≤ c)), w) := by
  unfold f_X12_in f_X12_in_14 f_X12_in_15
  simp (disch := omega) only [pv_v, pv_b2, pv_b1, pv_x, pv_lit, pv_ofN, pu_chk, pu_cl, nI_add, pk_mul, nI_leI, nI_ltI, nI_eq, pu_nar0, pu_nar1, pu_narb, bI_0, bI_1, ↓reduceIte, pu_leT, pu_leF, pu_ltT, pu_ltF, pu_eqT, pu_eqF, pu_x1, pu_x2, pu_x3, pu_x4, pu_x5, pu_x6, pu_x7, pu_x8, Nat.zero_add, pu_m31I, pu_m31, pu_shlI, eq_self, Bool.false_eq_true, Bool.true_eq_false]
  by_cases c1 : a < b
  · rw [if_pos c1, decide_eq_false (by omega)]; rfl
  · rw [if_neg c1]
    by_cases c2 : c < a
    · rw [if_pos c2, decide_eq_false (by omega)]; rfl
    · rw [if_neg c2, decide_eq_true (by omega)]; rfl
theorem r_slotMany (hF : wF fd) (h : rF fd w) : f_X12_slotMany w = some (nI ((fd 0 1) * (fd 0 2)), w) := by
  have h10 := hF.1
  have hz := hF.2.2.2.2.2.2.2.1
  obtain ⟨e1, e2, e3, -⟩ := h
  unfold f_X12_slotMany f_X12_slotMany_24
  simp (disch := omega) only [pv_v, pv_b2, pv_b1, pv_x, pv_lit, pv_ofN, pu_chk, pu_cl, nI_add, pk_mul, nI_leI, nI_ltI, nI_eq, pu_nar0, pu_nar1, pu_narb, bI_0, bI_1, ↓reduceIte, pu_leT, pu_leF, pu_ltT, pu_ltF, pu_eqT, pu_eqF, pu_x1, pu_x2, pu_x3, pu_x4, pu_x5, pu_x6, pu_x7, pu_x8, Nat.zero_add, pu_m31I, pu_m31, pu_shlI, eq_self, Bool.false_eq_true, Bool.true_eq_false, r_isField e1 h10, e2, e3]
  by_cases c : 0 < (fd 0 0)
  · rw [decide_eq_true c]; rfl
  · rw [decide_eq_false c, (hz (by omega)).1]
    simp
theorem r_everybody (h1 : w.1 271 13 = nI (fd 0 0)) (hn : (fd 0 0) ≤ 10) : f_X12_everybody w = some (nI (2 ^ (fd 0 0) - 1), w) := by
  unfold f_X12_everybody
  simp only [h1, pu_lit]
  rw [pu_shl (by omega), pk_sub (Nat.two_pow_pos _)]
theorem r_isUnknown (h : rQ fd st jm w) {u : Nat} (hu : u < 10) : f_X12_isUnknown (nI u) w = some (bI (st 0 u == 0), w) := by
  obtain ⟨hF, hS, hf, ⟨g1, g2, g3, g4, g5, g6⟩, hj, hj2⟩ := h
  have h3 : st 0 u ≤ 3 := hS.2.1 u
  unfold f_X12_isUnknown f_X12_isUnknown_16
  simp (disch := omega) only [pv_v, pv_b2, pv_b1, pv_x, pv_lit, pv_ofN, pu_chk, pu_cl, nI_add, pk_mul, nI_leI, nI_ltI, nI_eq, pu_nar0, pu_nar1, pu_narb, bI_0, bI_1, ↓reduceIte, pu_leT, pu_leF, pu_ltT, pu_ltF, pu_eqT, pu_eqF, pu_x1, pu_x2, pu_x3, pu_x4, pu_x5, pu_x6, pu_x7, pu_x8, Nat.zero_add, pu_m31I, pu_m31, pu_shlI, eq_self, Bool.false_eq_true, Bool.true_eq_false, g1 u hu]
  by_cases c : st 0 u = 0
  · rw [if_pos c, c]; rfl
  · rw [if_neg c, show (st 0 u == 0) = false by simpa using c]; rfl
theorem r_hasCopy (h : rQ fd st jm w) {u s : Nat} (hu : u < 10) (hs : s < 48) : f_X12_hasCopy (nI u) (nI s) w = some (bI ((st 1 u).testBit s), w) := by
  obtain ⟨hF, hS, hf, ⟨g1, g2, g3, g4, g5, g6⟩, hj, hj2⟩ := h
  have hl := wS_lt hF hS u
  have hl2 : st 1 u % 2 ^ 24 < 2 ^ 31 := by omega
  have hl3 : st 1 u / 2 ^ 24 < 2 ^ 31 := by omega
  unfold f_X12_hasCopy f_X12_hasCopy_17
  by_cases c : 24 ≤ s
  · simp (disch := omega) only [pv_v, pv_b2, pv_b1, pv_x, pv_lit, pv_ofN, pu_chk, pu_cl, nI_add, pk_mul, nI_leI, nI_ltI, nI_eq, pu_nar0, pu_nar1, pu_narb, bI_0, bI_1, ↓reduceIte, pu_leT, pu_leF, pu_ltT, pu_ltF, pu_eqT, pu_eqF, pu_x1, pu_x2, pu_x3, pu_x4, pu_x5, pu_x6, pu_x7, pu_x8, Nat.zero_add, pu_m31I, pu_m31, pu_shlI, eq_self, Bool.false_eq_true, Bool.true_eq_false, g3 u hu, pk_rem, r_has]
    rw [Nat.testBit_div_two_pow, show s % 24 + 24 = s by omega]
  · simp (disch := omega) only [pv_v, pv_b2, pv_b1, pv_x, pv_lit, pv_ofN, pu_chk, pu_cl, nI_add, pk_mul, nI_leI, nI_ltI, nI_eq, pu_nar0, pu_nar1, pu_narb, bI_0, bI_1, ↓reduceIte, pu_leT, pu_leF, pu_ltT, pu_ltF, pu_eqT, pu_eqF, pu_x1, pu_x2, pu_x3, pu_x4, pu_x5, pu_x6, pu_x7, pu_x8, Nat.zero_add, pu_m31I, pu_m31, pu_shlI, eq_self, Bool.false_eq_true, Bool.true_eq_false, g2 u hu, pk_rem, r_has]
    rw [Nat.testBit_mod_two_pow, show s % 24 = s by omega, decide_eq_true (by omega), Bool.true_and]
theorem pu_ou {s o : Nat} : (pu_o fd st s &&& pu_u fd st).testBit o = (decide (o < (fd 0 0)) && ((st 0 o == 0) && (st 1 o).testBit s)) := by
  unfold pu_o pu_u
  rw [Nat.testBit_and, pu_S_bit, pu_S_bit]
  cases decide (o < (fd 0 0)) <;> cases (st 1 o).testBit s <;> cases (st 0 o == 0) <;> rfl
theorem r_unknownIn (h : rQ fd st jm w) {s : Nat} (hs : s < 48) : f_X12_unknownIn (nI s) w = some (nI (pu_o fd st s &&& pu_u fd st), w) := by
  have hU := fun u hu => r_isUnknown h (u := u) hu
  have hC := fun u hu => r_hasCopy h (u := u) (s := s) hu hs
  have h10 := h.1.1
  have e1 := h.2.2.1.1
  have he : pu_o fd st s &&& pu_u fd st = pu_S (fun u => (st 0 u == 0) && (st 1 u).testBit s) (fd 0 0) := by
    apply Nat.eq_of_testBit_eq
    intro o
    rw [pu_ou, pu_S_bit]
  rw [he]
  unfold f_X12_unknownIn f_X12_unknownIn_4
  refine pu_tr (fun i => (nI (pu_S (fun u => (st 0 u == 0) && (st 1 u).testBit s) i), nI i, w)) (fd 0 0) rfl (by omega) (fun i hi => ?_) ?_
  · unfold f_X12_unknownIn_4b f_X12_unknownIn_36 f_X12_unknownIn_37
    simp (disch := omega) only [pv_v, pv_b2, pv_b1, pv_x, pv_lit, pv_ofN, pu_chk, pu_cl, nI_add, pk_mul, nI_leI, nI_ltI, nI_eq, pu_nar0, pu_nar1, pu_narb, bI_0, bI_1, ↓reduceIte, pu_leT, pu_leF, pu_ltT, pu_ltF, pu_eqT, pu_eqF, pu_x1, pu_x2, pu_x3, pu_x4, pu_x5, pu_x6, pu_x7, pu_x8, Nat.zero_add, pu_m31I, pu_m31, pu_shlI, eq_self, Bool.false_eq_true, Bool.true_eq_false, e1, hU i (by omega), hC i (by omega)]
    rw [pu_S_succ]
    cases e1 : (st 0 i == 0) <;> cases e2 : (st 1 i).testBit s <;> simp [pu_or]
  · unfold f_X12_unknownIn_4b
    simp (disch := omega) only [pv_v, pv_b2, pv_b1, pv_x, pv_lit, pv_ofN, pu_chk, pu_cl, nI_add, pk_mul, nI_leI, nI_ltI, nI_eq, pu_nar0, pu_nar1, pu_narb, bI_0, bI_1, ↓reduceIte, pu_leT, pu_leF, pu_ltT, pu_ltF, pu_eqT, pu_eqF, pu_x1, pu_x2, pu_x3, pu_x4, pu_x5, pu_x6, pu_x7, pu_x8, Nat.zero_add, pu_m31I, pu_m31, pu_shlI, eq_self, Bool.false_eq_true, Bool.true_eq_false, e1]
theorem r_dinAt (h : rQ fd st jm w) {u s : Nat} (hu : u < (fd 0 0)) (hs : s < 48) : f_X12_dinAt (nI u) (nI s) w = some (pu_d fd (pu_sd (pu_o fd st s &&& pu_u fd st) (2 ^ u)) (fd 0 0), w) := by
  have hU := fun u hu => r_isUnknown h (u := u) hu
  have hC := fun u hu => r_hasCopy h (u := u) (s := s) hu hs
  have hF := h.1
  have h10 := h.1.1
  have hz := hF.2.2.2.2.1
  obtain ⟨e1, e2, e3, e4, e5, e6, e7⟩ := h.2.2.1
  have ht := pu_t_le hz
  have n1 : ∀ {α : Type} (k : Option α), am_n32 (pu_t (fd 0 3)) k = k := fun k => fn_ok (by rw [fI_v]; omega)
  have t1 : FP.fdiv (FP.i2f (nI (fd 0 3))) (1092616192 : UInt32) = pu_t (fd 0 3) := rfl
  unfold f_X12_dinAt
  simp (disch := omega) only [pv_v, pv_b2, pv_b1, pv_x, pv_lit, pv_ofN, pu_chk, pu_cl, nI_add, pk_mul, nI_leI, nI_ltI, nI_eq, pu_nar0, pu_nar1, pu_narb, bI_0, bI_1, ↓reduceIte, pu_leT, pu_leF, pu_ltT, pu_ltF, pu_eqT, pu_eqF, pu_x1, pu_x2, pu_x3, pu_x4, pu_x5, pu_x6, pu_x7, pu_x8, Nat.zero_add, pu_m31I, pu_m31, pu_shlI, eq_self, Bool.false_eq_true, Bool.true_eq_false, e4, t1, n1]
  unfold f_X12_dinAt_14
  refine pu_tr (fun i => (pu_d fd (pu_sd (pu_o fd st s &&& pu_u fd st) (2 ^ u)) i, nI i, w)) (fd 0 0) rfl (by omega) (fun i hi => ?_) ?_
  · have hb : (pu_sd (pu_o fd st s &&& pu_u fd st) (2 ^ u)).testBit i = (!decide (u = i) && ((st 0 i == 0) && (st 1 i).testBit s)) := by
      rw [pu_sd_bit, pu_ou, decide_eq_true hi, pu_p_bit, Bool.true_and, Bool.and_comm]
    have hd := pu_d_fin hF (m := pu_sd (pu_o fd st s &&& pu_u fd st) (2 ^ u)) (i := i + 1) (by omega)
    unfold f_X12_dinAt_14b f_X12_dinAt_58
    simp (disch := omega) only [pv_v, pv_b2, pv_b1, pv_x, pv_lit, pv_ofN, pu_chk, pu_cl, nI_add, pk_mul, nI_leI, nI_ltI, nI_eq, pu_nar0, pu_nar1, pu_narb, bI_0, bI_1, ↓reduceIte, pu_leT, pu_leF, pu_ltT, pu_ltF, pu_eqT, pu_eqF, pu_x1, pu_x2, pu_x3, pu_x4, pu_x5, pu_x6, pu_x7, pu_x8, Nat.zero_add, pu_m31I, pu_m31, pu_shlI, eq_self, Bool.false_eq_true, Bool.true_eq_false, e1, hU i (by omega), hC i (by omega), e7 i hi]
    by_cases c : i = u
    · rw [if_pos c, pu_d_f (by rw [hb, decide_eq_true c.symm]; rfl)]
    · rw [if_neg c]
      rw [decide_eq_false (fun e => c e.symm)] at hb
      cases e1 : (st 0 i == 0)
      · rw [pu_d_f (by rw [hb, e1]; rfl)]; rfl
      · cases e2 : (st 1 i).testBit s
        · rw [pu_d_f (by rw [hb, e2]; simp)]; rfl
        · have hb2 : (pu_sd (pu_o fd st s &&& pu_u fd st) (2 ^ u)).testBit i = true := by rw [hb, e1, e2]; rfl
          rw [pu_d_t hb2] at hd ⊢
          rw [if_neg (by decide), if_neg (by decide), fn_ok (by rw [fI_v]; omega)]
  · unfold f_X12_dinAt_14b
    simp (disch := omega) only [pv_v, pv_b2, pv_b1, pv_x, pv_lit, pv_ofN, pu_chk, pu_cl, nI_add, pk_mul, nI_leI, nI_ltI, nI_eq, pu_nar0, pu_nar1, pu_narb, bI_0, bI_1, ↓reduceIte, pu_leT, pu_leF, pu_ltT, pu_ltF, pu_eqT, pu_eqF, pu_x1, pu_x2, pu_x3, pu_x4, pu_x5, pu_x6, pu_x7, pu_x8, Nat.zero_add, pu_m31I, pu_m31, pu_shlI, eq_self, Bool.false_eq_true, Bool.true_eq_false, e1]
theorem r_bar (h : rQ fd st jm w) {u s : Nat} (hu : u < (fd 0 0)) (hs : s < 48) : f_X12_bar (nI u) (nI s) w = some (pu_b fd (st 2 0) (pu_sd (pu_o fd st s &&& pu_u fd st) (2 ^ u)), w) := by
  have hc := h.2.1.1
  have ht := pu_t_le hc
  have hb := pu_b_fin h.1 (o := pu_sd (pu_o fd st s &&& pu_u fd st) (2 ^ u)) hc
  have n1 : ∀ {α : Type} (k : Option α), am_n32 (pu_t (st 2 0)) k = k := fun k => fn_ok (by rw [fI_v]; omega)
  have n2 : ∀ {α : Type} (k : Option α), am_n32 (pu_b fd (st 2 0) (pu_sd (pu_o fd st s &&& pu_u fd st) (2 ^ u))) k = k := fun k => fn_ok (by rw [fI_v]; omega)
  have t1 : FP.fdiv (FP.i2f (nI (st 2 0))) (1092616192 : UInt32) = pu_t (st 2 0) := rfl
  have t2 : FP.fmul (pu_t (st 2 0)) (pu_d fd (pu_sd (pu_o fd st s &&& pu_u fd st) (2 ^ u)) (fd 0 0)) = pu_b fd (st 2 0) (pu_sd (pu_o fd st s &&& pu_u fd st) (2 ^ u)) := rfl
  have g4 := h.2.2.2.1.2.2.2.1
  unfold f_X12_bar
  simp (disch := omega) only [pv_v, pv_b2, pv_b1, pv_x, pv_lit, pv_ofN, pu_chk, pu_cl, nI_add, pk_mul, nI_leI, nI_ltI, nI_eq, pu_nar0, pu_nar1, pu_narb, bI_0, bI_1, ↓reduceIte, pu_leT, pu_leF, pu_ltT, pu_ltF, pu_eqT, pu_eqF, pu_x1, pu_x2, pu_x3, pu_x4, pu_x5, pu_x6, pu_x7, pu_x8, Nat.zero_add, pu_m31I, pu_m31, pu_shlI, eq_self, Bool.false_eq_true, Bool.true_eq_false, g4, t1, n1, r_dinAt h hu hs, t2, n2]
/-- who is CLEAR in a SLOT as it is now -/
def pu_K (fd st : Nat → Nat → Nat) (jm s : Nat) : Nat := if jm.testBit s then 0 else pu_k fd (st 2 0) (pu_o fd st s &&& pu_u fd st)
theorem pu_K_lt {s : Nat} : pu_K fd st jm s < 2 ^ (fd 0 0) := by
  unfold pu_K
  split
  · exact Nat.two_pow_pos _
  · exact pu_k_lt
theorem pu_sd_eq0 {m u : Nat} (h : m.testBit u = true) : (m = 2 ^ u) ↔ (pu_sd m (2 ^ u) = 0) := by
  rw [pu_sd0]
  constructor
  · intro e; rw [← e]; exact sb.rf
  · intro e
    refine e.eq (fun i hi => ?_)
    rw [pu_p_bit, decide_eq_true_iff] at hi
    subst hi
    exact h
theorem r_isClear (h : rQ fd st jm w) {u s : Nat} (hu : u < (fd 0 0)) (hs : s < 48) : f_X12_isClear (nI u) (nI s) w = some (bI ((pu_K fd st jm s).testBit u), w) := by
  have hc := h.2.1.1
  have h10 := h.1.1
  have hb := pu_b_fin h.1 (o := pu_sd (pu_o fd st s &&& pu_u fd st) (2 ^ u)) hc
  have hf := (pu_f_ok h.1 hu).2.2.2
  have hfc := fc_lt (a := pu_f fd u) (b := pu_b fd (st 2 0) (pu_sd (pu_o fd st s &&& pu_u fd st) (2 ^ u))) (by rw [fI_v]; omega) (by rw [fI_v]; omega)
  have g4 := h.2.2.2.1.2.2.2.1
  have e7 := h.2.2.1.2.2.2.2.2.2
  have hj := h.2.2.2.2.1
  have hj2 := h.2.2.2.2.2
  have hou := pu_ou (fd := fd) (st := st) (s := s) (o := u)
  have hm10 := pu_k10 (Nat.lt_of_le_of_lt Nat.and_le_left (pu_o_lt (fd := fd) (st := st) (s := s)) : pu_o fd st s &&& pu_u fd st < 2 ^ (fd 0 0)) h10
  have hp10 := pu_k10 (pu_p2 hu : 2 ^ u < 2 ^ (fd 0 0)) h10
  rw [decide_eq_true hu, Bool.true_and] at hou
  unfold f_X12_isClear f_X12_isClear_30 f_X12_isClear_82
  simp (disch := omega) only [pv_v, pv_b2, pv_b1, pv_x, pv_lit, pv_ofN, pu_chk, pu_cl, nI_add, pk_mul, nI_leI, nI_ltI, nI_eq, pu_nar0, pu_nar1, pu_narb, bI_0, bI_1, ↓reduceIte, pu_leT, pu_leF, pu_ltT, pu_ltF, pu_eqT, pu_eqF, pu_x1, pu_x2, pu_x3, pu_x4, pu_x5, pu_x6, pu_x7, pu_x8, Nat.zero_add, pu_m31I, pu_m31, pu_shlI, eq_self, Bool.false_eq_true, Bool.true_eq_false, r_isUnknown h (u := u) (by omega), r_hasCopy h (u := u) (s := s) (by omega) hs, hj, pu_litL1, lr_1, g4, r_unknownIn h hs, r_bar h hu hs, e7 u hu, hfc]
  cases hk : (pu_K fd st jm s).testBit u
  · unfold pu_K at hk
    cases e1 : (st 0 u == 0)
    · rfl
    cases e2 : (st 1 u).testBit s
    · rfl
    cases e3 : jm.testBit s
    · rw [e1, e2] at hou
      rw [e3, if_neg (by decide)] at hk
      have hq : ¬ pu_q fd (st 2 0) (pu_sd (pu_o fd st s &&& pu_u fd st) (2 ^ u)) u = true := fun hq => by
        rw [pu_k_bit.mpr ⟨hu, hou, hq⟩] at hk; cases hk
      unfold pu_q at hq
      by_cases hc0 : (st 2 0) = 0
      · rw [if_pos hc0] at hq
        have : ¬ pu_o fd st s &&& pu_u fd st = 2 ^ u := fun e => hq (by simpa using (pu_sd_eq0 hou).mp e)
        simp [hc0, this, pu_nar0]
        rfl
      · rw [if_neg hc0] at hq
        have : (pu_f fd u).toNat < (pu_b fd (st 2 0) (pu_sd (pu_o fd st s &&& pu_u fd st) (2 ^ u))).toNat := by simpa using hq
        simp [hc0, this, pu_nar0]
        rfl
    · rfl
  · unfold pu_K at hk
    cases e3 : jm.testBit s
    · rw [e3, if_neg (by decide)] at hk
      obtain ⟨-, h2, hq⟩ := pu_k_bit.mp hk
      rw [h2] at hou
      obtain ⟨e1, e2⟩ := (Bool.and_eq_true _ _).mp hou.symm
      unfold pu_q at hq
      by_cases hc0 : (st 2 0) = 0
      · rw [if_pos hc0] at hq
        have : pu_o fd st s &&& pu_u fd st = 2 ^ u := (pu_sd_eq0 h2).mpr (by simpa using hq)
        simp [hc0, this, e1, e2, pu_nar1]
        rfl
      · rw [if_neg hc0] at hq
        have : ¬ (pu_f fd u).toNat < (pu_b fd (st 2 0) (pu_sd (pu_o fd st s &&& pu_u fd st) (2 ^ u))).toNat := by simpa using hq
        simp [hc0, this, e1, e2, pu_nar1]
        rfl
    · rw [e3, if_pos rfl, Nat.zero_testBit] at hk
      cases hk
theorem r_clearIn (h : rQ fd st jm w) {s : Nat} (hs : s < 48) : f_X12_clearIn (nI s) w = some (nI (pu_K fd st jm s), w) := by
  have h10 := h.1.1
  have e1 := h.2.2.1.1
  rw [← pu_S_self (pu_K_lt (fd := fd) (st := st) (jm := jm) (s := s))]
  unfold f_X12_clearIn f_X12_clearIn_4
  refine pu_tr (fun i => (nI (pu_S (fun u => (pu_K fd st jm s).testBit u) i), nI i, w)) (fd 0 0) rfl (by omega) (fun i hi => ?_) ?_
  · unfold f_X12_clearIn_4b f_X12_clearIn_29
    simp (disch := omega) only [pv_v, pv_b2, pv_b1, pv_x, pv_lit, pv_ofN, pu_chk, pu_cl, nI_add, pk_mul, nI_leI, nI_ltI, nI_eq, pu_nar0, pu_nar1, pu_narb, bI_0, bI_1, ↓reduceIte, pu_leT, pu_leF, pu_ltT, pu_ltF, pu_eqT, pu_eqF, pu_x1, pu_x2, pu_x3, pu_x4, pu_x5, pu_x6, pu_x7, pu_x8, Nat.zero_add, pu_m31I, pu_m31, pu_shlI, eq_self, Bool.false_eq_true, Bool.true_eq_false, e1, r_isClear h hi hs]
    rw [pu_S_succ]
    cases e1 : (pu_K fd st jm s).testBit i <;> simp [pu_or]
  · unfold f_X12_clearIn_4b
    simp (disch := omega) only [pv_v, pv_b2, pv_b1, pv_x, pv_lit, pv_ofN, pu_chk, pu_cl, nI_add, pk_mul, nI_leI, nI_ltI, nI_eq, pu_nar0, pu_nar1, pu_narb, bI_0, bI_1, ↓reduceIte, pu_leT, pu_leF, pu_ltT, pu_ltF, pu_eqT, pu_eqF, pu_x1, pu_x2, pu_x3, pu_x4, pu_x5, pu_x6, pu_x7, pu_x8, Nat.zero_add, pu_m31I, pu_m31, pu_shlI, eq_self, Bool.false_eq_true, Bool.true_eq_false, e1]
theorem r_wayIn (h : rQ fd st jm w) {u s : Nat} (hu : u < (fd 0 0)) (hs : s < 48) : f_X12_wayIn (nI u) (nI s) w = some (nI (if pu_o fd st s &&& pu_u fd st = 2 ^ u then 1 else 2), w) := by
  have h10 := h.1.1
  have hm10 := pu_k10 (Nat.lt_of_le_of_lt Nat.and_le_left (pu_o_lt (fd := fd) (st := st) (s := s)) : pu_o fd st s &&& pu_u fd st < 2 ^ (fd 0 0)) h10
  have hp10 := pu_k10 (pu_p2 hu : 2 ^ u < 2 ^ (fd 0 0)) h10
  unfold f_X12_wayIn f_X12_wayIn_16
  simp (disch := omega) only [pv_v, pv_b2, pv_b1, pv_x, pv_lit, pv_ofN, pu_chk, pu_cl, nI_add, pk_mul, nI_leI, nI_ltI, nI_eq, pu_nar0, pu_nar1, pu_narb, bI_0, bI_1, ↓reduceIte, pu_leT, pu_leF, pu_ltT, pu_ltF, pu_eqT, pu_eqF, pu_x1, pu_x2, pu_x3, pu_x4, pu_x5, pu_x6, pu_x7, pu_x8, Nat.zero_add, pu_m31I, pu_m31, pu_shlI, eq_self, Bool.false_eq_true, Bool.true_eq_false, r_unknownIn h hs]
  split <;> rfl
theorem r_knownSet (h : rQ fd st jm w) : f_X12_knownSet w = some (nI (pu_sd (2 ^ (fd 0 0) - 1) (pu_u fd st)), w) := by
  have h10 := h.1.1
  have e1 := h.2.2.1.1
  have hU := fun u hu => r_isUnknown h (u := u) hu
  have he : pu_sd (2 ^ (fd 0 0) - 1) (pu_u fd st) = pu_S (fun u => !(st 0 u == 0)) (fd 0 0) := by
    apply Nat.eq_of_testBit_eq
    intro o
    unfold pu_u
    rw [pu_sd_bit, pu_S_bit, pu_S_bit, Nat.testBit_two_pow_sub_one]
    cases decide (o < (fd 0 0)) <;> cases (st 0 o == 0) <;> rfl
  rw [he]
  unfold f_X12_knownSet f_X12_knownSet_4
  refine pu_tr (fun i => (nI (pu_S (fun u => !(st 0 u == 0)) i), nI i, w)) (fd 0 0) rfl (by omega) (fun i hi => ?_) ?_
  · unfold f_X12_knownSet_4b f_X12_knownSet_28
    simp (disch := omega) only [pv_v, pv_b2, pv_b1, pv_x, pv_lit, pv_ofN, pu_chk, pu_cl, nI_add, pk_mul, nI_leI, nI_ltI, nI_eq, pu_nar0, pu_nar1, pu_narb, bI_0, bI_1, ↓reduceIte, pu_leT, pu_leF, pu_ltT, pu_ltF, pu_eqT, pu_eqF, pu_x1, pu_x2, pu_x3, pu_x4, pu_x5, pu_x6, pu_x7, pu_x8, Nat.zero_add, pu_m31I, pu_m31, pu_shlI, eq_self, Bool.false_eq_true, Bool.true_eq_false, e1, hU i (by omega)]
    rw [pu_S_succ]
    cases e1 : (st 0 i == 0) <;> simp [pu_or]
  · unfold f_X12_knownSet_4b
    simp (disch := omega) only [pv_v, pv_b2, pv_b1, pv_x, pv_lit, pv_ofN, pu_chk, pu_cl, nI_add, pk_mul, nI_leI, nI_ltI, nI_eq, pu_nar0, pu_nar1, pu_narb, bI_0, bI_1, ↓reduceIte, pu_leT, pu_leF, pu_ltT, pu_ltF, pu_eqT, pu_eqF, pu_x1, pu_x2, pu_x3, pu_x4, pu_x5, pu_x6, pu_x7, pu_x8, Nat.zero_add, pu_m31I, pu_m31, pu_shlI, eq_self, Bool.false_eq_true, Bool.true_eq_false, e1]
theorem pu_sd_sd {a b : Nat} (h : sb b a) : pu_sd a (pu_sd a b) = b := by
  apply Nat.eq_of_testBit_eq
  intro i
  rw [pu_sd_bit, pu_sd_bit]
  have := h i
  cases e : a.testBit i <;> cases e2 : b.testBit i
  · rfl
  · rw [this e2] at e; cases e
  · rfl
  · rfl
theorem sb_all {a n : Nat} (h : a < 2 ^ n) : sb a (2 ^ n - 1) := fun i hi => by
  rw [Nat.testBit_two_pow_sub_one, decide_eq_true_iff]
  rcases Nat.lt_or_ge i n with c | c
  · exact c
  · rw [pu_hi h c] at hi; cases hi
theorem r_unknownOnes (h : rQ fd st jm w) : f_X12_unknownOnes w = some (nI (pu_u fd st), w) := by
  have h10 := h.1.1
  have e1 := h.2.2.1.1
  unfold f_X12_unknownOnes
  rw [r_everybody e1 h10, pu_b2, r_knownSet h, pu_b2]
  rw [show (-1 : Int32) = -nI 1 from rfl, pu_andn, pu_sd_sd (sb_all pu_u_lt)]
theorem rF.fr {w w' : am_S} (h : rF fd w) (h1 : w'.1 271 13 = w.1 271 13) (h2 : w'.1 276 = w.1 276) (h3 : w'.1 277 = w.1 277) (h4 : w'.1 278 = w.1 278) (h5 : w'.2.2 283 = w.2.2 283) : rF fd w' := by
  unfold rF
  rw [h1, h2, h3, h4, h5]
  exact h
theorem rF.ex {w w' : am_S} {A : List Nat} (h : rF fd w) (hx : eqx A w w') (hA : ∀ q ∈ [271, 276, 277, 278, 283], q ∉ A) : rF fd w' :=
  h.fr (hx.i (hA 271 (by simp)) 13) (hx.r (hA 276 (by simp))) (hx.r (hA 277 (by simp))) (hx.r (hA 278 (by simp))) (by rw [hx.f])
theorem rQ.ex {w w' : am_S} {A : List Nat} (h : rQ fd st jm w) (hx : eqx A w w') (hA : ∀ q ∈ [271, 276, 277, 278, 281, 283], q ∉ A) : rQ fd st jm w' := by
  obtain ⟨a1, a2, a3, a4, a5, a6⟩ := h
  exact ⟨a1, a2, a3.ex hx (fun q hq => hA q (by revert hq; simp; omega)), by rw [hx.r (hA 281 (by simp))]; exact a4, by rw [hx.l]; exact a5, a6⟩
end REF
