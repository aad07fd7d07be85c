/-! pure part: counts of the reference (wip/whole/pure/13.f.rcnt.src) -/
/-- what is asked of a FRAME -/
def pu_fr (fd st : Nat → Nat → Nat) (f k : Nat) : Nat := if k = 0 then pu_C (fun u => fd 3 u == f) (fd 0 0) else if k = 1 then pu_C (fun u => fd 3 u == f && !(st 0 u == 0)) (fd 0 0) else if k = 2 then pu_sum (fun i => cn (pu_o fd st (f * (fd 0 1) + i))) (fd 0 1) else if k = 3 then pu_C (fun i => !(pu_k fd (st 2 0) (pu_o fd st (f * (fd 0 1) + i) &&& pu_u fd st) == 0)) (fd 0 1) else pu_C (fun u => fd 3 u == f && (sRR (pu_k fd (st 2 0)) (pu_o fd st) (fun _ => true) ((fd 0 1) * (fd 0 2)) (pu_u fd st)).testBit u) (fd 0 0)
section RCNT
variable {fd st : Nat → Nat → Nat} {jm : Nat} {w : am_S}
theorem cn_of {m n : Nat} {p : Nat → Bool} (hm : m < 2 ^ n) (hn : n ≤ 10) (h : ∀ u, u < n → m.testBit u = p u) : cn m = pu_C p n := by
  rw [← pu_C_cn hm hn]
  exact pu_C_cong h
theorem r_copiesIn (h : rQ fd st jm w) {s : Nat} (hs : s < 48) : f_X12_copiesIn (nI s) w = some (nI (cn (pu_o fd st s)), w) := by
  have h10 := h.1.1
  have e1 := h.2.2.1.1
  rw [cn_of (p := fun u => (st 1 u).testBit s) (pu_o_lt (fd := fd) (st := st) (s := s)) h10 (fun u hu => by unfold pu_o; rw [pu_S_bit, decide_eq_true hu, Bool.true_and])]
  unfold f_X12_copiesIn f_X12_copiesIn_4
  refine pu_tr (fun i => (nI (pu_C (fun u => (st 1 u).testBit s) i), nI i, w)) (fd 0 0) rfl (by omega) (fun i hi => ?_) ?_
  · unfold f_X12_copiesIn_4b f_X12_copiesIn_27
    simp (disch := omega) only [pv_v, pv_b2, pv_b1, pv_x, pv_lit, pv_ofN, pu_chk, pu_cl, nI_add, pk_mul, nI_leI, nI_ltI, nI_eq, pu_nar0, pu_nar1, pu_narb, bI_0, bI_1, ↓reduceIte, pu_leT, pu_leF, pu_ltT, pu_ltF, pu_eqT, pu_eqF, pu_x1, pu_x2, pu_x3, pu_x4, pu_x5, pu_x6, pu_x7, pu_x8, Nat.zero_add, pu_m31I, pu_m31, pu_shlI, eq_self, Bool.false_eq_true, Bool.true_eq_false, e1, r_hasCopy h (u := i) (s := s) (by omega) hs, Nat.add_zero]
    cases e : (st 1 i).testBit s
    · rw [pu_C_f (p := fun u => (st 1 u).testBit s) e]; rfl
    · rw [pu_C_t (p := fun u => (st 1 u).testBit s) e]; rfl
  · unfold f_X12_copiesIn_4b
    simp (disch := omega) only [pv_v, pv_b2, pv_b1, pv_x, pv_lit, pv_ofN, pu_chk, pu_cl, nI_add, pk_mul, nI_leI, nI_ltI, nI_eq, pu_nar0, pu_nar1, pu_narb, bI_0, bI_1, ↓reduceIte, pu_leT, pu_leF, pu_ltT, pu_ltF, pu_eqT, pu_eqF, pu_x1, pu_x2, pu_x3, pu_x4, pu_x5, pu_x6, pu_x7, pu_x8, Nat.zero_add, pu_m31I, pu_m31, pu_shlI, eq_self, Bool.false_eq_true, Bool.true_eq_false, e1]
theorem r_fullestSlot (h : rQ fd st jm w) (hn : 0 < (fd 0 0)) : f_X12_fullestSlot w = some (nI (pu_my (fun s => cn (pu_o fd st s)) ((fd 0 1) * (fd 0 2))), w) := by
  have key : ∀ f : Nat → Nat, (∀ s, s < (fd 0 1) * (fd 0 2) → f_X12_copiesIn (nI s) w = some (nI (f s), w)) → (∀ s, f s ≤ 10) → f_X12_fullestSlot w = some (nI (pu_my f ((fd 0 1) * (fd 0 2))), w) := by
    intro f hf hl
    have hT := pu_T48 h.1
    have hS := (h.1.2.2.2.1 hn)
    have hT1 : 1 ≤ (fd 0 1) * (fd 0 2) := Nat.mul_pos (by omega) (by omega)
    unfold f_X12_fullestSlot f_X12_fullestSlot_4
    refine pu_tr (fun i => (nI (pu_my f (i + 1)), nI (i + 1), w)) ((fd 0 1) * (fd 0 2) - 1) ?_ (by omega) (fun i hi => ?_) ?_
    · simp only [pu_my_1, Nat.zero_add, pv_lit]
    · have hlt := pu_my_lt (f := f) i
      have c1 := hl (i + 1)
      have c2 := hl (pu_my f (i + 1))
      unfold f_X12_fullestSlot_4b f_X12_fullestSlot_30
      simp (disch := omega) only [pv_v, pv_b2, pv_b1, pv_x, pv_lit, pv_ofN, pu_chk, pu_cl, nI_add, pk_mul, nI_leI, nI_ltI, nI_eq, pu_nar0, pu_nar1, pu_narb, bI_0, bI_1, ↓reduceIte, pu_leT, pu_leF, pu_ltT, pu_ltF, pu_eqT, pu_eqF, pu_x1, pu_x2, pu_x3, pu_x4, pu_x5, pu_x6, pu_x7, pu_x8, Nat.zero_add, pu_m31I, pu_m31, pu_shlI, eq_self, Bool.false_eq_true, Bool.true_eq_false, r_slotMany h.1 h.2.2.1, hf (i + 1) (by omega), hf (pu_my f (i + 1)) (by omega)]
      rw [pu_my_s (i := i + 1)]
      by_cases e : f (i + 1) ≤ f (pu_my f (i + 1))
      · rw [if_pos e, if_neg (by omega)]
      · rw [if_neg e, if_pos (by omega)]
    · unfold f_X12_fullestSlot_4b
      rw [show (fd 0 1) * (fd 0 2) - 1 + 1 = (fd 0 1) * (fd 0 2) by omega]
      simp (disch := omega) only [pv_v, pv_b2, pv_b1, pv_x, pv_lit, pv_ofN, pu_chk, pu_cl, nI_add, pk_mul, nI_leI, nI_ltI, nI_eq, pu_nar0, pu_nar1, pu_narb, bI_0, bI_1, ↓reduceIte, pu_leT, pu_leF, pu_ltT, pu_ltF, pu_eqT, pu_eqF, pu_x1, pu_x2, pu_x3, pu_x4, pu_x5, pu_x6, pu_x7, pu_x8, Nat.zero_add, pu_m31I, pu_m31, pu_shlI, eq_self, Bool.false_eq_true, Bool.true_eq_false, r_slotMany h.1 h.2.2.1]
  have hT := pu_T48 h.1
  exact key _ (fun s hs => r_copiesIn h (by omega)) (fun s => cn_le _)
theorem r_busiest (h : rQ fd st jm w) (hn : 0 < (fd 0 0)) : f_X12_busiest w = some (nI (pu_my (fun u => cL (st 1 u)) (fd 0 0)), w) := by
  have h10 := h.1.1
  have e1 := h.2.2.1.1
  have key : ∀ f : Nat → Nat, (∀ u, u < 10 → f_X12_copyMany (nI u) w = some (nI (f u), w)) → (∀ s, f s ≤ 48) → f_X12_busiest w = some (nI (pu_my f (fd 0 0)), w) := by
    intro f hf hl
    unfold f_X12_busiest f_X12_busiest_4
    refine pu_tr (fun i => (nI (pu_my f (i + 1)), nI (i + 1), w)) ((fd 0 0) - 1) ?_ (by omega) (fun i hi => ?_) ?_
    · simp only [pu_my_1, Nat.zero_add, pv_lit]
    · have hlt := pu_my_lt (f := f) i
      have c1 := hl (i + 1)
      have c2 := hl (pu_my f (i + 1))
      unfold f_X12_busiest_4b f_X12_busiest_30
      simp (disch := omega) only [pv_v, pv_b2, pv_b1, pv_x, pv_lit, pv_ofN, pu_chk, pu_cl, nI_add, pk_mul, nI_leI, nI_ltI, nI_eq, pu_nar0, pu_nar1, pu_narb, bI_0, bI_1, ↓reduceIte, pu_leT, pu_leF, pu_ltT, pu_ltF, pu_eqT, pu_eqF, pu_x1, pu_x2, pu_x3, pu_x4, pu_x5, pu_x6, pu_x7, pu_x8, Nat.zero_add, pu_m31I, pu_m31, pu_shlI, eq_self, Bool.false_eq_true, Bool.true_eq_false, e1, hf (i + 1) (by omega), hf (pu_my f (i + 1)) (by omega)]
      rw [pu_my_s (i := i + 1)]
      by_cases e : f (i + 1) ≤ f (pu_my f (i + 1))
      · rw [if_pos e, if_neg (by omega)]
      · rw [if_neg e, if_pos (by omega)]
    · unfold f_X12_busiest_4b
      rw [show (fd 0 0) - 1 + 1 = (fd 0 0) by omega]
      simp (disch := omega) only [pv_v, pv_b2, pv_b1, pv_x, pv_lit, pv_ofN, pu_chk, pu_cl, nI_add, pk_mul, nI_leI, nI_ltI, nI_eq, pu_nar0, pu_nar1, pu_narb, bI_0, bI_1, ↓reduceIte, pu_leT, pu_leF, pu_ltT, pu_ltF, pu_eqT, pu_eqF, pu_x1, pu_x2, pu_x3, pu_x4, pu_x5, pu_x6, pu_x7, pu_x8, Nat.zero_add, pu_m31I, pu_m31, pu_shlI, eq_self, Bool.false_eq_true, Bool.true_eq_false, e1]
  exact key _ (fun u hu => r_copyMany h hu) (fun u => cL_le _)
theorem r_strongest (h : rQ fd st jm w) (hn : 0 < (fd 0 0)) : f_X12_strongest w = some (nI (pu_my (fun u => (pu_f fd u).toNat) (fd 0 0)), w) := by
  have h10 := h.1.1
  have e1 := h.2.2.1.1
  have e7 := h.2.2.1.2.2.2.2.2.2
  unfold f_X12_strongest f_X12_strongest_4
  refine pu_tr (fun i => (nI (pu_my (fun u => (pu_f fd u).toNat) (i + 1)), nI (i + 1), w)) ((fd 0 0) - 1) ?_ (by omega) (fun i hi => ?_) ?_
  · simp only [pu_my_1, Nat.zero_add, pv_lit]
  · have hlt := pu_my_lt (f := fun u => (pu_f fd u).toNat) i
    have f1 := (pu_f_ok h.1 (u := i + 1) (by omega)).2.2.2
    have f2 := (pu_f_ok h.1 (u := pu_my (fun u => (pu_f fd u).toNat) (i + 1)) (by omega)).2.2.2
    have hfc := fc_le (a := pu_f fd (i + 1)) (b := pu_f fd (pu_my (fun u => (pu_f fd u).toNat) (i + 1))) (by rw [fI_v]; omega) (by rw [fI_v]; omega)
    unfold f_X12_strongest_4b f_X12_strongest_33
    simp (disch := omega) only [pv_v, pv_b2, pv_b1, pv_x, pv_lit, pv_ofN, pu_chk, pu_cl, nI_add, pk_mul, nI_leI, nI_ltI, nI_eq, pu_nar0, pu_nar1, pu_narb, bI_0, bI_1, ↓reduceIte, pu_leT, pu_leF, pu_ltT, pu_ltF, pu_eqT, pu_eqF, pu_x1, pu_x2, pu_x3, pu_x4, pu_x5, pu_x6, pu_x7, pu_x8, Nat.zero_add, pu_m31I, pu_m31, pu_shlI, eq_self, Bool.false_eq_true, Bool.true_eq_false, e1, e7 (i + 1) (by omega), e7 (pu_my (fun u => (pu_f fd u).toNat) (i + 1)) (by omega), hfc]
    rw [pu_my_s (i := i + 1)]
    by_cases e : (pu_f fd (i + 1)).toNat ≤ (pu_f fd (pu_my (fun u => (pu_f fd u).toNat) (i + 1))).toNat
    · rw [if_pos e, if_neg (by omega)]
    · rw [if_neg e, if_pos (by omega)]
  · unfold f_X12_strongest_4b
    rw [show (fd 0 0) - 1 + 1 = (fd 0 0) by omega]
    simp (disch := omega) only [pv_v, pv_b2, pv_b1, pv_x, pv_lit, pv_ofN, pu_chk, pu_cl, nI_add, pk_mul, nI_leI, nI_ltI, nI_eq, pu_nar0, pu_nar1, pu_narb, bI_0, bI_1, ↓reduceIte, pu_leT, pu_leF, pu_ltT, pu_ltF, pu_eqT, pu_eqF, pu_x1, pu_x2, pu_x3, pu_x4, pu_x5, pu_x6, pu_x7, pu_x8, Nat.zero_add, pu_m31I, pu_m31, pu_shlI, eq_self, Bool.false_eq_true, Bool.true_eq_false, e1]
theorem r_slotsWith (h : rQ fd st jm w) {k : Nat} (hk : k < 100) : f_X12_slotsWith (nI k) w = some (nI (pu_C (fun s => cn (pu_o fd st s) == k) ((fd 0 1) * (fd 0 2))), w) := by
  have hT := pu_T48 h.1
  unfold f_X12_slotsWith f_X12_slotsWith_4
  refine pu_tr (fun i => (nI (pu_C (fun s => cn (pu_o fd st s) == k) i), nI i, w)) ((fd 0 1) * (fd 0 2)) rfl (by omega) (fun i hi => ?_) ?_
  · have c1 := cn_le (pu_o fd st i)
    unfold f_X12_slotsWith_4b f_X12_slotsWith_27
    simp (disch := omega) only [pv_v, pv_b2, pv_b1, pv_x, pv_lit, pv_ofN, pu_chk, pu_cl, nI_add, pk_mul, nI_leI, nI_ltI, nI_eq, pu_nar0, pu_nar1, pu_narb, bI_0, bI_1, ↓reduceIte, pu_leT, pu_leF, pu_ltT, pu_ltF, pu_eqT, pu_eqF, pu_x1, pu_x2, pu_x3, pu_x4, pu_x5, pu_x6, pu_x7, pu_x8, Nat.zero_add, pu_m31I, pu_m31, pu_shlI, eq_self, Bool.false_eq_true, Bool.true_eq_false, r_slotMany h.1 h.2.2.1, r_copiesIn h (s := i) (by omega), Nat.add_zero]
    by_cases e : cn (pu_o fd st i) = k
    · rw [if_pos e, pu_C_t (p := fun s => cn (pu_o fd st s) == k) (bq_t e)]
    · rw [if_neg e, pu_C_f (p := fun s => cn (pu_o fd st s) == k) (bq_f e)]
  · unfold f_X12_slotsWith_4b
    simp (disch := omega) only [pv_v, pv_b2, pv_b1, pv_x, pv_lit, pv_ofN, pu_chk, pu_cl, nI_add, pk_mul, nI_leI, nI_ltI, nI_eq, pu_nar0, pu_nar1, pu_narb, bI_0, bI_1, ↓reduceIte, pu_leT, pu_leF, pu_ltT, pu_ltF, pu_eqT, pu_eqF, pu_x1, pu_x2, pu_x3, pu_x4, pu_x5, pu_x6, pu_x7, pu_x8, Nat.zero_add, pu_m31I, pu_m31, pu_shlI, eq_self, Bool.false_eq_true, Bool.true_eq_false, r_slotMany h.1 h.2.2.1]
theorem r_copiesOfAll (h : rQ fd st jm w) : f_X12_copiesOfAll w = some (nI (pu_sum (fun u => cL (st 1 u)) 10), w) := by
  have h10 := h.1.1
  have e1 := h.2.2.1.1
  have hz : pu_sum (fun u => cL (st 1 u)) 10 = pu_sum (fun u => cL (st 1 u)) (fd 0 0) := by
    have key : ∀ d, pu_sum (fun u => cL (st 1 u)) ((fd 0 0) + d) = pu_sum (fun u => cL (st 1 u)) (fd 0 0) := by
      intro d
      induction d with
      | zero => rfl
      | succ d ih =>
        show pu_sum (fun u => cL (st 1 u)) ((fd 0 0) + d) + cL (st 1 ((fd 0 0) + d)) = _
        rw [ih, (h.2.1.2.2.1 ((fd 0 0) + d) (by omega)).2]
        have : cL 0 = 0 := pu_C_zero (fun u _ => Nat.zero_testBit u)
        rw [this]; rfl
    have := key (10 - (fd 0 0))
    rwa [show (fd 0 0) + (10 - (fd 0 0)) = 10 by omega] at this
  rw [hz]
  unfold f_X12_copiesOfAll f_X12_copiesOfAll_4
  refine pu_tr (fun i => (nI (pu_sum (fun u => cL (st 1 u)) i), nI i, w)) (fd 0 0) rfl (by omega) (fun i hi => ?_) ?_
  · unfold f_X12_copiesOfAll_4b
    simp (disch := omega) only [pv_v, pv_b2, pv_b1, pv_x, pv_lit, pv_ofN, pu_chk, pu_cl, nI_add, pk_mul, nI_leI, nI_ltI, nI_eq, pu_nar0, pu_nar1, pu_narb, bI_0, bI_1, ↓reduceIte, pu_leT, pu_leF, pu_ltT, pu_ltF, pu_eqT, pu_eqF, pu_x1, pu_x2, pu_x3, pu_x4, pu_x5, pu_x6, pu_x7, pu_x8, Nat.zero_add, pu_m31I, pu_m31, pu_shlI, eq_self, Bool.false_eq_true, Bool.true_eq_false, e1, r_copyMany h (u := i) (by omega)]
    rfl
  · unfold f_X12_copiesOfAll_4b
    simp (disch := omega) only [pv_v, pv_b2, pv_b1, pv_x, pv_lit, pv_ofN, pu_chk, pu_cl, nI_add, pk_mul, nI_leI, nI_ltI, nI_eq, pu_nar0, pu_nar1, pu_narb, bI_0, bI_1, ↓reduceIte, pu_leT, pu_leF, pu_ltT, pu_ltF, pu_eqT, pu_eqF, pu_x1, pu_x2, pu_x3, pu_x4, pu_x5, pu_x6, pu_x7, pu_x8, Nat.zero_add, pu_m31I, pu_m31, pu_shlI, eq_self, Bool.false_eq_true, Bool.true_eq_false, e1]
theorem r_senders (h : rQ fd st jm w) {k : Nat} (hk : k ≤ 24) : f_X12_senders_23 (nI k) (nI 0) (nI 0) w = some (nI (pu_C (fun u => cL (st 1 u) == k) (fd 0 0)), w) := by
  have h10 := h.1.1
  have e1 := h.2.2.1.1
  unfold f_X12_senders_23
  refine pu_tr (fun i => (nI (pu_C (fun u => cL (st 1 u) == k) i), nI i, w)) (fd 0 0) rfl (by omega) (fun i hi => ?_) ?_
  · have c1 := cL_le (st 1 i)
    unfold f_X12_senders_23b f_X12_senders_46
    simp (disch := omega) only [pv_v, pv_b2, pv_b1, pv_x, pv_lit, pv_ofN, pu_chk, pu_cl, nI_add, pk_mul, nI_leI, nI_ltI, nI_eq, pu_nar0, pu_nar1, pu_narb, bI_0, bI_1, ↓reduceIte, pu_leT, pu_leF, pu_ltT, pu_ltF, pu_eqT, pu_eqF, pu_x1, pu_x2, pu_x3, pu_x4, pu_x5, pu_x6, pu_x7, pu_x8, Nat.zero_add, pu_m31I, pu_m31, pu_shlI, eq_self, Bool.false_eq_true, Bool.true_eq_false, e1, r_copyMany h (u := i) (by omega), Nat.add_zero]
    by_cases e : cL (st 1 i) = k
    · rw [if_pos e, pu_C_t (p := fun u => cL (st 1 u) == k) (bq_t e)]
    · rw [if_neg e, pu_C_f (p := fun u => cL (st 1 u) == k) (bq_f e)]
  · unfold f_X12_senders_23b
    simp (disch := omega) only [pv_v, pv_b2, pv_b1, pv_x, pv_lit, pv_ofN, pu_chk, pu_cl, nI_add, pk_mul, nI_leI, nI_ltI, nI_eq, pu_nar0, pu_nar1, pu_narb, bI_0, bI_1, ↓reduceIte, pu_leT, pu_leF, pu_ltT, pu_ltF, pu_eqT, pu_eqF, pu_x1, pu_x2, pu_x3, pu_x4, pu_x5, pu_x6, pu_x7, pu_x8, Nat.zero_add, pu_m31I, pu_m31, pu_shlI, eq_self, Bool.false_eq_true, Bool.true_eq_false, e1]
theorem c_senders {w : am_S} (hF : wF fd) (hS : wS fd st) (h1 : w.1 11 11 = nI (fd 0 0)) (hc : ∀ u, u < 10 → w.2.1 25 u = lN (st 1 u)) {k : Nat} (hk : k ≤ 24) : f_X11_senders_23 (nI k) (nI 0) (nI 0) w = some (nI (pu_C (fun u => cL (st 1 u) == k) (fd 0 0)), w) := by
  have h10 := hF.1
  unfold f_X11_senders_23
  refine pu_tr (fun i => (nI (pu_C (fun u => cL (st 1 u) == k) i), nI i, w)) (fd 0 0) rfl (by omega) (fun i hi => ?_) ?_
  · have c1 := cL_le (st 1 i)
    have l1 := wS_lt hF hS i
    unfold f_X11_senders_23b f_X11_senders_56
    simp (disch := omega) only [pv_v, pv_b2, pv_b1, pv_x, pv_lit, pv_ofN, pu_chk, pu_cl, nI_add, pk_mul, nI_leI, nI_ltI, nI_eq, pu_nar0, pu_nar1, pu_narb, bI_0, bI_1, ↓reduceIte, pu_leT, pu_leF, pu_ltT, pu_ltF, pu_eqT, pu_eqF, pu_x1, pu_x2, pu_x3, pu_x4, pu_x5, pu_x6, pu_x7, pu_x8, Nat.zero_add, pu_m31I, pu_m31, pu_shlI, eq_self, Bool.false_eq_true, Bool.true_eq_false, h1, hc i (by omega), c_bitCountL, Nat.add_zero]
    by_cases e : cL (st 1 i) = k
    · rw [if_pos e, pu_C_t (p := fun u => cL (st 1 u) == k) (bq_t e)]
    · rw [if_neg e, pu_C_f (p := fun u => cL (st 1 u) == k) (bq_f e)]
  · unfold f_X11_senders_23b
    simp (disch := omega) only [pv_v, pv_b2, pv_b1, pv_x, pv_lit, pv_ofN, pu_chk, pu_cl, nI_add, pk_mul, nI_leI, nI_ltI, nI_eq, pu_nar0, pu_nar1, pu_narb, bI_0, bI_1, ↓reduceIte, pu_leT, pu_leF, pu_ltT, pu_ltF, pu_eqT, pu_eqF, pu_x1, pu_x2, pu_x3, pu_x4, pu_x5, pu_x6, pu_x7, pu_x8, Nat.zero_add, pu_m31I, pu_m31, pu_shlI, eq_self, Bool.false_eq_true, Bool.true_eq_false, h1]
theorem r_frame (h : rQ fd st 0 w) (hn : 0 < (fd 0 0)) {f k : Nat} (hf : f < (fd 0 2)) (hk : k ≤ 4) : Wp (f_X12_frame (nI f) (nI k) w) (fun p => p.1 = nI (pu_fr fd st f k) ∧ eqx [287] w p.2) := by
  have hF := h.1
  have h10 := hF.1
  have h4 := hF.2.2.1
  have h12 := hF.2.1
  have hT := pu_T48 hF
  have hU := pu_u_lt (fd := fd) (st := st)
  have hK := pu_k_M hF h.2.1.1
  have hfS : f * (fd 0 1) + (fd 0 1) ≤ (fd 0 1) * (fd 0 2) := by
    have : (f + 1) * (fd 0 1) ≤ (fd 0 2) * (fd 0 1) := Nat.mul_le_mul_right _ hf
    rw [Nat.add_mul, Nat.one_mul, Nat.mul_comm (fd 0 2)] at this
    exact this
  have e3 := h.2.2.1.2.2.1
  unfold f_X12_frame
  rw [r_isField h.2.2.1.1 h10, pu_b2, decide_eq_true hn, if_neg (by decide), show (0 : Int32) = nI 0 from rfl, show (1 : Int32) = nI 1 from rfl, show (4 : Int32) = nI 4 from rfl, pu_chk _ (by decide) (by decide), pu_cl (by decide), e3, pk_sub (by omega), r_in (by omega) (by omega) (by omega), pu_b2, decide_eq_true ⟨Nat.zero_le _, by omega⟩, if_neg (by decide), r_in (by omega) (by omega) (by omega), pu_b2, decide_eq_true ⟨Nat.zero_le _, hk⟩, if_neg (by decide)]
  have hm : ∀ w', rQ fd st 0 w' → ∀ i, i < (fd 0 0) → w'.1 277 (5 * i + 2) = nI (fd 3 i) := fun w' hq i hi => (hq.2.2.1.2.2.2.2.1 i hi).2.2
  have hh : ∀ i, i < (fd 0 0) → fd 3 i < 10 := fun i hi => by have := (hF.2.2.2.2.2.1 i hi).2.2.2.2; omega
  by_cases k4 : k = 4
  · subst k4
    rw [if_pos rfl]
    refine Wp.b1 ((r_lay h).mono ?_)
    rintro w1 ⟨hq, hl, hx⟩
    have hr := pu_k10 (sRR_lt (occ := pu_o fd st) (sel := fun _ => true) (T := (fd 0 1) * (fd 0 2)) hK hU) h10
    rw [r_unknownOnes hq, pu_b2, r_rem0 hl hU, pu_b2]
    unfold f_X12_frame_58
    refine Wp.of (pu_tr (fun i => (nI (pu_C (fun u => fd 3 u == f && (sRR (pu_k fd (st 2 0)) (pu_o fd st) (fun _ => true) ((fd 0 1) * (fd 0 2)) (pu_u fd st)).testBit u) i), nI i, w1)) (fd 0 0) (b := (nI (pu_C (fun u => fd 3 u == f && (sRR (pu_k fd (st 2 0)) (pu_o fd st) (fun _ => true) ((fd 0 1) * (fd 0 2)) (pu_u fd st)).testBit u) (fd 0 0)), w1)) rfl (by omega) (fun i hi => ?_) ?_) ⟨rfl, hx⟩
    · have h1 := hh i hi
      unfold f_X12_frame_58b f_X12_frame_97 f_X12_frame_98
      simp (disch := omega) only [pv_v, pv_b2, pv_b1, pv_x, pv_lit, pv_ofN, pu_chk, pu_cl, nI_add, pk_mul, nI_leI, nI_ltI, nI_eq, pu_nar0, pu_nar1, pu_narb, bI_0, bI_1, ↓reduceIte, pu_leT, pu_leF, pu_ltT, pu_ltF, pu_eqT, pu_eqF, pu_x1, pu_x2, pu_x3, pu_x4, pu_x5, pu_x6, pu_x7, pu_x8, Nat.zero_add, pu_m31I, pu_m31, pu_shlI, eq_self, Bool.false_eq_true, Bool.true_eq_false, hq.2.2.1.1, hm w1 hq i hi, r_has]
      by_cases e : fd 3 i = f
      · rw [if_pos e]
        cases e2 : (sRR (pu_k fd (st 2 0)) (pu_o fd st) (fun _ => true) ((fd 0 1) * (fd 0 2)) (pu_u fd st)).testBit i
        · rw [pu_C_f (p := fun u => fd 3 u == f && (sRR (pu_k fd (st 2 0)) (pu_o fd st) (fun _ => true) ((fd 0 1) * (fd 0 2)) (pu_u fd st)).testBit u) (by rw [e2, Bool.and_false])]; rfl
        · rw [pu_C_t (p := fun u => fd 3 u == f && (sRR (pu_k fd (st 2 0)) (pu_o fd st) (fun _ => true) ((fd 0 1) * (fd 0 2)) (pu_u fd st)).testBit u) (by rw [e2, bq_t e]; rfl)]; rfl
      · rw [if_neg e, pu_C_f (p := fun u => fd 3 u == f && (sRR (pu_k fd (st 2 0)) (pu_o fd st) (fun _ => true) ((fd 0 1) * (fd 0 2)) (pu_u fd st)).testBit u) (by rw [bq_f e]; rfl)]; rfl
    · unfold f_X12_frame_58b
      simp (disch := omega) only [pv_v, pv_b2, pv_b1, pv_x, pv_lit, pv_ofN, pu_chk, pu_cl, nI_add, pk_mul, nI_leI, nI_ltI, nI_eq, pu_nar0, pu_nar1, pu_narb, bI_0, bI_1, ↓reduceIte, pu_leT, pu_leF, pu_ltT, pu_ltF, pu_eqT, pu_eqF, pu_x1, pu_x2, pu_x3, pu_x4, pu_x5, pu_x6, pu_x7, pu_x8, Nat.zero_add, pu_m31I, pu_m31, pu_shlI, eq_self, Bool.false_eq_true, Bool.true_eq_false, hq.2.2.1.1]
  · rw [if_neg (fun e => k4 ((nI_eq (by omega) (by omega)).mp e))]
    have e1 := h.2.2.1.1
    have e2 := h.2.2.1.2.1
    have tail : ∀ x g N, x = pu_sum g 0 → (k ≤ 1 → N = 0) → (2 ≤ k → N = (fd 0 1)) → (∀ i, i < (fd 0 1) → 2 ≤ k → (if k = 2 then cn (pu_o fd st (f * (fd 0 1) + i)) else (if pu_k fd (st 2 0) (pu_o fd st (f * (fd 0 1) + i) &&& pu_u fd st) = 0 then 0 else 1)) = g i) → f_X12_frame_167 (nI f) (nI k) (nI x) w = some (nI (pu_sum g N), w) := by
      intro x g N hx hN0 hN1 hg
      unfold f_X12_frame_167
      simp (disch := omega) only [pv_v, pv_b2, pv_b1, pv_x, pv_lit, pv_ofN, pu_chk, pu_cl, nI_add, pk_mul, nI_leI, nI_ltI, nI_eq, pu_nar0, pu_nar1, pu_narb, bI_0, bI_1, ↓reduceIte, pu_leT, pu_leF, pu_ltT, pu_ltF, pu_eqT, pu_eqF, pu_x1, pu_x2, pu_x3, pu_x4, pu_x5, pu_x6, pu_x7, pu_x8, Nat.zero_add, pu_m31I, pu_m31, pu_shlI, eq_self, Bool.false_eq_true, Bool.true_eq_false, e2]
      rw [hx]
      unfold f_X12_frame_177
      refine pu_tr (fun i => (nI (pu_sum g i), nI ((fd 0 1) * f + i), w)) N rfl (by by_cases q : k ≤ 1 <;> omega) (fun i hi => ?_) ?_
      · have hk2 : 2 ≤ k := by
          rcases Nat.lt_or_ge k 2 with q | q
          · have := hN0 (by omega); omega
          · exact q
        have hNS := hN1 hk2
        have hgi := hg i (by omega) hk2
        have hsf : (fd 0 1) * f + i < (fd 0 1) * (f + 1) := by rw [Nat.mul_add, Nat.mul_one]; omega
        have hs48 : (fd 0 1) * f + i < 48 := by rw [Nat.mul_comm (fd 0 1) f]; omega
        have hs31 : (fd 0 1) * (f + 1) < 2 ^ 31 := by rw [Nat.mul_add, Nat.mul_one, Nat.mul_comm]; omega
        unfold f_X12_frame_177b f_X12_frame_226
        rw [Nat.mul_comm f (fd 0 1)] at hgi
        have hkk := pu_k10 (pu_k_lt (fd := fd) (c := (st 2 0)) (m := pu_o fd st ((fd 0 1) * f + i) &&& pu_u fd st)) h10
        by_cases q2 : k = 2
        · subst q2
          simp (disch := omega) only [pv_v, pv_b2, pv_b1, pv_x, pv_lit, pv_ofN, pu_chk, pu_cl, nI_add, pk_mul, nI_leI, nI_ltI, nI_eq, pu_nar0, pu_nar1, pu_narb, bI_0, bI_1, ↓reduceIte, pu_leT, pu_leF, pu_ltT, pu_ltF, pu_eqT, pu_eqF, pu_x1, pu_x2, pu_x3, pu_x4, pu_x5, pu_x6, pu_x7, pu_x8, Nat.zero_add, pu_m31I, pu_m31, pu_shlI, eq_self, Bool.false_eq_true, Bool.true_eq_false, e2, r_copiesIn h (s := (fd 0 1) * f + i) hs48]
          rw [if_pos rfl] at hgi
          rw [hgi]
          rfl
        · rw [if_neg q2] at hgi
          by_cases q3 : pu_k fd (st 2 0) (pu_o fd st ((fd 0 1) * f + i) &&& pu_u fd st) = 0
          · rw [if_pos q3] at hgi
            simp (disch := omega) only [pv_v, pv_b2, pv_b1, pv_x, pv_lit, pv_ofN, pu_chk, pu_cl, nI_add, pk_mul, nI_leI, nI_ltI, nI_eq, pu_nar0, pu_nar1, pu_narb, bI_0, bI_1, ↓reduceIte, pu_leT, pu_leF, pu_ltT, pu_ltF, pu_eqT, pu_eqF, pu_x1, pu_x2, pu_x3, pu_x4, pu_x5, pu_x6, pu_x7, pu_x8, Nat.zero_add, pu_m31I, pu_m31, pu_shlI, eq_self, Bool.false_eq_true, Bool.true_eq_false, e2, q2, r_clearIn h (s := (fd 0 1) * f + i) hs48, pu_K_0, q3]
            show _ = some (Sum.inr (nI (pu_sum g i + g i), _, _))
            rw [← hgi]; rfl
          · rw [if_neg q3] at hgi
            simp (disch := omega) only [pv_v, pv_b2, pv_b1, pv_x, pv_lit, pv_ofN, pu_chk, pu_cl, nI_add, pk_mul, nI_leI, nI_ltI, nI_eq, pu_nar0, pu_nar1, pu_narb, bI_0, bI_1, ↓reduceIte, pu_leT, pu_leF, pu_ltT, pu_ltF, pu_eqT, pu_eqF, pu_x1, pu_x2, pu_x3, pu_x4, pu_x5, pu_x6, pu_x7, pu_x8, Nat.zero_add, pu_m31I, pu_m31, pu_shlI, eq_self, Bool.false_eq_true, Bool.true_eq_false, e2, q2, r_clearIn h (s := (fd 0 1) * f + i) hs48, pu_K_0, q3]
            show _ = some (Sum.inr (nI (pu_sum g i + g i), _, _))
            rw [← hgi]; rfl
      · unfold f_X12_frame_177b f_X12_frame_234
        by_cases q : k ≤ 1
        · have hN := hN0 q
          subst hN
          have hs31 : (fd 0 1) * (f + 1) < 2 ^ 31 := by rw [Nat.mul_add, Nat.mul_one, Nat.mul_comm]; omega
          have hs32 : (fd 0 1) * f < 2 ^ 31 := by rw [Nat.mul_comm]; omega
          simp (disch := omega) only [pv_v, pv_b2, pv_b1, pv_x, pv_lit, pv_ofN, pu_chk, pu_cl, nI_add, pk_mul, nI_leI, nI_ltI, nI_eq, pu_nar0, pu_nar1, pu_narb, bI_0, bI_1, ↓reduceIte, pu_leT, pu_leF, pu_ltT, pu_ltF, pu_eqT, pu_eqF, pu_x1, pu_x2, pu_x3, pu_x4, pu_x5, pu_x6, pu_x7, pu_x8, Nat.zero_add, pu_m31I, pu_m31, pu_shlI, eq_self, Bool.false_eq_true, Bool.true_eq_false, e2]
          split <;> rfl
        · have hN := hN1 (by omega)
          rw [hN]
          have hs31 : (fd 0 1) * (f + 1) < 2 ^ 31 := by rw [Nat.mul_add, Nat.mul_one, Nat.mul_comm]; omega
          rw [show (fd 0 1) * f + (fd 0 1) = (fd 0 1) * (f + 1) by rw [Nat.mul_add, Nat.mul_one]]
          simp (disch := omega) only [pv_v, pv_b2, pv_b1, pv_x, pv_lit, pv_ofN, pu_chk, pu_cl, nI_add, pk_mul, nI_leI, nI_ltI, nI_eq, pu_nar0, pu_nar1, pu_narb, bI_0, bI_1, ↓reduceIte, pu_leT, pu_leF, pu_ltT, pu_ltF, pu_eqT, pu_eqF, pu_x1, pu_x2, pu_x3, pu_x4, pu_x5, pu_x6, pu_x7, pu_x8, Nat.zero_add, pu_m31I, pu_m31, pu_shlI, eq_self, Bool.false_eq_true, Bool.true_eq_false, e2]
    unfold f_X12_frame_111
    by_cases k2 : 2 ≤ k
    · have t := tail 0 (fun i => if k = 2 then cn (pu_o fd st (f * (fd 0 1) + i)) else (if pu_k fd (st 2 0) (pu_o fd st (f * (fd 0 1) + i) &&& pu_u fd st) = 0 then 0 else 1)) (fd 0 1) rfl (fun q => by omega) (fun _ => rfl) (fun i _ _ => rfl)
      have hB : f_X12_frame_111b (nI f) (nI k) (nI 0) (nI 0) w = some (.inl (nI (pu_sum (fun i => if k = 2 then cn (pu_o fd st (f * (fd 0 1) + i)) else (if pu_k fd (st 2 0) (pu_o fd st (f * (fd 0 1) + i) &&& pu_u fd st) = 0 then 0 else 1)) (fd 0 1)), w)) := by
        unfold f_X12_frame_111b
        simp (disch := omega) only [pv_v, pv_b2, pv_b1, pv_x, pv_lit, pv_ofN, pu_chk, pu_cl, nI_add, pk_mul, nI_leI, nI_ltI, nI_eq, pu_nar0, pu_nar1, pu_narb, bI_0, bI_1, ↓reduceIte, pu_leT, pu_leF, pu_ltT, pu_ltF, pu_eqT, pu_eqF, pu_x1, pu_x2, pu_x3, pu_x4, pu_x5, pu_x6, pu_x7, pu_x8, Nat.zero_add, pu_m31I, pu_m31, pu_shlI, eq_self, Bool.false_eq_true, Bool.true_eq_false, e1, t]
      refine Wp.of (pu_once hB) ⟨?_, eqx.rf⟩
      unfold pu_fr
      rw [if_neg (by omega), if_neg (by omega)]
      by_cases q2 : k = 2
      · subst q2
        rw [if_pos rfl]
        exact congrArg nI (pu_sum_cong (fun i _ => by rw [if_pos rfl]))
      · rw [if_neg q2, if_pos (by omega)]
        refine congrArg nI ?_
        have : ∀ N, pu_sum (fun i => if k = 2 then cn (pu_o fd st (f * (fd 0 1) + i)) else (if pu_k fd (st 2 0) (pu_o fd st (f * (fd 0 1) + i) &&& pu_u fd st) = 0 then 0 else 1)) N = pu_C (fun i => !(pu_k fd (st 2 0) (pu_o fd st (f * (fd 0 1) + i) &&& pu_u fd st) == 0)) N := by
          intro N
          induction N with
          | zero => rfl
          | succ N ih =>
            show pu_sum _ N + _ = _
            rw [ih, pu_C_succ]
            dsimp only
            rw [if_neg q2]
            by_cases q3 : pu_k fd (st 2 0) (pu_o fd st (f * (fd 0 1) + N) &&& pu_u fd st) = 0
            · rw [if_pos q3, bq_t q3]; rfl
            · rw [if_neg q3, bq_f q3]; rfl
        exact this (fd 0 1)
    · refine Wp.of (pu_tr (fun i => (nI (pu_C (fun u => fd 3 u == f && (k == 0 || !(st 0 u == 0))) i), nI i, w)) (fd 0 0) (b := (nI (pu_C (fun u => fd 3 u == f && (k == 0 || !(st 0 u == 0))) (fd 0 0)), w)) rfl (by omega) (fun i hi => ?_) ?_) ⟨?_, eqx.rf⟩
      · have h1 := hh i hi
        unfold f_X12_frame_111b f_X12_frame_154 f_X12_frame_158 f_X12_frame_159
        simp (disch := omega) only [pv_v, pv_b2, pv_b1, pv_x, pv_lit, pv_ofN, pu_chk, pu_cl, nI_add, pk_mul, nI_leI, nI_ltI, nI_eq, pu_nar0, pu_nar1, pu_narb, bI_0, bI_1, ↓reduceIte, pu_leT, pu_leF, pu_ltT, pu_ltF, pu_eqT, pu_eqF, pu_x1, pu_x2, pu_x3, pu_x4, pu_x5, pu_x6, pu_x7, pu_x8, Nat.zero_add, pu_m31I, pu_m31, pu_shlI, eq_self, Bool.false_eq_true, Bool.true_eq_false, e1, hm w h i hi, r_isUnknown h (u := i) (by omega)]
        by_cases e : fd 3 i = f
        · rw [if_pos e]
          by_cases q : k = 0
          · rw [if_pos q, pu_C_t (p := fun u => fd 3 u == f && (k == 0 || !(st 0 u == 0))) (by rw [bq_t e, bq_t q]; rfl)]
          · rw [if_neg q]
            cases e2 : (st 0 i == 0)
            · rw [pu_C_t (p := fun u => fd 3 u == f && (k == 0 || !(st 0 u == 0))) (by rw [bq_t e, e2]; simp)]; rfl
            · rw [pu_C_f (p := fun u => fd 3 u == f && (k == 0 || !(st 0 u == 0))) (by rw [bq_f q, e2]; simp)]; rfl
        · rw [if_neg e, pu_C_f (p := fun u => fd 3 u == f && (k == 0 || !(st 0 u == 0))) (by rw [bq_f e]; rfl)]; rfl
      · have t : f_X12_frame_167 (nI f) (nI k) (nI (pu_C (fun u => fd 3 u == f && (k == 0 || !(st 0 u == 0))) (fd 0 0))) w = some (nI (pu_C (fun u => fd 3 u == f && (k == 0 || !(st 0 u == 0))) (fd 0 0)), w) := by
          have hs31 : (fd 0 1) * (f + 1) < 2 ^ 31 := by rw [Nat.mul_add, Nat.mul_one, Nat.mul_comm]; omega
          have hs32 : (fd 0 1) * f < 2 ^ 31 := by rw [Nat.mul_comm]; omega
          unfold f_X12_frame_167
          simp (disch := omega) only [pv_v, pv_b2, pv_b1, pv_x, pv_lit, pv_ofN, pu_chk, pu_cl, nI_add, pk_mul, nI_leI, nI_ltI, nI_eq, pu_nar0, pu_nar1, pu_narb, bI_0, bI_1, ↓reduceIte, pu_leT, pu_leF, pu_ltT, pu_ltF, pu_eqT, pu_eqF, pu_x1, pu_x2, pu_x3, pu_x4, pu_x5, pu_x6, pu_x7, pu_x8, Nat.zero_add, pu_m31I, pu_m31, pu_shlI, eq_self, Bool.false_eq_true, Bool.true_eq_false, e2]
          unfold f_X12_frame_177
          refine pu_once ?_
          unfold f_X12_frame_177b f_X12_frame_234
          simp (disch := omega) only [pv_v, pv_b2, pv_b1, pv_x, pv_lit, pv_ofN, pu_chk, pu_cl, nI_add, pk_mul, nI_leI, nI_ltI, nI_eq, pu_nar0, pu_nar1, pu_narb, bI_0, bI_1, ↓reduceIte, pu_leT, pu_leF, pu_ltT, pu_ltF, pu_eqT, pu_eqF, pu_x1, pu_x2, pu_x3, pu_x4, pu_x5, pu_x6, pu_x7, pu_x8, Nat.zero_add, pu_m31I, pu_m31, pu_shlI, eq_self, Bool.false_eq_true, Bool.true_eq_false, e2]
          split <;> rfl
        unfold f_X12_frame_111b
        simp (disch := omega) only [pv_v, pv_b2, pv_b1, pv_x, pv_lit, pv_ofN, pu_chk, pu_cl, nI_add, pk_mul, nI_leI, nI_ltI, nI_eq, pu_nar0, pu_nar1, pu_narb, bI_0, bI_1, ↓reduceIte, pu_leT, pu_leF, pu_ltT, pu_ltF, pu_eqT, pu_eqF, pu_x1, pu_x2, pu_x3, pu_x4, pu_x5, pu_x6, pu_x7, pu_x8, Nat.zero_add, pu_m31I, pu_m31, pu_shlI, eq_self, Bool.false_eq_true, Bool.true_eq_false, e1, t]
      · unfold pu_fr
        by_cases q : k = 0
        · rw [if_pos q]
          exact congrArg nI (pu_C_cong (fun u _ => by rw [bq_t q]; simp))
        · rw [if_neg q, if_pos (by omega)]
          exact congrArg nI (pu_C_cong (fun u _ => by rw [bq_f q]; simp))
end RCNT
