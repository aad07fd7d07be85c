/-! pure part: what the class foretells, on (wip/whole/pure/12.c.ask.src) -/
/-- the SLOTS with one set laid anew -/
def upo (occ : Nat → Nat) (s m : Nat) : Nat → Nat := fun x => if x = s then m else occ x
section ASKC
variable {fd st : Nat → Nat → Nat} {occ : Nat → Nat} {c U : Nat} {w w0 : am_S}
theorem pu_and2 {a u : Nat} : a &&& 2 ^ u = if a.testBit u then 2 ^ u else 0 := by
  apply Nat.eq_of_testBit_eq
  intro i
  rw [Nat.testBit_and, pu_p_bit]
  by_cases e : u = i
  · subst e
    cases h : a.testBit u
    · simp
    · rw [if_pos rfl, pu_p_bit]; simp
  · rw [decide_eq_false e, Bool.and_false]
    split
    · rw [pu_p_bit, decide_eq_false e]
    · rw [Nat.zero_testBit]
theorem c_helpersOf (h : cW fd occ c U w0 w) (hU : U < 2 ^ (fd 0 0)) {u : Nat} (hu : u < 10) : Wp (f_X6_helpersOf (nI u) w) (fun p => p.1 = nI (pu_S (fun o => !(o == u) && (U.testBit o && !(sRR (pu_k fd c) occ (fun _ => true) ((fd 0 1) * (fd 0 2)) (pu_sd U (2 ^ o))).testBit u)) (fd 0 0)) ∧ cW fd occ c U w0 p.2) := by
  have h10 := h.F.1
  unfold f_X6_helpersOf f_X6_helpersOf_4
  refine Wp.for (fun i w => (nI (pu_S (fun o => !(o == u) && (U.testBit o && !(sRR (pu_k fd c) occ (fun _ => true) ((fd 0 1) * (fd 0 2)) (pu_sd U (2 ^ o))).testBit u)) i), nI i, w)) (fun _ w => cW fd occ c U w0 w) (fd 0 0) (by omega) rfl h (fun i w hi hw => ?_) (fun w hw => ?_)
  · have hp10 := pu_k10 (pu_p2 hi : 2 ^ i < 2 ^ (fd 0 0)) h10
    have hS10 := pu_S_n10 (fun o => !(o == u) && (U.testBit o && !(sRR (pu_k fd c) occ (fun _ => true) ((fd 0 1) * (fd 0 2)) (pu_sd U (2 ^ o))).testBit u)) (n := i) (by omega)
    have h31 : (if U.testBit i then 2 ^ i else 0) < 2 ^ 31 := by split <;> omega
    have hr := pu_k10 (sRR_lt (occ := occ) (sel := fun _ => true) (T := (fd 0 1) * (fd 0 2)) hw.K (pu_sd_lt (b := 2 ^ i) hU)) h10
    have hpp := Nat.two_pow_pos i
    unfold f_X6_helpersOf_4b f_X6_helpersOf_42 f_X6_helpersOf_43 f_X6_helpersOf_81
    simp (disch := omega) only [pv_v, pv_b2, pv_b1, pv_x, pv_lit, pv_ofN, pu_chk, pu_cl, nI_add, pk_mul, nI_leI, nI_ltI, nI_eq, pu_nar0, pu_nar1, pu_narb, bI_0, bI_1, ↓reduceIte, pu_leT, pu_leF, pu_ltT, pu_ltF, pu_eqT, pu_eqF, pu_x1, pu_x2, pu_x3, pu_x4, pu_x5, pu_x6, pu_x7, pu_x8, Nat.zero_add, pu_m31I, pu_m31, pu_shlI, eq_self, Bool.false_eq_true, Bool.true_eq_false, hw.n, hw.u, pu_andn, pu_and, pu_and2]
    by_cases c1 : i = u
    · simp (disch := omega) only [pv_v, pv_b2, pv_b1, pv_x, pv_lit, pv_ofN, pu_chk, pu_cl, nI_add, pk_mul, nI_leI, nI_ltI, nI_eq, pu_nar0, pu_nar1, pu_narb, bI_0, bI_1, ↓reduceIte, pu_leT, pu_leF, pu_ltT, pu_ltF, pu_eqT, pu_eqF, pu_x1, pu_x2, pu_x3, pu_x4, pu_x5, pu_x6, pu_x7, pu_x8, Nat.zero_add, pu_m31I, pu_m31, pu_shlI, eq_self, Bool.false_eq_true, Bool.true_eq_false, c1]
      exact Wp.some ⟨w, by rw [pu_S_f (by simp [c1])], hw⟩
    · cases e2 : U.testBit i
      · simp (disch := omega) only [pv_v, pv_b2, pv_b1, pv_x, pv_lit, pv_ofN, pu_chk, pu_cl, nI_add, pk_mul, nI_leI, nI_ltI, nI_eq, pu_nar0, pu_nar1, pu_narb, bI_0, bI_1, ↓reduceIte, pu_leT, pu_leF, pu_ltT, pu_ltF, pu_eqT, pu_eqF, pu_x1, pu_x2, pu_x3, pu_x4, pu_x5, pu_x6, pu_x7, pu_x8, Nat.zero_add, pu_m31I, pu_m31, pu_shlI, eq_self, Bool.false_eq_true, Bool.true_eq_false, c1]
        exact Wp.some ⟨w, by rw [pu_S_f (by simp [e2])], hw⟩
      · simp (disch := omega) only [pv_v, pv_b2, pv_b1, pv_x, pv_lit, pv_ofN, pu_chk, pu_cl, nI_add, pk_mul, nI_leI, nI_ltI, nI_eq, pu_nar0, pu_nar1, pu_narb, bI_0, bI_1, ↓reduceIte, pu_leT, pu_leF, pu_ltT, pu_ltF, pu_eqT, pu_eqF, pu_x1, pu_x2, pu_x3, pu_x4, pu_x5, pu_x6, pu_x7, pu_x8, Nat.zero_add, pu_m31I, pu_m31, pu_shlI, eq_self, Bool.false_eq_true, Bool.true_eq_false, c1]
        refine Wp.b2 ((c_stuckOf hw (pu_sd_lt hU)).mono ?_)
        rintro ⟨r, w'⟩ ⟨rfl, hw'⟩
        simp (disch := omega) only [pv_v, pv_b2, pv_b1, pv_x, pv_lit, pv_ofN, pu_chk, pu_cl, nI_add, pk_mul, nI_leI, nI_ltI, nI_eq, pu_nar0, pu_nar1, pu_narb, bI_0, bI_1, ↓reduceIte, pu_leT, pu_leF, pu_ltT, pu_ltF, pu_eqT, pu_eqF, pu_x1, pu_x2, pu_x3, pu_x4, pu_x5, pu_x6, pu_x7, pu_x8, Nat.zero_add, pu_m31I, pu_m31, pu_shlI, eq_self, Bool.false_eq_true, Bool.true_eq_false, pu_shrI, pu_and, pu_bitN, pu_or]
        cases e3 : (sRR (pu_k fd c) occ (fun _ => true) ((fd 0 1) * (fd 0 2)) (pu_sd U (2 ^ i))).testBit u
        · simp (disch := omega) only [pv_v, pv_b2, pv_b1, pv_x, pv_lit, pv_ofN, pu_chk, pu_cl, nI_add, pk_mul, nI_leI, nI_ltI, nI_eq, pu_nar0, pu_nar1, pu_narb, bI_0, bI_1, ↓reduceIte, pu_leT, pu_leF, pu_ltT, pu_ltF, pu_eqT, pu_eqF, pu_x1, pu_x2, pu_x3, pu_x4, pu_x5, pu_x6, pu_x7, pu_x8, Nat.zero_add, pu_m31I, pu_m31, pu_shlI, eq_self, Bool.false_eq_true, Bool.true_eq_false]
          exact Wp.some ⟨w', by rw [pu_S_t (by simp [c1, e2, e3])], hw'⟩
        · simp (disch := omega) only [pv_v, pv_b2, pv_b1, pv_x, pv_lit, pv_ofN, pu_chk, pu_cl, nI_add, pk_mul, nI_leI, nI_ltI, nI_eq, pu_nar0, pu_nar1, pu_narb, bI_0, bI_1, ↓reduceIte, pu_leT, pu_leF, pu_ltT, pu_ltF, pu_eqT, pu_eqF, pu_x1, pu_x2, pu_x3, pu_x4, pu_x5, pu_x6, pu_x7, pu_x8, Nat.zero_add, pu_m31I, pu_m31, pu_shlI, eq_self, Bool.false_eq_true, Bool.true_eq_false]
          exact Wp.some ⟨w', by rw [pu_S_f (by simp [e3])], hw'⟩
  · unfold f_X6_helpersOf_4b
    simp (disch := omega) only [pv_v, pv_b2, pv_b1, pv_x, pv_lit, pv_ofN, pu_chk, pu_cl, nI_add, pk_mul, nI_leI, nI_ltI, nI_eq, pu_nar0, pu_nar1, pu_narb, bI_0, bI_1, ↓reduceIte, pu_leT, pu_leF, pu_ltT, pu_ltF, pu_eqT, pu_eqF, pu_x1, pu_x2, pu_x3, pu_x4, pu_x5, pu_x6, pu_x7, pu_x8, Nat.zero_add, pu_m31I, pu_m31, pu_shlI, eq_self, Bool.false_eq_true, Bool.true_eq_false, hw.n]
    exact Wp.some ⟨rfl, hw⟩
/-- how many others are known without a USER -/
def pu_ko (fd : Nat → Nat → Nat) (occ : Nat → Nat) (c U u : Nat) : Nat := (fd 0 0) - 1 - cn (sRR (pu_k fd c) occ (fun _ => true) ((fd 0 1) * (fd 0 2)) (pu_sd U (2 ^ u)))
theorem pu_out (hK : kM (pu_k fd c)) (hn : (fd 0 0) ≤ 10) (hU : U < 2 ^ (fd 0 0)) {u : Nat} (hu : u < (fd 0 0)) : cn (sRR (pu_k fd c) occ (fun _ => true) ((fd 0 1) * (fd 0 2)) (pu_sd U (2 ^ u))) + 1 ≤ (fd 0 0) := by
  refine cn_out (sRR_lt hK (pu_sd_lt hU)) hn hu ?_
  cases e : (sRR (pu_k fd c) occ (fun _ => true) ((fd 0 1) * (fd 0 2)) (pu_sd U (2 ^ u))).testBit u
  · rfl
  · have := sRR_sb hK u e
    rw [pu_sd_bit, pu_p_bit, decide_eq_true rfl, Bool.not_true, Bool.and_false] at this
    cases this
theorem c_othersKnownWithout (h : cW fd occ c U w0 w) (hU : U < 2 ^ (fd 0 0)) {u : Nat} (hu : u < (fd 0 0)) : Wp (f_X6_othersKnownWithout (nI u) w) (fun p => p.1 = nI (pu_ko fd occ c U u) ∧ cW fd occ c U w0 p.2) := by
  have h10 := h.F.1
  have hr := pu_k10 (sRR_lt (occ := occ) (sel := fun _ => true) (T := (fd 0 1) * (fd 0 2)) h.K (pu_sd_lt (b := 2 ^ u) hU)) h10
  have ho := pu_out (occ := occ) h.K h10 hU hu
  unfold f_X6_othersKnownWithout
  simp (disch := omega) only [pv_v, pv_b2, pv_b1, pv_x, pv_lit, pv_ofN, pu_chk, pu_cl, nI_add, pk_mul, nI_leI, nI_ltI, nI_eq, pu_nar0, pu_nar1, pu_narb, bI_0, bI_1, ↓reduceIte, pu_leT, pu_leF, pu_ltT, pu_ltF, pu_eqT, pu_eqF, pu_x1, pu_x2, pu_x3, pu_x4, pu_x5, pu_x6, pu_x7, pu_x8, Nat.zero_add, pu_m31I, pu_m31, pu_shlI, eq_self, Bool.false_eq_true, Bool.true_eq_false, h.u, pu_andn, h.n]
  refine Wp.b2 ((c_stuckOf h (pu_sd_lt hU)).mono ?_)
  rintro ⟨r, w'⟩ ⟨rfl, hw'⟩
  simp (disch := omega) only [pv_v, pv_b2, pv_b1, pv_x, pv_lit, pv_ofN, pu_chk, pu_cl, nI_add, pk_mul, nI_leI, nI_ltI, nI_eq, pu_nar0, pu_nar1, pu_narb, bI_0, bI_1, ↓reduceIte, pu_leT, pu_leF, pu_ltT, pu_ltF, pu_eqT, pu_eqF, pu_x1, pu_x2, pu_x3, pu_x4, pu_x5, pu_x6, pu_x7, pu_x8, Nat.zero_add, pu_m31I, pu_m31, pu_shlI, eq_self, Bool.false_eq_true, Bool.true_eq_false, c_bitCount, pk_sub]
  exact Wp.some ⟨rfl, hw'⟩
theorem c_helperOfMost (h : cW fd occ c U w0 w) (hU : U < 2 ^ (fd 0 0)) : Wp (f_X6_helperOfMost w) (fun p => p.1 = oI (pu_mx (fun u => U.testBit u) (pu_ko fd occ c U) 0 (fd 0 0)) ∧ cW fd occ c U w0 p.2) := by
  have h10 := h.F.1
  have hU10 := pu_k10 hU h10
  have hko : ∀ u, pu_ko fd occ c U u ≤ 10 := fun u => by unfold pu_ko; omega
  unfold f_X6_helperOfMost f_X6_helperOfMost_6
  refine Wp.for (fun i w => (oI (pu_mx (fun u => U.testBit u) (pu_ko fd occ c U) 0 i), oI ((pu_mx (fun u => U.testBit u) (pu_ko fd occ c U) 0 i).map (pu_ko fd occ c U)), nI i, w)) (fun _ w => cW fd occ c U w0 w) (fd 0 0) (by omega) rfl h (fun i w hi hw => ?_) (fun w hw => ?_)
  · unfold f_X6_helperOfMost_6b f_X6_helperOfMost_36 f_X6_helperOfMost_52 f_X6_helperOfMost_65
    simp (disch := omega) only [pv_v, pv_b2, pv_b1, pv_x, pv_lit, pv_ofN, pu_chk, pu_cl, nI_add, pk_mul, nI_leI, nI_ltI, nI_eq, pu_nar0, pu_nar1, pu_narb, bI_0, bI_1, ↓reduceIte, pu_leT, pu_leF, pu_ltT, pu_ltF, pu_eqT, pu_eqF, pu_x1, pu_x2, pu_x3, pu_x4, pu_x5, pu_x6, pu_x7, pu_x8, Nat.zero_add, pu_m31I, pu_m31, pu_shlI, eq_self, Bool.false_eq_true, Bool.true_eq_false, hw.n, hw.u, pu_shrI, pu_and, pu_bitN]
    cases e : U.testBit i
    · rw [pu_mx_f (by rw [Nat.zero_add]; exact e)]
      cases e2 : pu_mx (fun u => U.testBit u) (pu_ko fd occ c U) 0 i with
      | none =>
        simp only [Option.map_none, oI]
        simp (disch := omega) only [pv_v, pv_b2, pv_b1, pv_x, pv_lit, pv_ofN, pu_chk, pu_cl, nI_add, pk_mul, nI_leI, nI_ltI, nI_eq, pu_nar0, pu_nar1, pu_narb, bI_0, bI_1, ↓reduceIte, pu_leT, pu_leF, pu_ltT, pu_ltF, pu_eqT, pu_eqF, pu_x1, pu_x2, pu_x3, pu_x4, pu_x5, pu_x6, pu_x7, pu_x8, Nat.zero_add, pu_m31I, pu_m31, pu_shlI, eq_self, Bool.false_eq_true, Bool.true_eq_false, Int32.le_refl]
        exact Wp.some ⟨w, rfl, hw⟩
      | some b =>
        have := hko b
        simp only [Option.map_some, oI]
        simp (disch := omega) only [pv_v, pv_b2, pv_b1, pv_x, pv_lit, pv_ofN, pu_chk, pu_cl, nI_add, pk_mul, nI_leI, nI_ltI, nI_eq, pu_nar0, pu_nar1, pu_narb, bI_0, bI_1, ↓reduceIte, pu_leT, pu_leF, pu_ltT, pu_ltF, pu_eqT, pu_eqF, pu_x1, pu_x2, pu_x3, pu_x4, pu_x5, pu_x6, pu_x7, pu_x8, Nat.zero_add, pu_m31I, pu_m31, pu_shlI, eq_self, Bool.false_eq_true, Bool.true_eq_false]
        exact Wp.some ⟨w, rfl, hw⟩
    · simp (disch := omega) only [pv_v, pv_b2, pv_b1, pv_x, pv_lit, pv_ofN, pu_chk, pu_cl, nI_add, pk_mul, nI_leI, nI_ltI, nI_eq, pu_nar0, pu_nar1, pu_narb, bI_0, bI_1, ↓reduceIte, pu_leT, pu_leF, pu_ltT, pu_ltF, pu_eqT, pu_eqF, pu_x1, pu_x2, pu_x3, pu_x4, pu_x5, pu_x6, pu_x7, pu_x8, Nat.zero_add, pu_m31I, pu_m31, pu_shlI, eq_self, Bool.false_eq_true, Bool.true_eq_false]
      refine Wp.b2 ((c_othersKnownWithout hw hU hi).mono ?_)
      rintro ⟨r, w'⟩ ⟨rfl, hw'⟩
      have hki := hko i
      cases e2 : pu_mx (fun u => U.testBit u) (pu_ko fd occ c U) 0 i with
      | none =>
        rw [pu_mx_n (by rw [Nat.zero_add]; exact e) e2]
        simp only [Option.map_none, Option.map_some, oI]
        simp (disch := omega) only [pv_v, pv_b2, pv_b1, pv_x, pv_lit, pv_ofN, pu_chk, pu_cl, nI_add, pk_mul, nI_leI, nI_ltI, nI_eq, pu_nar0, pu_nar1, pu_narb, bI_0, bI_1, ↓reduceIte, pu_leT, pu_leF, pu_ltT, pu_ltF, pu_eqT, pu_eqF, pu_x1, pu_x2, pu_x3, pu_x4, pu_x5, pu_x6, pu_x7, pu_x8, Nat.zero_add, pu_m31I, pu_m31, pu_shlI, eq_self, Bool.false_eq_true, Bool.true_eq_false]
        exact Wp.some ⟨w', rfl, hw'⟩
      | some b =>
        have hkb := hko b
        by_cases e3 : pu_ko fd occ c U i ≤ pu_ko fd occ c U b
        · rw [pu_mx_k e2 (by rw [Nat.zero_add]; exact e3)]
          simp only [Option.map_some, oI]
          simp (disch := omega) only [pv_v, pv_b2, pv_b1, pv_x, pv_lit, pv_ofN, pu_chk, pu_cl, nI_add, pk_mul, nI_leI, nI_ltI, nI_eq, pu_nar0, pu_nar1, pu_narb, bI_0, bI_1, ↓reduceIte, pu_leT, pu_leF, pu_ltT, pu_ltF, pu_eqT, pu_eqF, pu_x1, pu_x2, pu_x3, pu_x4, pu_x5, pu_x6, pu_x7, pu_x8, Nat.zero_add, pu_m31I, pu_m31, pu_shlI, eq_self, Bool.false_eq_true, Bool.true_eq_false]
          exact Wp.some ⟨w', rfl, hw'⟩
        · rw [pu_mx_g (by rw [Nat.zero_add]; exact e) e2 (by rw [Nat.zero_add]; omega)]
          simp only [Option.map_some, oI]
          simp (disch := omega) only [pv_v, pv_b2, pv_b1, pv_x, pv_lit, pv_ofN, pu_chk, pu_cl, nI_add, pk_mul, nI_leI, nI_ltI, nI_eq, pu_nar0, pu_nar1, pu_narb, bI_0, bI_1, ↓reduceIte, pu_leT, pu_leF, pu_ltT, pu_ltF, pu_eqT, pu_eqF, pu_x1, pu_x2, pu_x3, pu_x4, pu_x5, pu_x6, pu_x7, pu_x8, Nat.zero_add, pu_m31I, pu_m31, pu_shlI, eq_self, Bool.false_eq_true, Bool.true_eq_false]
          exact Wp.some ⟨w', rfl, hw'⟩
  · unfold f_X6_helperOfMost_6b
    simp (disch := omega) only [pv_v, pv_b2, pv_b1, pv_x, pv_lit, pv_ofN, pu_chk, pu_cl, nI_add, pk_mul, nI_leI, nI_ltI, nI_eq, pu_nar0, pu_nar1, pu_narb, bI_0, bI_1, ↓reduceIte, pu_leT, pu_leF, pu_ltT, pu_ltF, pu_eqT, pu_eqF, pu_x1, pu_x2, pu_x3, pu_x4, pu_x5, pu_x6, pu_x7, pu_x8, Nat.zero_add, pu_m31I, pu_m31, pu_shlI, eq_self, Bool.false_eq_true, Bool.true_eq_false, hw.n]
    exact Wp.some ⟨rfl, hw⟩
/-- how many are known with one COPY more -/
def pu_kc (fd : Nat → Nat → Nat) (occ : Nat → Nat) (c U u s : Nat) : Nat := (fd 0 0) - cn (sRR (pu_k fd c) (upo occ s (occ s ||| 2 ^ u)) (fun _ => true) ((fd 0 1) * (fd 0 2)) U)
theorem c_knownWithCopy (h : cW fd occ c U w0 w) (hU : U < 2 ^ (fd 0 0)) {u s : Nat} (hu : u < (fd 0 0)) (hs : s < (fd 0 1) * (fd 0 2)) : Wp (f_X6_knownWithCopy (nI u) (nI s) w) (fun p => p.1 = nI (pu_kc fd occ c U u s) ∧ cW fd occ c U w0 p.2) := by
  have h10 := h.F.1
  have hT := pu_T48 h.F
  have ho := h.ol s hs
  have hom : occ s ||| 2 ^ u < 2 ^ (fd 0 0) := Nat.or_lt_two_pow ho (pu_p2 hu)
  have h1 : cW fd (upo occ s (occ s ||| 2 ^ u)) c U w0 (am_pi w 254 s (nI (occ s ||| 2 ^ u))) := by
    obtain ⟨⟨a1, a2, a3, a4, a5, a6, a7, a8, a9, a10, a11, a12⟩, b, d⟩ := h
    refine ⟨⟨a1, a2, a3, fun x hx => ?_, a5, a6, a7, a8, a9, a10, a11, fun x hx => ?_⟩, b, d.on (eqx.pi (by simp))⟩
    · unfold upo
      split
      · exact hom
      · exact a4 x hx
    · rw [pi_ite]
      unfold upo
      split
      · rfl
      · exact a12 x hx
  have hr := sRR_lt (occ := upo occ s (occ s ||| 2 ^ u)) (sel := fun _ => true) (T := (fd 0 1) * (fd 0 2)) h.K hU
  have hr10 := pu_k10 hr h10
  have hrn := cn_n hr h10
  unfold f_X6_knownWithCopy
  simp (disch := omega) only [pv_v, pv_b2, pv_b1, pv_x, pv_lit, pv_ofN, pu_chk, pu_cl, nI_add, pk_mul, nI_leI, nI_ltI, nI_eq, pu_nar0, pu_nar1, pu_narb, bI_0, bI_1, ↓reduceIte, pu_leT, pu_leF, pu_ltT, pu_ltF, pu_eqT, pu_eqF, pu_x1, pu_x2, pu_x3, pu_x4, pu_x5, pu_x6, pu_x7, pu_x8, Nat.zero_add, pu_m31I, pu_m31, pu_shlI, eq_self, Bool.false_eq_true, Bool.true_eq_false, h.o s hs, pu_or, h1.u]
  refine Wp.b2 ((c_stuckOf h1 hU).mono ?_)
  rintro ⟨r, w'⟩ ⟨rfl, hw'⟩
  have h2 : cW fd occ c U w0 (am_pi w' 254 s (nI (occ s))) := by
    obtain ⟨⟨a1, a2, a3, a4, a5, a6, a7, a8, a9, a10, a11, a12⟩, b, d⟩ := hw'
    refine ⟨⟨a1, a2, a3, h.ol, a5, a6, a7, a8, a9, a10, a11, fun x hx => ?_⟩, b, d.on (eqx.pi (by simp))⟩
    rw [pi_ite]
    split
    · next e => rw [e]
    · next e =>
      have := a12 x hx
      unfold upo at this
      rw [if_neg e] at this
      exact this
  simp (disch := omega) only [pv_v, pv_b2, pv_b1, pv_x, pv_lit, pv_ofN, pu_chk, pu_cl, nI_add, pk_mul, nI_leI, nI_ltI, nI_eq, pu_nar0, pu_nar1, pu_narb, bI_0, bI_1, ↓reduceIte, pu_leT, pu_leF, pu_ltT, pu_ltF, pu_eqT, pu_eqF, pu_x1, pu_x2, pu_x3, pu_x4, pu_x5, pu_x6, pu_x7, pu_x8, Nat.zero_add, pu_m31I, pu_m31, pu_shlI, eq_self, Bool.false_eq_true, Bool.true_eq_false, c_bitCount, h2.n, pk_sub]
  exact Wp.some ⟨rfl, h2⟩
theorem c_bestNewSlot (h : cW fd occ c U w0 w) (hU : U < 2 ^ (fd 0 0)) (hf : cF fd w0) {u : Nat} (hu : u < (fd 0 0)) : Wp (f_X6_bestNewSlot (nI u) w) (fun p => p.1 = oI (pu_mx (fun s => !(occ s).testBit u) (pu_kc fd occ c U u) (pu_lo fd u) (pu_up fd u - pu_lo fd u)) ∧ cW fd occ c U w0 p.2) := by
  have h10 := h.F.1
  have hT := pu_T48 h.F
  obtain ⟨l1, l2, l3, l4⟩ := pu_lo_up h.F hu
  have hkc : ∀ s, pu_kc fd occ c U u s ≤ 10 := fun s => by unfold pu_kc; omega
  have hcf : ∀ w, cW fd occ c U w0 w → cF fd w := fun w hw => hf.ex hw.2.2 (by decide)
  unfold f_X6_bestNewSlot
  rw [c_reachFrom h.F (hcf w h) hu, pu_b2]
  unfold f_X6_bestNewSlot_14
  refine Wp.for (fun i w => (oI (pu_mx (fun s => !(occ s).testBit u) (pu_kc fd occ c U u) (pu_lo fd u) i), oI ((pu_mx (fun s => !(occ s).testBit u) (pu_kc fd occ c U u) (pu_lo fd u) i).map (pu_kc fd occ c U u)), nI (pu_lo fd u + i), w)) (fun _ w => cW fd occ c U w0 w) (pu_up fd u - pu_lo fd u) (by omega) rfl h (fun i w hi hw => ?_) (fun w hw => ?_)
  · have hol := pu_k10 (h.ol (pu_lo fd u + i) (by omega)) h10
    unfold f_X6_bestNewSlot_14b f_X6_bestNewSlot_49 f_X6_bestNewSlot_67 f_X6_bestNewSlot_81
    simp (disch := omega) only [pv_v, pv_b2, pv_b1, pv_x, pv_lit, pv_ofN, pu_chk, pu_cl, nI_add, pk_mul, nI_leI, nI_ltI, nI_eq, pu_nar0, pu_nar1, pu_narb, bI_0, bI_1, ↓reduceIte, pu_leT, pu_leF, pu_ltT, pu_ltF, pu_eqT, pu_eqF, pu_x1, pu_x2, pu_x3, pu_x4, pu_x5, pu_x6, pu_x7, pu_x8, Nat.zero_add, pu_m31I, pu_m31, pu_shlI, eq_self, Bool.false_eq_true, Bool.true_eq_false, c_reachTo h.F (hcf w hw) hu, hw.o (pu_lo fd u + i) (by omega), pu_shrI, pu_and, pu_bitN]
    cases e : (occ (pu_lo fd u + i)).testBit u
    · simp (disch := omega) only [pv_v, pv_b2, pv_b1, pv_x, pv_lit, pv_ofN, pu_chk, pu_cl, nI_add, pk_mul, nI_leI, nI_ltI, nI_eq, pu_nar0, pu_nar1, pu_narb, bI_0, bI_1, ↓reduceIte, pu_leT, pu_leF, pu_ltT, pu_ltF, pu_eqT, pu_eqF, pu_x1, pu_x2, pu_x3, pu_x4, pu_x5, pu_x6, pu_x7, pu_x8, Nat.zero_add, pu_m31I, pu_m31, pu_shlI, eq_self, Bool.false_eq_true, Bool.true_eq_false]
      refine Wp.b2 ((c_knownWithCopy hw hU hu (s := pu_lo fd u + i) (by omega)).mono ?_)
      rintro ⟨r, w'⟩ ⟨rfl, hw'⟩
      have hki := hkc (pu_lo fd u + i)
      cases e2 : pu_mx (fun s => !(occ s).testBit u) (pu_kc fd occ c U u) (pu_lo fd u) i with
      | none =>
        rw [pu_mx_n (by rw [e]; rfl) e2]
        simp only [Option.map_none, Option.map_some, oI]
        simp (disch := omega) only [pv_v, pv_b2, pv_b1, pv_x, pv_lit, pv_ofN, pu_chk, pu_cl, nI_add, pk_mul, nI_leI, nI_ltI, nI_eq, pu_nar0, pu_nar1, pu_narb, bI_0, bI_1, ↓reduceIte, pu_leT, pu_leF, pu_ltT, pu_ltF, pu_eqT, pu_eqF, pu_x1, pu_x2, pu_x3, pu_x4, pu_x5, pu_x6, pu_x7, pu_x8, Nat.zero_add, pu_m31I, pu_m31, pu_shlI, eq_self, Bool.false_eq_true, Bool.true_eq_false]
        exact Wp.some ⟨w', rfl, hw'⟩
      | some b =>
        have hkb := hkc b
        by_cases e3 : pu_kc fd occ c U u (pu_lo fd u + i) ≤ pu_kc fd occ c U u b
        · rw [pu_mx_k e2 e3]
          simp only [Option.map_some, oI]
          simp (disch := omega) only [pv_v, pv_b2, pv_b1, pv_x, pv_lit, pv_ofN, pu_chk, pu_cl, nI_add, pk_mul, nI_leI, nI_ltI, nI_eq, pu_nar0, pu_nar1, pu_narb, bI_0, bI_1, ↓reduceIte, pu_leT, pu_leF, pu_ltT, pu_ltF, pu_eqT, pu_eqF, pu_x1, pu_x2, pu_x3, pu_x4, pu_x5, pu_x6, pu_x7, pu_x8, Nat.zero_add, pu_m31I, pu_m31, pu_shlI, eq_self, Bool.false_eq_true, Bool.true_eq_false]
          exact Wp.some ⟨w', rfl, hw'⟩
        · rw [pu_mx_g (by rw [e]; rfl) e2 (by omega)]
          simp only [Option.map_some, oI]
          simp (disch := omega) only [pv_v, pv_b2, pv_b1, pv_x, pv_lit, pv_ofN, pu_chk, pu_cl, nI_add, pk_mul, nI_leI, nI_ltI, nI_eq, pu_nar0, pu_nar1, pu_narb, bI_0, bI_1, ↓reduceIte, pu_leT, pu_leF, pu_ltT, pu_ltF, pu_eqT, pu_eqF, pu_x1, pu_x2, pu_x3, pu_x4, pu_x5, pu_x6, pu_x7, pu_x8, Nat.zero_add, pu_m31I, pu_m31, pu_shlI, eq_self, Bool.false_eq_true, Bool.true_eq_false]
          exact Wp.some ⟨w', rfl, hw'⟩
    · rw [pu_mx_f (by rw [e]; rfl)]
      cases e2 : pu_mx (fun s => !(occ s).testBit u) (pu_kc fd occ c U u) (pu_lo fd u) i with
      | none =>
        simp only [Option.map_none, oI]
        simp (disch := omega) only [pv_v, pv_b2, pv_b1, pv_x, pv_lit, pv_ofN, pu_chk, pu_cl, nI_add, pk_mul, nI_leI, nI_ltI, nI_eq, pu_nar0, pu_nar1, pu_narb, bI_0, bI_1, ↓reduceIte, pu_leT, pu_leF, pu_ltT, pu_ltF, pu_eqT, pu_eqF, pu_x1, pu_x2, pu_x3, pu_x4, pu_x5, pu_x6, pu_x7, pu_x8, Nat.zero_add, pu_m31I, pu_m31, pu_shlI, eq_self, Bool.false_eq_true, Bool.true_eq_false, Int32.le_refl]
        exact Wp.some ⟨w, rfl, hw⟩
      | some b =>
        have := hkc b
        simp only [Option.map_some, oI]
        simp (disch := omega) only [pv_v, pv_b2, pv_b1, pv_x, pv_lit, pv_ofN, pu_chk, pu_cl, nI_add, pk_mul, nI_leI, nI_ltI, nI_eq, pu_nar0, pu_nar1, pu_narb, bI_0, bI_1, ↓reduceIte, pu_leT, pu_leF, pu_ltT, pu_ltF, pu_eqT, pu_eqF, pu_x1, pu_x2, pu_x3, pu_x4, pu_x5, pu_x6, pu_x7, pu_x8, Nat.zero_add, pu_m31I, pu_m31, pu_shlI, eq_self, Bool.false_eq_true, Bool.true_eq_false]
        exact Wp.some ⟨w, rfl, hw⟩
  · unfold f_X6_bestNewSlot_14b
    rw [show pu_lo fd u + (pu_up fd u - pu_lo fd u) = pu_up fd u by omega]
    simp (disch := omega) only [pv_v, pv_b2, pv_b1, pv_x, pv_lit, pv_ofN, pu_chk, pu_cl, nI_add, pk_mul, nI_leI, nI_ltI, nI_eq, pu_nar0, pu_nar1, pu_narb, bI_0, bI_1, ↓reduceIte, pu_leT, pu_leF, pu_ltT, pu_ltF, pu_eqT, pu_eqF, pu_x1, pu_x2, pu_x3, pu_x4, pu_x5, pu_x6, pu_x7, pu_x8, Nat.zero_add, pu_m31I, pu_m31, pu_shlI, eq_self, Bool.false_eq_true, Bool.true_eq_false, c_reachTo h.F (hcf w hw) hu]
    exact Wp.some ⟨rfl, hw⟩
/-- the greatest CAPTURE -/
def isG (fd : Nat → Nat → Nat) (occ : Nat → Nat) (U : Nat) (x : Int32) : Prop := (∃ c, 1 ≤ c ∧ c ≤ 99 ∧ x = nI c ∧ sRR (pu_k fd c) occ (fun _ => true) ((fd 0 1) * (fd 0 2)) U = 0 ∧ ∀ d, c < d → d ≤ 99 → sRR (pu_k fd d) occ (fun _ => true) ((fd 0 1) * (fd 0 2)) U ≠ 0) ∨ (x = -nI 1 ∧ ∀ d, 1 ≤ d → d ≤ 99 → sRR (pu_k fd d) occ (fun _ => true) ((fd 0 1) * (fd 0 2)) U ≠ 0)
theorem isG.uq {x y : Int32} (h : isG fd occ U x) (h2 : isG fd occ U y) : x = y := by
  rcases h with ⟨r, a0, a1, a2, a3, a4⟩ | ⟨a1, a2⟩ <;> rcases h2 with ⟨r', b0, b1, b2, b3, b4⟩ | ⟨b1, b2⟩
  · have : r = r' := by
      rcases Nat.lt_trichotomy r r' with q | q | q
      · exact absurd b3 (a4 r' q b1)
      · exact q
      · exact absurd a3 (b4 r q a1)
    rw [a2, b2, this]
  · exact absurd a3 (b2 r a0 a1)
  · exact absurd b3 (a2 r' b0 b1)
  · rw [a1, b1]
theorem pu_good (hF : wF fd) (hU : U < 1024) {c d : Nat} (h1 : 1 ≤ c) (h2 : c ≤ d) (h3 : d ≤ 99) (h : sRR (pu_k fd d) occ (fun _ => true) ((fd 0 1) * (fd 0 2)) U = 0) : sRR (pu_k fd c) occ (fun _ => true) ((fd 0 1) * (fd 0 2)) U = 0 := by
  have := sRR_K (occ := occ) (sel := fun _ => true) (T := (fd 0 1) * (fd 0 2)) (pu_k_M hF (show c ≤ 99 by omega)) (pu_k_M hF h3) hU (pu_k_c hF h1 h2 h3)
  rw [h] at this
  exact sb_z this
theorem c_assumeW {d : Nat} (h : cW fd occ c U w0 w) (hd : d ≤ 99) : Wp (f_X7_assume (nI d) w) (fun w' => cW fd occ d U w0 w') := by
  refine (c_assume h.F hd h.1.T).mono ?_
  rintro w' ⟨q1, q2, q3, q4, q5, q6⟩
  obtain ⟨⟨a1, a2, a3, a4, a5, a6, a7, a8, a9, a10, a11, a12⟩, b, e⟩ := h
  refine ⟨⟨a1, a2, hd, a4, q6.t a5 (by decide), q6.t a6 (by decide), q6.t a7 (by decide), q3, q1, q2, q4, fun s hs => q6.t (a12 s hs) (by decide)⟩, (q5 6 (by decide)).trans b, e.on (q6.up (by decide))⟩
theorem c_greatestCapture (h : cW fd occ c U w0 w) (hU : U < 2 ^ (fd 0 0)) : Wp (f_X6_greatestCapture w) (fun p => isG fd occ U p.1 ∧ ∃ d, cW fd occ d U w0 p.2) := by
  have h10 := h.F.1
  have hF := h.F
  have hU10 := pu_k10 hU h10
  have hr : ∀ d, d ≤ 99 → sRR (pu_k fd d) occ (fun _ => true) ((fd 0 1) * (fd 0 2)) U < 1024 := fun d hd => pu_k10 (sRR_lt (pu_k_M hF hd) hU) h10
  unfold f_X6_greatestCapture f_X6_greatestCapture_7
  refine Wp.lp (fun i s => ∃ l m w d, s = (nI l, nI m, nI i, w) ∧ cW fd occ d U w0 w ∧ l ≤ m ∧ m ≤ 99 ∧ (m - l) < 2 ^ (7 - i) ∧ (l = 0 ∨ sRR (pu_k fd l) occ (fun _ => true) ((fd 0 1) * (fd 0 2)) U = 0) ∧ ∀ d, m < d → d ≤ 99 → sRR (pu_k fd d) occ (fun _ => true) ((fd 0 1) * (fd 0 2)) U ≠ 0) 7 (by decide) ⟨0, 99, w, c, rfl, h, by decide, by decide, by decide, .inl rfl, fun d h1 h2 => by omega⟩ ?_
  rintro i _ hi ⟨l, m, w, d, rfl, hw, a1, a2, a3, a5, a6⟩
  unfold f_X6_greatestCapture_7b
  by_cases e : m ≤ l
  · have hlm : l = m := by omega
    subst hlm
    unfold f_X6_greatestCapture_70 f_X6_greatestCapture_79
    by_cases e0 : l = 0
    · subst e0
      simp (disch := omega) only [pv_v, pv_b2, pv_b1, pv_x, pv_lit, pv_ofN, pu_chk, pu_cl, nI_add, pk_mul, nI_leI, nI_ltI, nI_eq, pu_nar0, pu_nar1, pu_narb, bI_0, bI_1, ↓reduceIte, pu_leT, pu_leF, pu_ltT, pu_ltF, pu_eqT, pu_eqF, pu_x1, pu_x2, pu_x3, pu_x4, pu_x5, pu_x6, pu_x7, pu_x8, Nat.zero_add, pu_m31I, pu_m31, pu_shlI, eq_self, Bool.false_eq_true, Bool.true_eq_false]
      exact Wp.some ⟨.inr ⟨rfl, fun d h1 h2 => a6 d (by omega) h2⟩, d, hw⟩
    · simp (disch := omega) only [pv_v, pv_b2, pv_b1, pv_x, pv_lit, pv_ofN, pu_chk, pu_cl, nI_add, pk_mul, nI_leI, nI_ltI, nI_eq, pu_nar0, pu_nar1, pu_narb, bI_0, bI_1, ↓reduceIte, pu_leT, pu_leF, pu_ltT, pu_ltF, pu_eqT, pu_eqF, pu_x1, pu_x2, pu_x3, pu_x4, pu_x5, pu_x6, pu_x7, pu_x8, Nat.zero_add, pu_m31I, pu_m31, pu_shlI, eq_self, Bool.false_eq_true, Bool.true_eq_false, e0]
      exact Wp.some ⟨.inl ⟨l, by omega, a2, rfl, a5.resolve_left e0, a6⟩, d, hw⟩
  · have hi7 : i < 7 := by
      rcases Nat.lt_or_ge i 7 with q | q
      · exact q
      · have : i = 7 := by omega
        subst this
        have : (2 : Nat) ^ (7 - 7) = 1 := by decide
        omega
    have hp2 : 2 ^ (7 - i) = 2 * 2 ^ (7 - (i + 1)) := by rw [show 7 - i = (7 - (i + 1)) + 1 by omega, Nat.pow_succ, Nat.mul_comm]
    simp (disch := omega) only [pv_v, pv_b2, pv_b1, pv_x, pv_lit, pv_ofN, pu_chk, pu_cl, nI_add, pk_mul, nI_leI, nI_ltI, nI_eq, pu_nar0, pu_nar1, pu_narb, bI_0, bI_1, ↓reduceIte, pu_leT, pu_leF, pu_ltT, pu_ltF, pu_eqT, pu_eqF, pu_x1, pu_x2, pu_x3, pu_x4, pu_x5, pu_x6, pu_x7, pu_x8, Nat.zero_add, pu_m31I, pu_m31, pu_shlI, eq_self, Bool.false_eq_true, Bool.true_eq_false, pk_div]
    refine Wp.b1 ((c_assumeW hw (d := (l + m + 1) / 2) (by omega)).mono ?_)
    intro w1 hw1
    rw [hw1.u]
    refine Wp.b2 ((c_stuckOf hw1 hU).mono ?_)
    rintro ⟨r, w2⟩ ⟨rfl, hw2⟩
    have hr1 := hr ((l + m + 1) / 2) (by omega)
    unfold f_X6_greatestCapture_64
    by_cases g : sRR (pu_k fd ((l + m + 1) / 2)) occ (fun _ => true) ((fd 0 1) * (fd 0 2)) U = 0
    · simp (disch := omega) only [pv_v, pv_b2, pv_b1, pv_x, pv_lit, pv_ofN, pu_chk, pu_cl, nI_add, pk_mul, nI_leI, nI_ltI, nI_eq, pu_nar0, pu_nar1, pu_narb, bI_0, bI_1, ↓reduceIte, pu_leT, pu_leF, pu_ltT, pu_ltF, pu_eqT, pu_eqF, pu_x1, pu_x2, pu_x3, pu_x4, pu_x5, pu_x6, pu_x7, pu_x8, Nat.zero_add, pu_m31I, pu_m31, pu_shlI, eq_self, Bool.false_eq_true, Bool.true_eq_false, g]
      exact Wp.some ⟨.mk (by omega), (l + m + 1) / 2, m, w2, _, rfl, hw2, by omega, a2, by omega, .inr g, a6⟩
    · simp (disch := omega) only [pv_v, pv_b2, pv_b1, pv_x, pv_lit, pv_ofN, pu_chk, pu_cl, nI_add, pk_mul, nI_leI, nI_ltI, nI_eq, pu_nar0, pu_nar1, pu_narb, bI_0, bI_1, ↓reduceIte, pu_leT, pu_leF, pu_ltT, pu_ltF, pu_eqT, pu_eqF, pu_x1, pu_x2, pu_x3, pu_x4, pu_x5, pu_x6, pu_x7, pu_x8, Nat.zero_add, pu_m31I, pu_m31, pu_shlI, eq_self, Bool.false_eq_true, Bool.true_eq_false, g, pk_sub]
      refine Wp.some ⟨.mk (by omega), l, (l + m + 1) / 2 - 1, w2, _, rfl, hw2, by omega, by omega, by omega, a5, fun d' h1 h2 hz => ?_⟩
      exact g (pu_good hF hU10 (by omega) (by omega) h2 hz)
end ASKC
