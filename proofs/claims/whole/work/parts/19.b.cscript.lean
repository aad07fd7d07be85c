/-! pure part: a SCRIPT is read, the class: a step (wip/whole/pure/19.b.cscript.src) -/
section CSCRIPT2
variable {T : Nat} {tp : Nat → Nat} {w w' : am_S} {i o n k : Nat}
/-- what a step read gives -/
def cSt (T : Nat) (tp : Nat → Nat) (o n i : Nat) (w : am_S) (q : Int32 × am_S) : Prop := q.1 = bI (stp T tp i).1 ∧ q.2.1 1 2 = nI (stp T tp i).2.1 ∧ ((stp T tp i).1 = true → q.2.1 o 2 = nI (n + 1) ∧ q.2.1 (o + 1) n = nI (stp T tp i).2.2.1 ∧ q.2.1 (o + 2) n = (stp T tp i).2.2.2) ∧ sf o n w q.2
theorem c_readStep (ho : 2 < o) (hT : tW T tp) (h : cTp T tp w) (hi : i ≤ T) (ha : w.1 1 2 = nI i) (hn : n < 16) (hl : w.1 o 2 = nI n) : Wp (f_X8_readStep o w) (cSt T tp o n i w) := by
  have hT1 := hT.1
  have hb := nB_le (tp := tp) hi
  obtain ⟨⟨x1, w1⟩, e1, p1, p2, p3, p4⟩ := c_nextSign hT h hi ha
  have a1 : x1 = nI (sg T tp (nB T tp i)) := p1
  have a2 : w1.1 1 2 = nI (nB T tp i) := p2
  have a4 : c1 w w1 := p4
  clear p1 p2 p3 p4
  have hx := c_ix3 (w := w1) (sg_lt (i := nB T tp i) hT)
  have hl1 : w1.1 o 2 = nI n := by rw [a4.2.r (by simp only [List.mem_cons, List.not_mem_nil, or_false]; omega)]; exact hl
  subst a1
  unfold f_X8_readStep
  cases e : lx 3 (sg T tp (nB T tp i)) with
  | none =>
    rw [e] at hx
    refine ⟨(nI 0, w1), ?_, ?_⟩
    · simp (disch := omega) only [pv_v, pv_b2, pv_b1, pv_x, pv_lit, pv_ofN, pu_chk, pu_cl, nI_add, pk_mul, nI_leI, nI_ltI, nI_eq, pu_nar0, pu_nar1, pu_narb, bI_0, bI_1, ↓reduceIte, pu_leT, pu_leF, pu_ltT, pu_ltF, pu_eqT, pu_eqF, pu_x1, pu_x2, pu_x3, pu_x4, pu_x5, pu_x6, pu_x7, pu_x8, Nat.zero_add, pu_m31I, pu_m31, pu_shlI, eq_self, Bool.false_eq_true, Bool.true_eq_false, e1, hx, oI]
    · unfold cSt
      rw [stp_n e]
      exact ⟨rfl, a2, (fun q => by cases q), sf.c a4 ho⟩
  | some k =>
    obtain ⟨k6, kT⟩ := lx3_in hT e
    rw [e] at hx
    have hx : f_J0_indexOf_0f7a4_t3 (nI (sg T tp (nB T tp i))) w1 = some (nI k, w1) := hx
    have a5 : c1 w (am_pi (am_pi w1 1 2 (nI (nB T tp i + 1))) 1 3 (-nI 1)) := (a4.on (c1.pi (by decide))).on (c1.pi (by decide))
    have a6 : (am_pi (am_pi w1 1 2 (nI (nB T tp i + 1))) 1 3 (-nI 1)).1 1 2 = nI (nB T tp i + 1) := by rw [pi_k (by decide), pi_same]
    have a7 : (am_pi (am_pi w1 1 2 (nI (nB T tp i + 1))) 1 3 (-nI 1)).1 1 3 = -nI 1 := pi_same
    generalize hw2 : am_pi (am_pi w1 1 2 (nI (nB T tp i + 1))) 1 3 (-nI 1) = w2 at a5 a6 a7
    have hl2 : w2.1 o 2 = nI n := by rw [a5.2.r (by simp only [List.mem_cons, List.not_mem_nil, or_false]; omega)]; exact hl
    have h2 := a5.t h
    by_cases h5 : k = 5
    · obtain ⟨⟨x3, w3⟩, e3, p1, p2, p3, p4⟩ := c_readNumber hT h2 (i := nB T tp i + 1) (by omega) a6 (lo := 0) (hh := 9999) (by omega) (by omega)
      have b1 : x3 = bI (nM T tp 0 9999 (nB T tp i + 1)).1 := p1
      have b2 : w3.1 1 2 = nI (nM T tp 0 9999 (nB T tp i + 1)).2.1 := p2
      have b3 : (nM T tp 0 9999 (nB T tp i + 1)).1 = true → w3.1 1 3 = nI (nM T tp 0 9999 (nB T tp i + 1)).2.2 := p3
      have b4 : c1 w2 w3 := p4
      clear p1 p2 p3 p4
      subst b1
      cases m : (nM T tp 0 9999 (nB T tp i + 1)).1 with
      | false =>
        rw [m] at e3
        refine ⟨(nI 0, w3), ?_, ?_⟩
        · simp (disch := omega) only [pv_v, pv_b2, pv_b1, pv_x, pv_lit, pv_ofN, pu_chk, pu_cl, nI_add, pk_mul, nI_leI, nI_ltI, nI_eq, pu_nar0, pu_nar1, pu_narb, bI_0, bI_1, ↓reduceIte, pu_leT, pu_leF, pu_ltT, pu_ltF, pu_eqT, pu_eqF, pu_x1, pu_x2, pu_x3, pu_x4, pu_x5, pu_x6, pu_x7, pu_x8, Nat.zero_add, pu_m31I, pu_m31, pu_shlI, eq_self, Bool.false_eq_true, Bool.true_eq_false, e1, hx, a2, hw2, h5, e3]
        · unfold cSt
          rw [stp_5 e h5, m]
          exact ⟨rfl, b2, (fun q => by cases q), sf.c (a5.on b4) ho⟩
      | true =>
        rw [m] at e3
        have hl3 : w3.1 o 2 = nI n := by rw [b4.2.r (by simp only [List.mem_cons, List.not_mem_nil, or_false]; omega)]; exact hl2
        obtain ⟨q, q0, q1, q2, q3, q4, q5, q6⟩ := c_step65 (k := 5) ho hn hl3 (b3 m)
        refine ⟨q, ?_, ?_⟩
        · simp (disch := omega) only [pv_v, pv_b2, pv_b1, pv_x, pv_lit, pv_ofN, pu_chk, pu_cl, nI_add, pk_mul, nI_leI, nI_ltI, nI_eq, pu_nar0, pu_nar1, pu_narb, bI_0, bI_1, ↓reduceIte, pu_leT, pu_leF, pu_ltT, pu_ltF, pu_eqT, pu_eqF, pu_x1, pu_x2, pu_x3, pu_x4, pu_x5, pu_x6, pu_x7, pu_x8, Nat.zero_add, pu_m31I, pu_m31, pu_shlI, eq_self, Bool.false_eq_true, Bool.true_eq_false, e1, hx, a2, hw2, h5, e3]
          exact q0
        · unfold cSt
          rw [stp_5 e h5, m]
          exact ⟨q1, q2.trans b2, fun _ => ⟨q3, q4, q5⟩, (sf.c (a5.on b4) ho).on q6⟩
    · by_cases h2k : k < 2
      · obtain ⟨q, q0, q1, q2, q3, q4, q5, q6⟩ := c_step65 (k := k) ho hn hl2 a7
        refine ⟨q, ?_, ?_⟩
        · simp (disch := omega) only [pv_v, pv_b2, pv_b1, pv_x, pv_lit, pv_ofN, pu_chk, pu_cl, nI_add, pk_mul, nI_leI, nI_ltI, nI_eq, pu_nar0, pu_nar1, pu_narb, bI_0, bI_1, ↓reduceIte, pu_leT, pu_leF, pu_ltT, pu_ltF, pu_eqT, pu_eqF, pu_x1, pu_x2, pu_x3, pu_x4, pu_x5, pu_x6, pu_x7, pu_x8, Nat.zero_add, pu_m31I, pu_m31, pu_shlI, eq_self, Bool.false_eq_true, Bool.true_eq_false, e1, hx, a2, hw2]
          exact q0
        · unfold cSt
          rw [stp_2 e h2k]
          exact ⟨q1, q2.trans a6, fun _ => ⟨q3, q4, q5⟩, (sf.c a5 ho).on q6⟩
      · obtain ⟨⟨x3, w3⟩, e3, p1, p2, p3, p4⟩ := c_readDigit hT h2 (i := nB T tp i + 1) (by omega) a6
        have b1 : x3 = bI (isDg (sg T tp (nB T tp (nB T tp i + 1)))) := p1
        have b2 : w3.1 1 2 = nI (nB T tp (nB T tp i + 1) + (if isDg (sg T tp (nB T tp (nB T tp i + 1))) then 1 else 0)) := p2
        have b3 : isDg (sg T tp (nB T tp (nB T tp i + 1))) = true → w3.1 1 3 = nI (sg T tp (nB T tp (nB T tp i + 1)) - 48) := p3
        have b4 : c1 w2 w3 := p4
        clear p1 p2 p3 p4
        subst b1
        cases d : isDg (sg T tp (nB T tp (nB T tp i + 1))) with
        | false =>
          rw [d] at e3 b2
          refine ⟨(nI 0, w3), ?_, ?_⟩
          · simp (disch := omega) only [pv_v, pv_b2, pv_b1, pv_x, pv_lit, pv_ofN, pu_chk, pu_cl, nI_add, pk_mul, nI_leI, nI_ltI, nI_eq, pu_nar0, pu_nar1, pu_narb, bI_0, bI_1, ↓reduceIte, pu_leT, pu_leF, pu_ltT, pu_ltF, pu_eqT, pu_eqF, pu_x1, pu_x2, pu_x3, pu_x4, pu_x5, pu_x6, pu_x7, pu_x8, Nat.zero_add, pu_m31I, pu_m31, pu_shlI, eq_self, Bool.false_eq_true, Bool.true_eq_false, e1, hx, a2, hw2, e3]
          · unfold cSt
            rw [stp_e e h5 h2k d]
            exact ⟨rfl, b2, (fun q => by cases q), sf.c (a5.on b4) ho⟩
        | true =>
          rw [d] at e3 b2
          have hl3 : w3.1 o 2 = nI n := by rw [b4.2.r (by simp only [List.mem_cons, List.not_mem_nil, or_false]; omega)]; exact hl2
          obtain ⟨q, q0, q1, q2, q3, q4, q5, q6⟩ := c_step65 (k := k) ho hn hl3 (b3 d)
          refine ⟨q, ?_, ?_⟩
          · simp (disch := omega) only [pv_v, pv_b2, pv_b1, pv_x, pv_lit, pv_ofN, pu_chk, pu_cl, nI_add, pk_mul, nI_leI, nI_ltI, nI_eq, pu_nar0, pu_nar1, pu_narb, bI_0, bI_1, ↓reduceIte, pu_leT, pu_leF, pu_ltT, pu_ltF, pu_eqT, pu_eqF, pu_x1, pu_x2, pu_x3, pu_x4, pu_x5, pu_x6, pu_x7, pu_x8, Nat.zero_add, pu_m31I, pu_m31, pu_shlI, eq_self, Bool.false_eq_true, Bool.true_eq_false, e1, hx, a2, hw2, e3]
            exact q0
          · unfold cSt
            rw [stp_d e h5 h2k d]
            exact ⟨q1, q2.trans b2, fun _ => ⟨q3, q4, q5⟩, (sf.c (a5.on b4) ho).on q6⟩
end CSCRIPT2
