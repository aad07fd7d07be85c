/-! pure part: what is asked, as calls, on (by wip/whole/pure/mk20b.py) -/
section ASKS2
variable {fd : Nat → Nat → Nat} {z z' : Zt} {o o' : Ot} {w w' w'' : am_S} {j : Nat}
theorem both_slid (a : Int32) : Both j fd z o (fun a b => a = b) (f_X11_slid a) (f_X12_slid a) := by
  intro w hc hr hb hnf
  have hF := hc.wF
  have h10 := hF.1
  have hSF := SF_le hF
  have h4 := hF.2.2.1
  rcases Nat.eq_zero_or_pos (fd 0 0) with n0 | n0
  · refine Both.val (-nI 1) rfl (fun w h => ?_) (fun w h => ?_) w hc hr hb hnf
    · unfold f_X11_slid f_X11_slid_23
      simp (disch := omega) only [pv_v, pv_b2, pv_b1, pv_x, pv_lit, pv_ofN, pu_chk, pu_cl, nI_add, pk_mul, nI_leI, nI_ltI, nI_eq, pu_nar0, pu_nar1, pu_narb, bI_0, bI_1, ↓reduceIte, pu_leT, pu_leF, pu_ltT, pu_ltF, pu_eqT, pu_eqF, pu_x1, pu_x2, pu_x3, pu_x4, pu_x5, pu_x6, pu_x7, pu_x8, Nat.zero_add, pu_m31I, pu_m31, pu_shlI, eq_self, Bool.false_eq_true, Bool.true_eq_false, h.n0 n0]
    · unfold f_X12_slid f_X12_slid_29 f_X12_slid_30
      simp (disch := omega) only [pv_v, pv_b2, pv_b1, pv_x, pv_lit, pv_ofN, pu_chk, pu_cl, nI_add, pk_mul, nI_leI, nI_ltI, nI_eq, pu_nar0, pu_nar1, pu_narb, bI_0, bI_1, ↓reduceIte, pu_leT, pu_leF, pu_ltT, pu_ltF, pu_eqT, pu_eqF, pu_x1, pu_x2, pu_x3, pu_x4, pu_x5, pu_x6, pu_x7, pu_x8, Nat.zero_add, pu_m31I, pu_m31, pu_shlI, eq_self, Bool.false_eq_true, Bool.true_eq_false, h.n0 n0]
  · have hnn : True := trivial
    rcases rng a 1 (fd 0 2) (by omega) (by omega) with ⟨s, s1, s2, s3⟩ | ⟨s1, s2, s3⟩ | ⟨s1, s2, s3, s4, s5, s6, s7⟩
    · subst s3
      refine Both.ask (· = nI (pu_sd (2 ^ (fd 0 0) - 1) (pu_wd (pu_k fd (z.1 2 0)) (pu_o fd z.1) ((fd 0 1) * (fd 0 2)) (fd 0 1) s (pu_u fd z.1) ((fd 0 2) - s + 1)))) eq_2 (fun w h => ?_) (fun w h => ?_) w hc hr hb hnf
      · obtain ⟨w1, e1, hW⟩ := h.look n0
        obtain ⟨⟨v, w2⟩, e2, q1, q3⟩ := c_unknownBehindSlide hW U_lt s1 s2
        have q1 : v = nI (pu_wd (pu_k fd (z.1 2 0)) (pu_o fd z.1) ((fd 0 1) * (fd 0 2)) (fd 0 1) s (pu_u fd z.1) ((fd 0 2) - s + 1)) := q1
        refine ⟨(nI (pu_sd (2 ^ (fd 0 0) - 1) (pu_wd (pu_k fd (z.1 2 0)) (pu_o fd z.1) ((fd 0 1) * (fd 0 2)) (fd 0 1) s (pu_u fd z.1) ((fd 0 2) - s + 1))), w2), ?_, rfl, q3.e⟩
        unfold f_X11_slid
        simp (disch := omega) only [pv_v, pv_b2, pv_b1, pv_x, pv_lit, pv_ofN, pu_chk, pu_cl, nI_add, pk_mul, nI_leI, nI_ltI, nI_eq, pu_nar0, pu_nar1, pu_narb, bI_0, bI_1, ↓reduceIte, pu_leT, pu_leF, pu_ltT, pu_ltF, pu_eqT, pu_eqF, pu_x1, pu_x2, pu_x3, pu_x4, pu_x5, pu_x6, pu_x7, pu_x8, Nat.zero_add, pu_m31I, pu_m31, pu_shlI, eq_self, Bool.false_eq_true, Bool.true_eq_false, h.n1 n0, h.F.2.2.1, e1, c_everyone hW.n hF.1, e2, q1, pu_andn]
      · obtain ⟨⟨v, w2⟩, e2, q1, q2, q3⟩ := r_slide h.Q n0 s1 s2
        refine ⟨(v, w2), ?_, q1, q3.up (by decide)⟩
        unfold f_X12_slid f_X12_slid_30
        simp (disch := omega) only [pv_v, pv_b2, pv_b1, pv_x, pv_lit, pv_ofN, pu_chk, pu_cl, nI_add, pk_mul, nI_leI, nI_ltI, nI_eq, pu_nar0, pu_nar1, pu_narb, bI_0, bI_1, ↓reduceIte, pu_leT, pu_leF, pu_ltT, pu_ltF, pu_eqT, pu_eqF, pu_x1, pu_x2, pu_x3, pu_x4, pu_x5, pu_x6, pu_x7, pu_x8, Nat.zero_add, pu_m31I, pu_m31, pu_shlI, eq_self, Bool.false_eq_true, Bool.true_eq_false, h.n1 n0, h.F.2.2.1, r_inY, e2]
    · refine Both.val (-nI 1) rfl (fun w h => ?_) (fun w h => ?_) w hc hr hb hnf
      · unfold f_X11_slid f_X11_slid_23
        simp (disch := omega) only [pv_v, pv_b2, pv_b1, pv_x, pv_lit, pv_ofN, pu_chk, pu_cl, nI_add, pk_mul, nI_leI, nI_ltI, nI_eq, pu_nar0, pu_nar1, pu_narb, bI_0, bI_1, ↓reduceIte, pu_leT, pu_leF, pu_ltT, pu_ltF, pu_eqT, pu_eqF, pu_x1, pu_x2, pu_x3, pu_x4, pu_x5, pu_x6, pu_x7, pu_x8, Nat.zero_add, pu_m31I, pu_m31, pu_shlI, eq_self, Bool.false_eq_true, Bool.true_eq_false, h.n1 n0, h.F.2.2.1, s1]
      · unfold f_X12_slid f_X12_slid_29 f_X12_slid_30
        simp (disch := omega) only [pv_v, pv_b2, pv_b1, pv_x, pv_lit, pv_ofN, pu_chk, pu_cl, nI_add, pk_mul, nI_leI, nI_ltI, nI_eq, pu_nar0, pu_nar1, pu_narb, bI_0, bI_1, ↓reduceIte, pu_leT, pu_leF, pu_ltT, pu_ltF, pu_eqT, pu_eqF, pu_x1, pu_x2, pu_x3, pu_x4, pu_x5, pu_x6, pu_x7, pu_x8, Nat.zero_add, pu_m31I, pu_m31, pu_shlI, eq_self, Bool.false_eq_true, Bool.true_eq_false, h.n1 n0, h.F.2.2.1, r_inL s1]
    · refine Both.val (-nI 1) rfl (fun w h => ?_) (fun w h => ?_) w hc hr hb hnf
      · unfold f_X11_slid f_X11_slid_23
        simp (disch := omega) only [pv_v, pv_b2, pv_b1, pv_x, pv_lit, pv_ofN, pu_chk, pu_cl, nI_add, pk_mul, nI_leI, nI_ltI, nI_eq, pu_nar0, pu_nar1, pu_narb, bI_0, bI_1, ↓reduceIte, pu_leT, pu_leF, pu_ltT, pu_ltF, pu_eqT, pu_eqF, pu_x1, pu_x2, pu_x3, pu_x4, pu_x5, pu_x6, pu_x7, pu_x8, Nat.zero_add, pu_m31I, pu_m31, pu_shlI, eq_self, Bool.false_eq_true, Bool.true_eq_false, h.n1 n0, h.F.2.2.1, s1, s3, s4]
      · unfold f_X12_slid f_X12_slid_29 f_X12_slid_30
        simp (disch := omega) only [pv_v, pv_b2, pv_b1, pv_x, pv_lit, pv_ofN, pu_chk, pu_cl, nI_add, pk_mul, nI_leI, nI_ltI, nI_eq, pu_nar0, pu_nar1, pu_narb, bI_0, bI_1, ↓reduceIte, pu_leT, pu_leF, pu_ltT, pu_ltF, pu_eqT, pu_eqF, pu_x1, pu_x2, pu_x3, pu_x4, pu_x5, pu_x6, pu_x7, pu_x8, Nat.zero_add, pu_m31I, pu_m31, pu_shlI, eq_self, Bool.false_eq_true, Bool.true_eq_false, h.n1 n0, h.F.2.2.1, r_inH s1 s4]
theorem both_slidAt (a b : Int32) : Both j fd z o (fun a b => a = b) (f_X11_slidAt a b) (f_X12_slidAt a b) := by
  intro w hc hr hb hnf
  have hF := hc.wF
  have h10 := hF.1
  have hSF := SF_le hF
  have h4 := hF.2.2.1
  cases e : ix (fd 0 0) a with
  | none =>
    refine Both.val (-nI 1) rfl (fun w h => ?_) (fun w h => ?_) w hc hr hb hnf
    · unfold f_X11_slidAt f_X11_slidAt_24
      simp (disch := omega) only [pv_v, pv_b2, pv_b1, pv_x, pv_lit, pv_ofN, pu_chk, pu_cl, nI_add, pk_mul, nI_leI, nI_ltI, nI_eq, pu_nar0, pu_nar1, pu_narb, bI_0, bI_1, ↓reduceIte, pu_leT, pu_leF, pu_ltT, pu_ltF, pu_eqT, pu_eqF, pu_x1, pu_x2, pu_x3, pu_x4, pu_x5, pu_x6, pu_x7, pu_x8, Nat.zero_add, pu_m31I, pu_m31, pu_shlI, eq_self, Bool.false_eq_true, Bool.true_eq_false, h.u0 e]
    · unfold f_X12_slidAt f_X12_slidAt_22
      simp (disch := omega) only [pv_v, pv_b2, pv_b1, pv_x, pv_lit, pv_ofN, pu_chk, pu_cl, nI_add, pk_mul, nI_leI, nI_ltI, nI_eq, pu_nar0, pu_nar1, pu_narb, bI_0, bI_1, ↓reduceIte, pu_leT, pu_leF, pu_ltT, pu_ltF, pu_eqT, pu_eqF, pu_x1, pu_x2, pu_x3, pu_x4, pu_x5, pu_x6, pu_x7, pu_x8, Nat.zero_add, pu_m31I, pu_m31, pu_shlI, eq_self, Bool.false_eq_true, Bool.true_eq_false, h.u0 e]
  | some u =>
    obtain ⟨t1, t2, t3⟩ := ix_s e
    subst t2
    have n0 : 0 < (fd 0 0) := by omega
    rcases rng b 1 (fd 0 2) (by omega) (by omega) with ⟨s, s1, s2, s3⟩ | ⟨s1, s2, s3⟩ | ⟨s1, s2, s3, s4, s5, s6, s7⟩
    · subst s3
      by_cases k0 : z.1 0 u = 0
      · refine Both.ask (isO (pu_wd (pu_k fd (z.1 2 0)) (pu_o fd z.1) ((fd 0 1) * (fd 0 2)) (fd 0 1) s (pu_u fd z.1)) u ((fd 0 2) - s + 1)) (fun a b h1 h2 => h1.uq h2) (fun w h => ?_) (fun w h => ?_) w hc hr hb hnf
        · have g1 : w.1 24 u = nI (z.1 0 u) := h.S.1 u (by omega)
          rw [k0] at g1
          obtain ⟨w1, e1, hW⟩ := h.look n0
          obtain ⟨⟨v, w2⟩, e2, q1, q3⟩ := c_placeOnSlide hW U_lt (u := u) (by omega) s1 s2
          refine ⟨(v, w2), ?_, q1, q3.e⟩
          unfold f_X11_slidAt
          simp (disch := omega) only [pv_v, pv_b2, pv_b1, pv_x, pv_lit, pv_ofN, pu_chk, pu_cl, nI_add, pk_mul, nI_leI, nI_ltI, nI_eq, pu_nar0, pu_nar1, pu_narb, bI_0, bI_1, ↓reduceIte, pu_leT, pu_leF, pu_ltT, pu_ltF, pu_eqT, pu_eqF, pu_x1, pu_x2, pu_x3, pu_x4, pu_x5, pu_x6, pu_x7, pu_x8, Nat.zero_add, pu_m31I, pu_m31, pu_shlI, eq_self, Bool.false_eq_true, Bool.true_eq_false, h.u1 t1, h.F.2.2.1, g1, e1, e2]
        · obtain ⟨⟨v, w2⟩, e2, q1, q2, q3⟩ := r_slide h.Q n0 s1 s2
          refine ⟨(w2.1 288 u, w2), ?_, (q2 u t1).2 k0, q3.up (by decide)⟩
          unfold f_X12_slidAt
          simp (disch := omega) only [pv_v, pv_b2, pv_b1, pv_x, pv_lit, pv_ofN, pu_chk, pu_cl, nI_add, pk_mul, nI_leI, nI_ltI, nI_eq, pu_nar0, pu_nar1, pu_narb, bI_0, bI_1, ↓reduceIte, pu_leT, pu_leF, pu_ltT, pu_ltF, pu_eqT, pu_eqF, pu_x1, pu_x2, pu_x3, pu_x4, pu_x5, pu_x6, pu_x7, pu_x8, Nat.zero_add, pu_m31I, pu_m31, pu_shlI, eq_self, Bool.false_eq_true, Bool.true_eq_false, h.u1 t1, h.F.2.2.1, r_inY, e2]
      · have kk := hc.wS.2.1 u
        refine Both.ask (· = -nI 2) eq_2 (fun w h => ⟨(-nI 2, w), ?_, rfl, eqx.rf, h.T⟩) (fun w h => ?_) w hc hr hb hnf
        · have g1 : w.1 24 u = nI (z.1 0 u) := h.S.1 u (by omega)
          unfold f_X11_slidAt
          simp (disch := omega) only [pv_v, pv_b2, pv_b1, pv_x, pv_lit, pv_ofN, pu_chk, pu_cl, nI_add, pk_mul, nI_leI, nI_ltI, nI_eq, pu_nar0, pu_nar1, pu_narb, bI_0, bI_1, ↓reduceIte, pu_leT, pu_leF, pu_ltT, pu_ltF, pu_eqT, pu_eqF, pu_x1, pu_x2, pu_x3, pu_x4, pu_x5, pu_x6, pu_x7, pu_x8, Nat.zero_add, pu_m31I, pu_m31, pu_shlI, eq_self, Bool.false_eq_true, Bool.true_eq_false, h.u1 t1, h.F.2.2.1, g1]
        · obtain ⟨⟨v, w2⟩, e2, q1, q2, q3⟩ := r_slide h.Q n0 s1 s2
          have q4 : w2.1 288 u = -nI 2 := (q2 u t1).1 k0
          refine ⟨(-nI 2, w2), ?_, rfl, q3.up (by decide)⟩
          unfold f_X12_slidAt
          simp (disch := omega) only [pv_v, pv_b2, pv_b1, pv_x, pv_lit, pv_ofN, pu_chk, pu_cl, nI_add, pk_mul, nI_leI, nI_ltI, nI_eq, pu_nar0, pu_nar1, pu_narb, bI_0, bI_1, ↓reduceIte, pu_leT, pu_leF, pu_ltT, pu_ltF, pu_eqT, pu_eqF, pu_x1, pu_x2, pu_x3, pu_x4, pu_x5, pu_x6, pu_x7, pu_x8, Nat.zero_add, pu_m31I, pu_m31, pu_shlI, eq_self, Bool.false_eq_true, Bool.true_eq_false, h.u1 t1, h.F.2.2.1, r_inY, e2, q4]
    · refine Both.val (-nI 1) rfl (fun w h => ?_) (fun w h => ?_) w hc hr hb hnf
      · unfold f_X11_slidAt f_X11_slidAt_24
        simp (disch := omega) only [pv_v, pv_b2, pv_b1, pv_x, pv_lit, pv_ofN, pu_chk, pu_cl, nI_add, pk_mul, nI_leI, nI_ltI, nI_eq, pu_nar0, pu_nar1, pu_narb, bI_0, bI_1, ↓reduceIte, pu_leT, pu_leF, pu_ltT, pu_ltF, pu_eqT, pu_eqF, pu_x1, pu_x2, pu_x3, pu_x4, pu_x5, pu_x6, pu_x7, pu_x8, Nat.zero_add, pu_m31I, pu_m31, pu_shlI, eq_self, Bool.false_eq_true, Bool.true_eq_false, h.u1 t1, h.F.2.2.1, s1]
      · unfold f_X12_slidAt f_X12_slidAt_22
        simp (disch := omega) only [pv_v, pv_b2, pv_b1, pv_x, pv_lit, pv_ofN, pu_chk, pu_cl, nI_add, pk_mul, nI_leI, nI_ltI, nI_eq, pu_nar0, pu_nar1, pu_narb, bI_0, bI_1, ↓reduceIte, pu_leT, pu_leF, pu_ltT, pu_ltF, pu_eqT, pu_eqF, pu_x1, pu_x2, pu_x3, pu_x4, pu_x5, pu_x6, pu_x7, pu_x8, Nat.zero_add, pu_m31I, pu_m31, pu_shlI, eq_self, Bool.false_eq_true, Bool.true_eq_false, h.u1 t1, h.F.2.2.1, r_inL s1]
    · refine Both.val (-nI 1) rfl (fun w h => ?_) (fun w h => ?_) w hc hr hb hnf
      · unfold f_X11_slidAt f_X11_slidAt_24
        simp (disch := omega) only [pv_v, pv_b2, pv_b1, pv_x, pv_lit, pv_ofN, pu_chk, pu_cl, nI_add, pk_mul, nI_leI, nI_ltI, nI_eq, pu_nar0, pu_nar1, pu_narb, bI_0, bI_1, ↓reduceIte, pu_leT, pu_leF, pu_ltT, pu_ltF, pu_eqT, pu_eqF, pu_x1, pu_x2, pu_x3, pu_x4, pu_x5, pu_x6, pu_x7, pu_x8, Nat.zero_add, pu_m31I, pu_m31, pu_shlI, eq_self, Bool.false_eq_true, Bool.true_eq_false, h.u1 t1, h.F.2.2.1, s1, s3, s4]
      · unfold f_X12_slidAt f_X12_slidAt_22
        simp (disch := omega) only [pv_v, pv_b2, pv_b1, pv_x, pv_lit, pv_ofN, pu_chk, pu_cl, nI_add, pk_mul, nI_leI, nI_ltI, nI_eq, pu_nar0, pu_nar1, pu_narb, bI_0, bI_1, ↓reduceIte, pu_leT, pu_leF, pu_ltT, pu_ltF, pu_eqT, pu_eqF, pu_x1, pu_x2, pu_x3, pu_x4, pu_x5, pu_x6, pu_x7, pu_x8, Nat.zero_add, pu_m31I, pu_m31, pu_shlI, eq_self, Bool.false_eq_true, Bool.true_eq_false, h.u1 t1, h.F.2.2.1, r_inH s1 s4]
theorem both_blame (a : Int32) : Both j fd z o (fun a b => a = b) (f_X11_blame a) (f_X12_blame a) := by
  intro w hc hr hb hnf
  have hF := hc.wF
  have h10 := hF.1
  have hSF := SF_le hF
  cases e : ix (fd 0 0) a with
  | none =>
    refine Both.val (-nI 1) rfl (fun w h => ?_) (fun w h => ?_) w hc hr hb hnf
    · unfold f_X11_blame f_X11_blame_20
      simp (disch := omega) only [pv_v, pv_b2, pv_b1, pv_x, pv_lit, pv_ofN, pu_chk, pu_cl, nI_add, pk_mul, nI_leI, nI_ltI, nI_eq, pu_nar0, pu_nar1, pu_narb, bI_0, bI_1, ↓reduceIte, pu_leT, pu_leF, pu_ltT, pu_ltF, pu_eqT, pu_eqF, pu_x1, pu_x2, pu_x3, pu_x4, pu_x5, pu_x6, pu_x7, pu_x8, Nat.zero_add, pu_m31I, pu_m31, pu_shlI, eq_self, Bool.false_eq_true, Bool.true_eq_false, h.u0 e]
    · unfold f_X12_blame f_X12_blame_16
      simp (disch := omega) only [pv_v, pv_b2, pv_b1, pv_x, pv_lit, pv_ofN, pu_chk, pu_cl, nI_add, pk_mul, nI_leI, nI_ltI, nI_eq, pu_nar0, pu_nar1, pu_narb, bI_0, bI_1, ↓reduceIte, pu_leT, pu_leF, pu_ltT, pu_ltF, pu_eqT, pu_eqF, pu_x1, pu_x2, pu_x3, pu_x4, pu_x5, pu_x6, pu_x7, pu_x8, Nat.zero_add, pu_m31I, pu_m31, pu_shlI, eq_self, Bool.false_eq_true, Bool.true_eq_false, h.u0 e]
  | some u =>
    obtain ⟨t1, t2, t3⟩ := ix_s e
    subst t2
    have n0 : 0 < (fd 0 0) := by omega
    by_cases k0 : z.1 0 u = 0
    · refine Both.ask (· = nI (pu_S (fun o => !(o == u) && ((pu_u fd z.1).testBit o && !(sRR (pu_k fd (z.1 2 0)) (pu_o fd z.1) (fun _ => true) ((fd 0 1) * (fd 0 2)) (pu_sd (pu_u fd z.1) (2 ^ o))).testBit u)) (fd 0 0))) eq_2 (fun w h => ?_) (fun w h => (r_blame h.Q t1 k0).mono (fun q hq => ⟨hq.1, hq.2.up (by decide)⟩)) w hc hr hb hnf
      have g1 : w.1 24 u = nI (z.1 0 u) := h.S.1 u (by omega)
      rw [k0] at g1
      obtain ⟨w1, e1, hW⟩ := h.look n0
      obtain ⟨⟨v, w2⟩, e2, q1, q3⟩ := c_helpersOf hW U_lt (u := u) (by omega)
      refine ⟨(v, w2), ?_, q1, q3.e⟩
      unfold f_X11_blame
      simp (disch := omega) only [pv_v, pv_b2, pv_b1, pv_x, pv_lit, pv_ofN, pu_chk, pu_cl, nI_add, pk_mul, nI_leI, nI_ltI, nI_eq, pu_nar0, pu_nar1, pu_narb, bI_0, bI_1, ↓reduceIte, pu_leT, pu_leF, pu_ltT, pu_ltF, pu_eqT, pu_eqF, pu_x1, pu_x2, pu_x3, pu_x4, pu_x5, pu_x6, pu_x7, pu_x8, Nat.zero_add, pu_m31I, pu_m31, pu_shlI, eq_self, Bool.false_eq_true, Bool.true_eq_false, h.u1 t1, g1, e1, e2]
    · have kk := hc.wS.2.1 u
      refine Both.val (-nI 1) rfl (fun w h => ?_) (fun w h => ?_) w hc hr hb hnf
      · have g1 : w.1 24 u = nI (z.1 0 u) := h.S.1 u (by omega)
        unfold f_X11_blame f_X11_blame_20
        simp (disch := omega) only [pv_v, pv_b2, pv_b1, pv_x, pv_lit, pv_ofN, pu_chk, pu_cl, nI_add, pk_mul, nI_leI, nI_ltI, nI_eq, pu_nar0, pu_nar1, pu_narb, bI_0, bI_1, ↓reduceIte, pu_leT, pu_leF, pu_ltT, pu_ltF, pu_eqT, pu_eqF, pu_x1, pu_x2, pu_x3, pu_x4, pu_x5, pu_x6, pu_x7, pu_x8, Nat.zero_add, pu_m31I, pu_m31, pu_shlI, eq_self, Bool.false_eq_true, Bool.true_eq_false, h.u1 t1, g1]
      · have g1 := r_isUnknown h.Q (u := u) (by omega)
        rw [beq_eq_false_iff_ne.mpr k0] at g1
        unfold f_X12_blame f_X12_blame_16
        simp (disch := omega) only [pv_v, pv_b2, pv_b1, pv_x, pv_lit, pv_ofN, pu_chk, pu_cl, nI_add, pk_mul, nI_leI, nI_ltI, nI_eq, pu_nar0, pu_nar1, pu_narb, bI_0, bI_1, ↓reduceIte, pu_leT, pu_leF, pu_ltT, pu_ltF, pu_eqT, pu_eqF, pu_x1, pu_x2, pu_x3, pu_x4, pu_x5, pu_x6, pu_x7, pu_x8, Nat.zero_add, pu_m31I, pu_m31, pu_shlI, eq_self, Bool.false_eq_true, Bool.true_eq_false, h.u1 t1, g1]
theorem mx_lt {p : Nat → Bool} {f : Nat → Nat} {a : Nat} : ∀ {n u : Nat}, pu_mx p f a n = some u → u < a + n ∧ a ≤ u
  | 0, u, h => by cases h
  | n + 1, u, h => by
    have hs : pu_mx p f a (n + 1) = pu_mx p f a n ∨ pu_mx p f a (n + 1) = some (a + n) := by
      show (match pu_mx p f a n with | none => if p (a + n) then some (a + n) else none | some b => if p (a + n) && decide (f b < f (a + n)) then some (a + n) else some b) = _ ∨ (match pu_mx p f a n with | none => if p (a + n) then some (a + n) else none | some b => if p (a + n) && decide (f b < f (a + n)) then some (a + n) else some b) = _
      cases e : pu_mx p f a n with
      | none =>
        by_cases c : p (a + n) = true
        · right; exact if_pos c
        · left; exact if_neg c
      | some b =>
        by_cases c : (p (a + n) && decide (f b < f (a + n))) = true
        · right; exact if_pos c
        · left; exact if_neg c
    rcases hs with e | e
    · rw [e] at h
      have := mx_lt h
      omega
    · rw [e] at h
      cases h
      omega
theorem both_less (a : Int32) : Both j fd z o (fun a b => a = b) (f_X11_less a) (f_X12_less a) := by
  intro w hc hr hb hnf
  have hF := hc.wF
  have h10 := hF.1
  have hSF := SF_le hF
  rcases Nat.eq_zero_or_pos (fd 0 0) with n0 | n0
  · refine Both.val (-nI 1000000) rfl (fun w h => ?_) (fun w h => ?_) w hc hr hb hnf
    · unfold f_X11_less f_X11_bestHelper f_X11_bestHelper_16
      simp (disch := omega) only [pv_v, pv_b2, pv_b1, pv_x, pv_lit, pv_ofN, pu_chk, pu_cl, nI_add, pk_mul, nI_leI, nI_ltI, nI_eq, pu_nar0, pu_nar1, pu_narb, bI_0, bI_1, ↓reduceIte, pu_leT, pu_leF, pu_ltT, pu_ltF, pu_eqT, pu_eqF, pu_x1, pu_x2, pu_x3, pu_x4, pu_x5, pu_x6, pu_x7, pu_x8, Nat.zero_add, pu_m31I, pu_m31, pu_shlI, eq_self, Bool.false_eq_true, Bool.true_eq_false, h.n0 n0]
    · unfold f_X12_less f_X12_less_25 f_X12_less_28
      simp (disch := omega) only [pv_v, pv_b2, pv_b1, pv_x, pv_lit, pv_ofN, pu_chk, pu_cl, nI_add, pk_mul, nI_leI, nI_ltI, nI_eq, pu_nar0, pu_nar1, pu_narb, bI_0, bI_1, ↓reduceIte, pu_leT, pu_leF, pu_ltT, pu_ltF, pu_eqT, pu_eqF, pu_x1, pu_x2, pu_x3, pu_x4, pu_x5, pu_x6, pu_x7, pu_x8, Nat.zero_add, pu_m31I, pu_m31, pu_shlI, eq_self, Bool.false_eq_true, Bool.true_eq_false, h.n0 n0]
  · have hnn : True := trivial
    rcases rng a 0 1 (by omega) (by omega) with ⟨s, s1, s2, s3⟩ | ⟨s1, s2, s3⟩ | ⟨s1, s2, s3, s4, s5, s6, s7⟩
    · subst s3
      refine Both.ask (· = (if s = 0 then oI (pu_mx (fun u => (pu_u fd z.1).testBit u) (pu_ko fd (pu_o fd z.1) (z.1 2 0) (pu_u fd z.1)) 0 (fd 0 0)) else nI (match (pu_mx (fun u => (pu_u fd z.1).testBit u) (pu_ko fd (pu_o fd z.1) (z.1 2 0) (pu_u fd z.1)) 0 (fd 0 0)) with | none => 0 | some v => pu_ko fd (pu_o fd z.1) (z.1 2 0) (pu_u fd z.1) v + false.toNat))) eq_2 (fun w h => ?_) (fun w h => ?_) w hc hr hb hnf
      · obtain ⟨w1, e1, hW⟩ := h.look n0
        obtain ⟨⟨v, w2⟩, e2, q1, q3⟩ := c_helperOfMost hW U_lt
        have q1 : v = oI (pu_mx (fun u => (pu_u fd z.1).testBit u) (pu_ko fd (pu_o fd z.1) (z.1 2 0) (pu_u fd z.1)) 0 (fd 0 0)) := q1
        rcases (show s = 0 ∨ s = 1 by omega) with e | e <;> subst e
        · refine ⟨(v, w2), ?_, q1, q3.e⟩
          unfold f_X11_less f_X11_bestHelper
          simp (disch := omega) only [pv_v, pv_b2, pv_b1, pv_x, pv_lit, pv_ofN, pu_chk, pu_cl, nI_add, pk_mul, nI_leI, nI_ltI, nI_eq, pu_nar0, pu_nar1, pu_narb, bI_0, bI_1, ↓reduceIte, pu_leT, pu_leF, pu_ltT, pu_ltF, pu_eqT, pu_eqF, pu_x1, pu_x2, pu_x3, pu_x4, pu_x5, pu_x6, pu_x7, pu_x8, Nat.zero_add, pu_m31I, pu_m31, pu_shlI, eq_self, Bool.false_eq_true, Bool.true_eq_false, h.n1 n0, e1, e2]
        · cases em : (pu_mx (fun u => (pu_u fd z.1).testBit u) (pu_ko fd (pu_o fd z.1) (z.1 2 0) (pu_u fd z.1)) 0 (fd 0 0)) with
          | none =>
            rw [em] at q1
            have q1 : v = -nI 1 := q1
            refine ⟨(nI 0, w2), ?_, rfl, q3.e⟩
            unfold f_X11_less f_X11_bestHelper f_X11_bestHelper_63
            simp (disch := omega) only [pv_v, pv_b2, pv_b1, pv_x, pv_lit, pv_ofN, pu_chk, pu_cl, nI_add, pk_mul, nI_leI, nI_ltI, nI_eq, pu_nar0, pu_nar1, pu_narb, bI_0, bI_1, ↓reduceIte, pu_leT, pu_leF, pu_ltT, pu_ltF, pu_eqT, pu_eqF, pu_x1, pu_x2, pu_x3, pu_x4, pu_x5, pu_x6, pu_x7, pu_x8, Nat.zero_add, pu_m31I, pu_m31, pu_shlI, eq_self, Bool.false_eq_true, Bool.true_eq_false, h.n1 n0, e1, e2, q1]
          | some u =>
            rw [em] at q1
            have q1 : v = nI u := q1
            have hu : u < (fd 0 0) := by
              have := mx_lt em
              omega
            obtain ⟨⟨v3, w3⟩, e3, q4, q5⟩ := c_othersKnownWithout q3 U_lt hu
            have q4 : v3 = nI (pu_ko fd (pu_o fd z.1) (z.1 2 0) (pu_u fd z.1) u) := q4
            refine ⟨(nI (pu_ko fd (pu_o fd z.1) (z.1 2 0) (pu_u fd z.1) u + 0), w3), ?_, rfl, q5.e⟩
            unfold f_X11_less f_X11_bestHelper f_X11_bestHelper_63
            simp (disch := omega) only [pv_v, pv_b2, pv_b1, pv_x, pv_lit, pv_ofN, pu_chk, pu_cl, nI_add, pk_mul, nI_leI, nI_ltI, nI_eq, pu_nar0, pu_nar1, pu_narb, bI_0, bI_1, ↓reduceIte, pu_leT, pu_leF, pu_ltT, pu_ltF, pu_eqT, pu_eqF, pu_x1, pu_x2, pu_x3, pu_x4, pu_x5, pu_x6, pu_x7, pu_x8, Nat.zero_add, pu_m31I, pu_m31, pu_shlI, eq_self, Bool.false_eq_true, Bool.true_eq_false, h.n1 n0, e1, e2, q1, e3, q4]
      · obtain ⟨⟨v, w2⟩, e2, q1, q3⟩ := r_bestOne h.Q (b := false) s2
        have e2 : f_X12_bestOne (nI 0) (nI s) w = some (v, w2) := e2
        refine ⟨(v, w2), ?_, q1, q3.up (by decide)⟩
        unfold f_X12_less f_X12_less_28
        simp (disch := omega) only [pv_v, pv_b2, pv_b1, pv_x, pv_lit, pv_ofN, pu_chk, pu_cl, nI_add, pk_mul, nI_leI, nI_ltI, nI_eq, pu_nar0, pu_nar1, pu_narb, bI_0, bI_1, ↓reduceIte, pu_leT, pu_leF, pu_ltT, pu_ltF, pu_eqT, pu_eqF, pu_x1, pu_x2, pu_x3, pu_x4, pu_x5, pu_x6, pu_x7, pu_x8, Nat.zero_add, pu_m31I, pu_m31, pu_shlI, eq_self, Bool.false_eq_true, Bool.true_eq_false, h.n1 n0, r_inY, e2]
    · refine Both.val (-nI 1000000) rfl (fun w h => ?_) (fun w h => ?_) w hc hr hb hnf
      · unfold f_X11_less f_X11_bestHelper f_X11_bestHelper_16
        simp (disch := omega) only [pv_v, pv_b2, pv_b1, pv_x, pv_lit, pv_ofN, pu_chk, pu_cl, nI_add, pk_mul, nI_leI, nI_ltI, nI_eq, pu_nar0, pu_nar1, pu_narb, bI_0, bI_1, ↓reduceIte, pu_leT, pu_leF, pu_ltT, pu_ltF, pu_eqT, pu_eqF, pu_x1, pu_x2, pu_x3, pu_x4, pu_x5, pu_x6, pu_x7, pu_x8, Nat.zero_add, pu_m31I, pu_m31, pu_shlI, eq_self, Bool.false_eq_true, Bool.true_eq_false, h.n1 n0, s1]
      · unfold f_X12_less f_X12_less_25 f_X12_less_28
        simp (disch := omega) only [pv_v, pv_b2, pv_b1, pv_x, pv_lit, pv_ofN, pu_chk, pu_cl, nI_add, pk_mul, nI_leI, nI_ltI, nI_eq, pu_nar0, pu_nar1, pu_narb, bI_0, bI_1, ↓reduceIte, pu_leT, pu_leF, pu_ltT, pu_ltF, pu_eqT, pu_eqF, pu_x1, pu_x2, pu_x3, pu_x4, pu_x5, pu_x6, pu_x7, pu_x8, Nat.zero_add, pu_m31I, pu_m31, pu_shlI, eq_self, Bool.false_eq_true, Bool.true_eq_false, h.n1 n0, r_inL s1]
    · refine Both.val (-nI 1000000) rfl (fun w h => ?_) (fun w h => ?_) w hc hr hb hnf
      · unfold f_X11_less f_X11_bestHelper f_X11_bestHelper_16
        simp (disch := omega) only [pv_v, pv_b2, pv_b1, pv_x, pv_lit, pv_ofN, pu_chk, pu_cl, nI_add, pk_mul, nI_leI, nI_ltI, nI_eq, pu_nar0, pu_nar1, pu_narb, bI_0, bI_1, ↓reduceIte, pu_leT, pu_leF, pu_ltT, pu_ltF, pu_eqT, pu_eqF, pu_x1, pu_x2, pu_x3, pu_x4, pu_x5, pu_x6, pu_x7, pu_x8, Nat.zero_add, pu_m31I, pu_m31, pu_shlI, eq_self, Bool.false_eq_true, Bool.true_eq_false, h.n1 n0, s1, s3, s4]
      · unfold f_X12_less f_X12_less_25 f_X12_less_28
        simp (disch := omega) only [pv_v, pv_b2, pv_b1, pv_x, pv_lit, pv_ofN, pu_chk, pu_cl, nI_add, pk_mul, nI_leI, nI_ltI, nI_eq, pu_nar0, pu_nar1, pu_narb, bI_0, bI_1, ↓reduceIte, pu_leT, pu_leF, pu_ltT, pu_ltF, pu_eqT, pu_eqF, pu_x1, pu_x2, pu_x3, pu_x4, pu_x5, pu_x6, pu_x7, pu_x8, Nat.zero_add, pu_m31I, pu_m31, pu_shlI, eq_self, Bool.false_eq_true, Bool.true_eq_false, h.n1 n0, r_inH s1 s4]
theorem both_key (a : Int32) : Both j fd z o (fun a b => a = b) (f_X11_key a) (f_X12_key a) := by
  intro w hc hr hb hnf
  have hF := hc.wF
  have h10 := hF.1
  have hSF := SF_le hF
  rcases Nat.eq_zero_or_pos (fd 0 0) with n0 | n0
  · refine Both.val (-nI 1000000) rfl (fun w h => ?_) (fun w h => ?_) w hc hr hb hnf
    · unfold f_X11_key f_X11_bestHelper f_X11_bestHelper_16
      simp (disch := omega) only [pv_v, pv_b2, pv_b1, pv_x, pv_lit, pv_ofN, pu_chk, pu_cl, nI_add, pk_mul, nI_leI, nI_ltI, nI_eq, pu_nar0, pu_nar1, pu_narb, bI_0, bI_1, ↓reduceIte, pu_leT, pu_leF, pu_ltT, pu_ltF, pu_eqT, pu_eqF, pu_x1, pu_x2, pu_x3, pu_x4, pu_x5, pu_x6, pu_x7, pu_x8, Nat.zero_add, pu_m31I, pu_m31, pu_shlI, eq_self, Bool.false_eq_true, Bool.true_eq_false, h.n0 n0]
    · unfold f_X12_key f_X12_key_25 f_X12_key_28
      simp (disch := omega) only [pv_v, pv_b2, pv_b1, pv_x, pv_lit, pv_ofN, pu_chk, pu_cl, nI_add, pk_mul, nI_leI, nI_ltI, nI_eq, pu_nar0, pu_nar1, pu_narb, bI_0, bI_1, ↓reduceIte, pu_leT, pu_leF, pu_ltT, pu_ltF, pu_eqT, pu_eqF, pu_x1, pu_x2, pu_x3, pu_x4, pu_x5, pu_x6, pu_x7, pu_x8, Nat.zero_add, pu_m31I, pu_m31, pu_shlI, eq_self, Bool.false_eq_true, Bool.true_eq_false, h.n0 n0]
  · have hnn : True := trivial
    rcases rng a 0 1 (by omega) (by omega) with ⟨s, s1, s2, s3⟩ | ⟨s1, s2, s3⟩ | ⟨s1, s2, s3, s4, s5, s6, s7⟩
    · subst s3
      refine Both.ask (· = (if s = 0 then oI (pu_mx (fun u => (pu_u fd z.1).testBit u) (pu_ko fd (pu_o fd z.1) (z.1 2 0) (pu_u fd z.1)) 0 (fd 0 0)) else nI (match (pu_mx (fun u => (pu_u fd z.1).testBit u) (pu_ko fd (pu_o fd z.1) (z.1 2 0) (pu_u fd z.1)) 0 (fd 0 0)) with | none => 0 | some v => pu_ko fd (pu_o fd z.1) (z.1 2 0) (pu_u fd z.1) v + true.toNat))) eq_2 (fun w h => ?_) (fun w h => ?_) w hc hr hb hnf
      · obtain ⟨w1, e1, hW⟩ := h.look n0
        obtain ⟨⟨v, w2⟩, e2, q1, q3⟩ := c_helperOfMost hW U_lt
        have q1 : v = oI (pu_mx (fun u => (pu_u fd z.1).testBit u) (pu_ko fd (pu_o fd z.1) (z.1 2 0) (pu_u fd z.1)) 0 (fd 0 0)) := q1
        rcases (show s = 0 ∨ s = 1 by omega) with e | e <;> subst e
        · refine ⟨(v, w2), ?_, q1, q3.e⟩
          unfold f_X11_key f_X11_bestHelper
          simp (disch := omega) only [pv_v, pv_b2, pv_b1, pv_x, pv_lit, pv_ofN, pu_chk, pu_cl, nI_add, pk_mul, nI_leI, nI_ltI, nI_eq, pu_nar0, pu_nar1, pu_narb, bI_0, bI_1, ↓reduceIte, pu_leT, pu_leF, pu_ltT, pu_ltF, pu_eqT, pu_eqF, pu_x1, pu_x2, pu_x3, pu_x4, pu_x5, pu_x6, pu_x7, pu_x8, Nat.zero_add, pu_m31I, pu_m31, pu_shlI, eq_self, Bool.false_eq_true, Bool.true_eq_false, h.n1 n0, e1, e2]
        · cases em : (pu_mx (fun u => (pu_u fd z.1).testBit u) (pu_ko fd (pu_o fd z.1) (z.1 2 0) (pu_u fd z.1)) 0 (fd 0 0)) with
          | none =>
            rw [em] at q1
            have q1 : v = -nI 1 := q1
            refine ⟨(nI 0, w2), ?_, rfl, q3.e⟩
            unfold f_X11_key f_X11_bestHelper f_X11_bestHelper_63
            simp (disch := omega) only [pv_v, pv_b2, pv_b1, pv_x, pv_lit, pv_ofN, pu_chk, pu_cl, nI_add, pk_mul, nI_leI, nI_ltI, nI_eq, pu_nar0, pu_nar1, pu_narb, bI_0, bI_1, ↓reduceIte, pu_leT, pu_leF, pu_ltT, pu_ltF, pu_eqT, pu_eqF, pu_x1, pu_x2, pu_x3, pu_x4, pu_x5, pu_x6, pu_x7, pu_x8, Nat.zero_add, pu_m31I, pu_m31, pu_shlI, eq_self, Bool.false_eq_true, Bool.true_eq_false, h.n1 n0, e1, e2, q1]
          | some u =>
            rw [em] at q1
            have q1 : v = nI u := q1
            have hu : u < (fd 0 0) := by
              have := mx_lt em
              omega
            obtain ⟨⟨v3, w3⟩, e3, q4, q5⟩ := c_othersKnownWithout q3 U_lt hu
            have q4 : v3 = nI (pu_ko fd (pu_o fd z.1) (z.1 2 0) (pu_u fd z.1) u) := q4
            refine ⟨(nI (pu_ko fd (pu_o fd z.1) (z.1 2 0) (pu_u fd z.1) u + 1), w3), ?_, rfl, q5.e⟩
            unfold f_X11_key f_X11_bestHelper f_X11_bestHelper_63
            simp (disch := omega) only [pv_v, pv_b2, pv_b1, pv_x, pv_lit, pv_ofN, pu_chk, pu_cl, nI_add, pk_mul, nI_leI, nI_ltI, nI_eq, pu_nar0, pu_nar1, pu_narb, bI_0, bI_1, ↓reduceIte, pu_leT, pu_leF, pu_ltT, pu_ltF, pu_eqT, pu_eqF, pu_x1, pu_x2, pu_x3, pu_x4, pu_x5, pu_x6, pu_x7, pu_x8, Nat.zero_add, pu_m31I, pu_m31, pu_shlI, eq_self, Bool.false_eq_true, Bool.true_eq_false, h.n1 n0, e1, e2, q1, e3, q4]
      · obtain ⟨⟨v, w2⟩, e2, q1, q3⟩ := r_bestOne h.Q (b := true) s2
        have e2 : f_X12_bestOne (nI 1) (nI s) w = some (v, w2) := e2
        refine ⟨(v, w2), ?_, q1, q3.up (by decide)⟩
        unfold f_X12_key f_X12_key_28
        simp (disch := omega) only [pv_v, pv_b2, pv_b1, pv_x, pv_lit, pv_ofN, pu_chk, pu_cl, nI_add, pk_mul, nI_leI, nI_ltI, nI_eq, pu_nar0, pu_nar1, pu_narb, bI_0, bI_1, ↓reduceIte, pu_leT, pu_leF, pu_ltT, pu_ltF, pu_eqT, pu_eqF, pu_x1, pu_x2, pu_x3, pu_x4, pu_x5, pu_x6, pu_x7, pu_x8, Nat.zero_add, pu_m31I, pu_m31, pu_shlI, eq_self, Bool.false_eq_true, Bool.true_eq_false, h.n1 n0, r_inY, e2]
    · refine Both.val (-nI 1000000) rfl (fun w h => ?_) (fun w h => ?_) w hc hr hb hnf
      · unfold f_X11_key f_X11_bestHelper f_X11_bestHelper_16
        simp (disch := omega) only [pv_v, pv_b2, pv_b1, pv_x, pv_lit, pv_ofN, pu_chk, pu_cl, nI_add, pk_mul, nI_leI, nI_ltI, nI_eq, pu_nar0, pu_nar1, pu_narb, bI_0, bI_1, ↓reduceIte, pu_leT, pu_leF, pu_ltT, pu_ltF, pu_eqT, pu_eqF, pu_x1, pu_x2, pu_x3, pu_x4, pu_x5, pu_x6, pu_x7, pu_x8, Nat.zero_add, pu_m31I, pu_m31, pu_shlI, eq_self, Bool.false_eq_true, Bool.true_eq_false, h.n1 n0, s1]
      · unfold f_X12_key f_X12_key_25 f_X12_key_28
        simp (disch := omega) only [pv_v, pv_b2, pv_b1, pv_x, pv_lit, pv_ofN, pu_chk, pu_cl, nI_add, pk_mul, nI_leI, nI_ltI, nI_eq, pu_nar0, pu_nar1, pu_narb, bI_0, bI_1, ↓reduceIte, pu_leT, pu_leF, pu_ltT, pu_ltF, pu_eqT, pu_eqF, pu_x1, pu_x2, pu_x3, pu_x4, pu_x5, pu_x6, pu_x7, pu_x8, Nat.zero_add, pu_m31I, pu_m31, pu_shlI, eq_self, Bool.false_eq_true, Bool.true_eq_false, h.n1 n0, r_inL s1]
    · refine Both.val (-nI 1000000) rfl (fun w h => ?_) (fun w h => ?_) w hc hr hb hnf
      · unfold f_X11_key f_X11_bestHelper f_X11_bestHelper_16
        simp (disch := omega) only [pv_v, pv_b2, pv_b1, pv_x, pv_lit, pv_ofN, pu_chk, pu_cl, nI_add, pk_mul, nI_leI, nI_ltI, nI_eq, pu_nar0, pu_nar1, pu_narb, bI_0, bI_1, ↓reduceIte, pu_leT, pu_leF, pu_ltT, pu_ltF, pu_eqT, pu_eqF, pu_x1, pu_x2, pu_x3, pu_x4, pu_x5, pu_x6, pu_x7, pu_x8, Nat.zero_add, pu_m31I, pu_m31, pu_shlI, eq_self, Bool.false_eq_true, Bool.true_eq_false, h.n1 n0, s1, s3, s4]
      · unfold f_X12_key f_X12_key_25 f_X12_key_28
        simp (disch := omega) only [pv_v, pv_b2, pv_b1, pv_x, pv_lit, pv_ofN, pu_chk, pu_cl, nI_add, pk_mul, nI_leI, nI_ltI, nI_eq, pu_nar0, pu_nar1, pu_narb, bI_0, bI_1, ↓reduceIte, pu_leT, pu_leF, pu_ltT, pu_ltF, pu_eqT, pu_eqF, pu_x1, pu_x2, pu_x3, pu_x4, pu_x5, pu_x6, pu_x7, pu_x8, Nat.zero_add, pu_m31I, pu_m31, pu_shlI, eq_self, Bool.false_eq_true, Bool.true_eq_false, h.n1 n0, r_inH s1 s4]
theorem both_more (a b : Int32) : Both j fd z o (fun a b => a = b) (f_X11_more a b) (f_X12_more a b) := by
  intro w hc hr hb hnf
  have hF := hc.wF
  have h10 := hF.1
  have hSF := SF_le hF
  cases e : ix (fd 0 0) a with
  | none =>
    refine Both.val (-nI 1000000) rfl (fun w h => ?_) (fun w h => ?_) w hc hr hb hnf
    · unfold f_X11_more f_X11_more_17
      simp (disch := omega) only [pv_v, pv_b2, pv_b1, pv_x, pv_lit, pv_ofN, pu_chk, pu_cl, nI_add, pk_mul, nI_leI, nI_ltI, nI_eq, pu_nar0, pu_nar1, pu_narb, bI_0, bI_1, ↓reduceIte, pu_leT, pu_leF, pu_ltT, pu_ltF, pu_eqT, pu_eqF, pu_x1, pu_x2, pu_x3, pu_x4, pu_x5, pu_x6, pu_x7, pu_x8, Nat.zero_add, pu_m31I, pu_m31, pu_shlI, eq_self, Bool.false_eq_true, Bool.true_eq_false, h.u0 e]
    · unfold f_X12_more f_X12_more_17
      simp (disch := omega) only [pv_v, pv_b2, pv_b1, pv_x, pv_lit, pv_ofN, pu_chk, pu_cl, nI_add, pk_mul, nI_leI, nI_ltI, nI_eq, pu_nar0, pu_nar1, pu_narb, bI_0, bI_1, ↓reduceIte, pu_leT, pu_leF, pu_ltT, pu_ltF, pu_eqT, pu_eqF, pu_x1, pu_x2, pu_x3, pu_x4, pu_x5, pu_x6, pu_x7, pu_x8, Nat.zero_add, pu_m31I, pu_m31, pu_shlI, eq_self, Bool.false_eq_true, Bool.true_eq_false, h.u0 e]
  | some u =>
    obtain ⟨t1, t2, t3⟩ := ix_s e
    subst t2
    have n0 : 0 < (fd 0 0) := by omega
    rcases rng b 0 1 (by omega) (by omega) with ⟨s, s1, s2, s3⟩ | ⟨s1, s2, s3⟩ | ⟨s1, s2, s3, s4, s5, s6, s7⟩
    · subst s3
      refine Both.ask (· = (if s = 0 then oI (pu_mx (fun s => !(pu_o fd z.1 s).testBit u) (pu_kc fd (pu_o fd z.1) (z.1 2 0) (pu_u fd z.1) u) (pu_lo fd u) (pu_up fd u - pu_lo fd u)) else nI (match (pu_mx (fun s => !(pu_o fd z.1 s).testBit u) (pu_kc fd (pu_o fd z.1) (z.1 2 0) (pu_u fd z.1) u) (pu_lo fd u) (pu_up fd u - pu_lo fd u)) with | none => 0 | some v => pu_kc fd (pu_o fd z.1) (z.1 2 0) (pu_u fd z.1) u v))) eq_2 (fun w h => ?_) (fun w h => (r_more h.Q t1 s2).mono (fun q hq => ⟨hq.1, hq.2.up (by decide)⟩)) w hc hr hb hnf
      obtain ⟨w1, e1, hW⟩ := h.look n0
      obtain ⟨⟨v, w2⟩, e2, q1, q3⟩ := c_bestNewSlot hW U_lt h.F t1
      have q1 : v = oI (pu_mx (fun s => !(pu_o fd z.1 s).testBit u) (pu_kc fd (pu_o fd z.1) (z.1 2 0) (pu_u fd z.1) u) (pu_lo fd u) (pu_up fd u - pu_lo fd u)) := q1
      rcases (show s = 0 ∨ s = 1 by omega) with e | e <;> subst e
      · refine ⟨(v, w2), ?_, q1, q3.e⟩
        unfold f_X11_more
        simp (disch := omega) only [pv_v, pv_b2, pv_b1, pv_x, pv_lit, pv_ofN, pu_chk, pu_cl, nI_add, pk_mul, nI_leI, nI_ltI, nI_eq, pu_nar0, pu_nar1, pu_narb, bI_0, bI_1, ↓reduceIte, pu_leT, pu_leF, pu_ltT, pu_ltF, pu_eqT, pu_eqF, pu_x1, pu_x2, pu_x3, pu_x4, pu_x5, pu_x6, pu_x7, pu_x8, Nat.zero_add, pu_m31I, pu_m31, pu_shlI, eq_self, Bool.false_eq_true, Bool.true_eq_false, h.u1 t1, e1, e2]
      · cases em : (pu_mx (fun s => !(pu_o fd z.1 s).testBit u) (pu_kc fd (pu_o fd z.1) (z.1 2 0) (pu_u fd z.1) u) (pu_lo fd u) (pu_up fd u - pu_lo fd u)) with
        | none =>
          rw [em] at q1
          have q1 : v = -nI 1 := q1
          refine ⟨(nI 0, w2), ?_, rfl, q3.e⟩
          unfold f_X11_more f_X11_more_64
          simp (disch := omega) only [pv_v, pv_b2, pv_b1, pv_x, pv_lit, pv_ofN, pu_chk, pu_cl, nI_add, pk_mul, nI_leI, nI_ltI, nI_eq, pu_nar0, pu_nar1, pu_narb, bI_0, bI_1, ↓reduceIte, pu_leT, pu_leF, pu_ltT, pu_ltF, pu_eqT, pu_eqF, pu_x1, pu_x2, pu_x3, pu_x4, pu_x5, pu_x6, pu_x7, pu_x8, Nat.zero_add, pu_m31I, pu_m31, pu_shlI, eq_self, Bool.false_eq_true, Bool.true_eq_false, h.u1 t1, e1, e2, q1]
        | some x =>
          rw [em] at q1
          have q1 : v = nI x := q1
          have hx : x < (fd 0 1) * (fd 0 2) := by
            have h1 := mx_lt em
            have h2 := pu_lo_up hF t1
            omega
          obtain ⟨⟨v3, w3⟩, e3, q4, q5⟩ := c_knownWithCopy q3 U_lt t1 hx
          have q4 : v3 = nI (pu_kc fd (pu_o fd z.1) (z.1 2 0) (pu_u fd z.1) u x) := q4
          refine ⟨(nI (pu_kc fd (pu_o fd z.1) (z.1 2 0) (pu_u fd z.1) u x), w3), ?_, rfl, q5.e⟩
          unfold f_X11_more f_X11_more_64
          simp (disch := omega) only [pv_v, pv_b2, pv_b1, pv_x, pv_lit, pv_ofN, pu_chk, pu_cl, nI_add, pk_mul, nI_leI, nI_ltI, nI_eq, pu_nar0, pu_nar1, pu_narb, bI_0, bI_1, ↓reduceIte, pu_leT, pu_leF, pu_ltT, pu_ltF, pu_eqT, pu_eqF, pu_x1, pu_x2, pu_x3, pu_x4, pu_x5, pu_x6, pu_x7, pu_x8, Nat.zero_add, pu_m31I, pu_m31, pu_shlI, eq_self, Bool.false_eq_true, Bool.true_eq_false, h.u1 t1, e1, e2, q1, e3, q4]
    · refine Both.val (-nI 1000000) rfl (fun w h => ?_) (fun w h => ?_) w hc hr hb hnf
      · unfold f_X11_more f_X11_more_17
        simp (disch := omega) only [pv_v, pv_b2, pv_b1, pv_x, pv_lit, pv_ofN, pu_chk, pu_cl, nI_add, pk_mul, nI_leI, nI_ltI, nI_eq, pu_nar0, pu_nar1, pu_narb, bI_0, bI_1, ↓reduceIte, pu_leT, pu_leF, pu_ltT, pu_ltF, pu_eqT, pu_eqF, pu_x1, pu_x2, pu_x3, pu_x4, pu_x5, pu_x6, pu_x7, pu_x8, Nat.zero_add, pu_m31I, pu_m31, pu_shlI, eq_self, Bool.false_eq_true, Bool.true_eq_false, h.u1 t1, s1]
      · unfold f_X12_more f_X12_more_17
        simp (disch := omega) only [pv_v, pv_b2, pv_b1, pv_x, pv_lit, pv_ofN, pu_chk, pu_cl, nI_add, pk_mul, nI_leI, nI_ltI, nI_eq, pu_nar0, pu_nar1, pu_narb, bI_0, bI_1, ↓reduceIte, pu_leT, pu_leF, pu_ltT, pu_ltF, pu_eqT, pu_eqF, pu_x1, pu_x2, pu_x3, pu_x4, pu_x5, pu_x6, pu_x7, pu_x8, Nat.zero_add, pu_m31I, pu_m31, pu_shlI, eq_self, Bool.false_eq_true, Bool.true_eq_false, h.u1 t1, r_inL s1]
    · refine Both.val (-nI 1000000) rfl (fun w h => ?_) (fun w h => ?_) w hc hr hb hnf
      · unfold f_X11_more f_X11_more_17
        simp (disch := omega) only [pv_v, pv_b2, pv_b1, pv_x, pv_lit, pv_ofN, pu_chk, pu_cl, nI_add, pk_mul, nI_leI, nI_ltI, nI_eq, pu_nar0, pu_nar1, pu_narb, bI_0, bI_1, ↓reduceIte, pu_leT, pu_leF, pu_ltT, pu_ltF, pu_eqT, pu_eqF, pu_x1, pu_x2, pu_x3, pu_x4, pu_x5, pu_x6, pu_x7, pu_x8, Nat.zero_add, pu_m31I, pu_m31, pu_shlI, eq_self, Bool.false_eq_true, Bool.true_eq_false, h.u1 t1, s1, s3, s4]
      · unfold f_X12_more f_X12_more_17
        simp (disch := omega) only [pv_v, pv_b2, pv_b1, pv_x, pv_lit, pv_ofN, pu_chk, pu_cl, nI_add, pk_mul, nI_leI, nI_ltI, nI_eq, pu_nar0, pu_nar1, pu_narb, bI_0, bI_1, ↓reduceIte, pu_leT, pu_leF, pu_ltT, pu_ltF, pu_eqT, pu_eqF, pu_x1, pu_x2, pu_x3, pu_x4, pu_x5, pu_x6, pu_x7, pu_x8, Nat.zero_add, pu_m31I, pu_m31, pu_shlI, eq_self, Bool.false_eq_true, Bool.true_eq_false, h.u1 t1, r_inH s1 s4]
end ASKS2
