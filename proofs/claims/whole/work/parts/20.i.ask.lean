/-! pure part: what is asked, as calls (by wip/whole/pure/mk20.py) -/
section ASKS
variable {fd : Nat → Nat → Nat} {z z' : Zt} {o o' : Ot} {w w' w'' : am_S} {j : Nat}
theorem cW.e {occ : Nat → Nat} {c U : Nat} (h : cW fd occ c U w w') : eqx [250, 253, 254] w w' ∧ cT fd w' := ⟨h.2.2, h.1.T⟩
theorem U_lt {st : Nat → Nat → Nat} : pu_u fd st < 2 ^ (fd 0 0) := pu_S_lt _ _
theorem U_k (hF : wF fd) {st : Nat → Nat → Nat} : pu_u fd st < 1024 := pu_S_n10 _ hF.1
theorem eq_2 {α : Type} {v : α} : ∀ a b, a = v → b = v → a = b := fun a b h1 h2 => by rw [h1, h2]
theorem ev_k (hF : wF fd) : 2 ^ (fd 0 0) - 1 < 1024 := by
  have : 2 ^ (fd 0 0) ≤ 2 ^ 10 := Nat.pow_le_pow_right (by decide) hF.1
  omega
theorem k_10 {a : Nat} (hF : wF fd) (h : a < 2 ^ (fd 0 0)) : a < 1024 := by
  have : 2 ^ (fd 0 0) ≤ 2 ^ 10 := Nat.pow_le_pow_right (by decide) hF.1
  omega
theorem both_solved (a : Int32) : Both j fd z o (fun a b => a = b) (f_X11_solved a) (f_X12_solved a) := by
  intro w hc hr hb hnf
  have hF := hc.wF
  have h10 := hF.1
  have hSF := SF_le hF
  rcases Nat.eq_zero_or_pos (fd 0 0) with n0 | n0
  · refine Both.val (-nI 1) rfl (fun w h => ?_) (fun w h => ?_) w hc hr hb hnf
    · unfold f_X11_solved f_X11_solved_16
      simp (disch := omega) only [pv_v, pv_b2, pv_b1, pv_x, pv_lit, pv_ofN, pu_chk, pu_cl, nI_add, pk_mul, nI_leI, nI_ltI, nI_eq, pu_nar0, pu_nar1, pu_narb, bI_0, bI_1, ↓reduceIte, pu_leT, pu_leF, pu_ltT, pu_ltF, pu_eqT, pu_eqF, pu_x1, pu_x2, pu_x3, pu_x4, pu_x5, pu_x6, pu_x7, pu_x8, Nat.zero_add, pu_m31I, pu_m31, pu_shlI, eq_self, Bool.false_eq_true, Bool.true_eq_false, h.n0 n0]
    · unfold f_X12_solved f_X12_solved_16
      simp (disch := omega) only [pv_v, pv_b2, pv_b1, pv_x, pv_lit, pv_ofN, pu_chk, pu_cl, nI_add, pk_mul, nI_leI, nI_ltI, nI_eq, pu_nar0, pu_nar1, pu_narb, bI_0, bI_1, ↓reduceIte, pu_leT, pu_leF, pu_ltT, pu_ltF, pu_eqT, pu_eqF, pu_x1, pu_x2, pu_x3, pu_x4, pu_x5, pu_x6, pu_x7, pu_x8, Nat.zero_add, pu_m31I, pu_m31, pu_shlI, eq_self, Bool.false_eq_true, Bool.true_eq_false, h.n0 n0]
  · have hnn : True := trivial
    rcases rng a 0 2 (by omega) (by omega) with ⟨s, s1, s2, s3⟩ | ⟨s1, s2, s3⟩ | ⟨s1, s2, s3, s4, s5, s6, s7⟩
    · subst s3
      have hG : ∀ w, RI fd z o w → Wp (f_X12_solved (nI s) w) (fun q => (∃ r, isN (pu_k fd (z.1 2 0)) (pu_o fd z.1) (fun _ => true) ((fd 0 1) * (fd 0 2)) (pu_u fd z.1) r ∧ q.1 = nI (if s = 0 then cn (pu_so fd z.1) else if s = 1 then pu_so fd z.1 else r)) ∧ eqx [284, 286, 287, 288] w q.2) := fun w h => (r_solved h.Q n0 s2).mono (fun q hq => ⟨hq.1, hq.2.up (by decide)⟩)
      refine Both.ask (fun v => ∃ r, isN (pu_k fd (z.1 2 0)) (pu_o fd z.1) (fun _ => true) ((fd 0 1) * (fd 0 2)) (pu_u fd z.1) r ∧ v = nI (if s = 0 then cn (pu_so fd z.1) else if s = 1 then pu_so fd z.1 else r)) (fun a b h1 h2 => ?_) (fun w h => ?_) hG w hc hr hb hnf
      · obtain ⟨r, r1, r2⟩ := h1
        obtain ⟨r', r1', r2'⟩ := h2
        rw [r2, r2', r1.uq r1']
      · obtain ⟨w1, e1, hW⟩ := h.look n0
        obtain ⟨⟨v, w2⟩, e2, ⟨r, q1, q2⟩, q3⟩ := c_roundsTillStuck hW U_lt
        have q1 : v = nI r := q1
        by_cases c2 : s = 2
        · subst c2
          refine ⟨(v, w2), ?_, ⟨r, q2, q1⟩, q3.e⟩
          unfold f_X11_solved
          simp (disch := omega) only [pv_v, pv_b2, pv_b1, pv_x, pv_lit, pv_ofN, pu_chk, pu_cl, nI_add, pk_mul, nI_leI, nI_ltI, nI_eq, pu_nar0, pu_nar1, pu_narb, bI_0, bI_1, ↓reduceIte, pu_leT, pu_leF, pu_ltT, pu_ltF, pu_eqT, pu_eqF, pu_x1, pu_x2, pu_x3, pu_x4, pu_x5, pu_x6, pu_x7, pu_x8, Nat.zero_add, pu_m31I, pu_m31, pu_shlI, eq_self, Bool.false_eq_true, Bool.true_eq_false, h.n1 n0, e1, e2]
        · obtain ⟨⟨v3, w3⟩, e3, q4, q5⟩ := c_stuckOf hW (X := (pu_u fd z.1)) U_lt
          have q4 : v3 = nI (sRR (pu_k fd (z.1 2 0)) (pu_o fd z.1) (fun _ => true) ((fd 0 1) * (fd 0 2)) (pu_u fd z.1)) := q4
          have k1 := c_everyone hW.n hF.1
          have k2 := hW.u
          have k3 : pu_so fd z.1 < 1024 := pu_sd_lt (k := 10) (ev_k hF)
          rcases (show s = 0 ∨ s = 1 by omega) with e | e <;> subst e
          · refine ⟨(nI (cn (pu_so fd z.1)), w3), ?_, ⟨r, q2, rfl⟩, q5.e⟩
            unfold f_X11_solved f_X11_solved_79
            unfold pu_so at k3 ⊢
            simp (disch := omega) only [pv_v, pv_b2, pv_b1, pv_x, pv_lit, pv_ofN, pu_chk, pu_cl, nI_add, pk_mul, nI_leI, nI_ltI, nI_eq, pu_nar0, pu_nar1, pu_narb, bI_0, bI_1, ↓reduceIte, pu_leT, pu_leF, pu_ltT, pu_ltF, pu_eqT, pu_eqF, pu_x1, pu_x2, pu_x3, pu_x4, pu_x5, pu_x6, pu_x7, pu_x8, Nat.zero_add, pu_m31I, pu_m31, pu_shlI, eq_self, Bool.false_eq_true, Bool.true_eq_false, h.n1 n0, e1, k1, k2, e3, q4, pu_andn, c_bitCount w3 k3]
          · refine ⟨(nI (pu_so fd z.1), w3), ?_, ⟨r, q2, rfl⟩, q5.e⟩
            unfold f_X11_solved f_X11_solved_79
            unfold pu_so
            simp (disch := omega) only [pv_v, pv_b2, pv_b1, pv_x, pv_lit, pv_ofN, pu_chk, pu_cl, nI_add, pk_mul, nI_leI, nI_ltI, nI_eq, pu_nar0, pu_nar1, pu_narb, bI_0, bI_1, ↓reduceIte, pu_leT, pu_leF, pu_ltT, pu_ltF, pu_eqT, pu_eqF, pu_x1, pu_x2, pu_x3, pu_x4, pu_x5, pu_x6, pu_x7, pu_x8, Nat.zero_add, pu_m31I, pu_m31, pu_shlI, eq_self, Bool.false_eq_true, Bool.true_eq_false, h.n1 n0, e1, k1, k2, e3, q4, pu_andn]
    · refine Both.val (-nI 1) rfl (fun w h => ?_) (fun w h => ?_) w hc hr hb hnf
      · unfold f_X11_solved f_X11_solved_16
        simp (disch := omega) only [pv_v, pv_b2, pv_b1, pv_x, pv_lit, pv_ofN, pu_chk, pu_cl, nI_add, pk_mul, nI_leI, nI_ltI, nI_eq, pu_nar0, pu_nar1, pu_narb, bI_0, bI_1, ↓reduceIte, pu_leT, pu_leF, pu_ltT, pu_ltF, pu_eqT, pu_eqF, pu_x1, pu_x2, pu_x3, pu_x4, pu_x5, pu_x6, pu_x7, pu_x8, Nat.zero_add, pu_m31I, pu_m31, pu_shlI, eq_self, Bool.false_eq_true, Bool.true_eq_false, h.n1 n0, s1]
      · unfold f_X12_solved f_X12_solved_16
        simp (disch := omega) only [pv_v, pv_b2, pv_b1, pv_x, pv_lit, pv_ofN, pu_chk, pu_cl, nI_add, pk_mul, nI_leI, nI_ltI, nI_eq, pu_nar0, pu_nar1, pu_narb, bI_0, bI_1, ↓reduceIte, pu_leT, pu_leF, pu_ltT, pu_ltF, pu_eqT, pu_eqF, pu_x1, pu_x2, pu_x3, pu_x4, pu_x5, pu_x6, pu_x7, pu_x8, Nat.zero_add, pu_m31I, pu_m31, pu_shlI, eq_self, Bool.false_eq_true, Bool.true_eq_false, h.n1 n0, r_inL s1]
    · refine Both.val (-nI 1) rfl (fun w h => ?_) (fun w h => ?_) w hc hr hb hnf
      · unfold f_X11_solved f_X11_solved_16
        simp (disch := omega) only [pv_v, pv_b2, pv_b1, pv_x, pv_lit, pv_ofN, pu_chk, pu_cl, nI_add, pk_mul, nI_leI, nI_ltI, nI_eq, pu_nar0, pu_nar1, pu_narb, bI_0, bI_1, ↓reduceIte, pu_leT, pu_leF, pu_ltT, pu_ltF, pu_eqT, pu_eqF, pu_x1, pu_x2, pu_x3, pu_x4, pu_x5, pu_x6, pu_x7, pu_x8, Nat.zero_add, pu_m31I, pu_m31, pu_shlI, eq_self, Bool.false_eq_true, Bool.true_eq_false, h.n1 n0, s1, s3, s4]
      · unfold f_X12_solved f_X12_solved_16
        simp (disch := omega) only [pv_v, pv_b2, pv_b1, pv_x, pv_lit, pv_ofN, pu_chk, pu_cl, nI_add, pk_mul, nI_leI, nI_ltI, nI_eq, pu_nar0, pu_nar1, pu_narb, bI_0, bI_1, ↓reduceIte, pu_leT, pu_leF, pu_ltT, pu_ltF, pu_eqT, pu_eqF, pu_x1, pu_x2, pu_x3, pu_x4, pu_x5, pu_x6, pu_x7, pu_x8, Nat.zero_add, pu_m31I, pu_m31, pu_shlI, eq_self, Bool.false_eq_true, Bool.true_eq_false, h.n1 n0, r_inH s1 s4]
theorem both_ahead (a : Int32) : Both j fd z o (fun a b => a = b) (f_X11_ahead a) (f_X12_ahead_ a) := by
  intro w hc hr hb hnf
  have hF := hc.wF
  have h10 := hF.1
  have hSF := SF_le hF
  rcases Nat.eq_zero_or_pos (fd 0 0) with n0 | n0
  · refine Both.val (-nI 1) rfl (fun w h => ?_) (fun w h => ?_) w hc hr hb hnf
    · unfold f_X11_ahead f_X11_ahead_17
      simp (disch := omega) only [pv_v, pv_b2, pv_b1, pv_x, pv_lit, pv_ofN, pu_chk, pu_cl, nI_add, pk_mul, nI_leI, nI_ltI, nI_eq, pu_nar0, pu_nar1, pu_narb, bI_0, bI_1, ↓reduceIte, pu_leT, pu_leF, pu_ltT, pu_ltF, pu_eqT, pu_eqF, pu_x1, pu_x2, pu_x3, pu_x4, pu_x5, pu_x6, pu_x7, pu_x8, Nat.zero_add, pu_m31I, pu_m31, pu_shlI, eq_self, Bool.false_eq_true, Bool.true_eq_false, h.n0 n0]
    · unfold f_X12_ahead_ f_X12_ahead__17
      simp (disch := omega) only [pv_v, pv_b2, pv_b1, pv_x, pv_lit, pv_ofN, pu_chk, pu_cl, nI_add, pk_mul, nI_leI, nI_ltI, nI_eq, pu_nar0, pu_nar1, pu_narb, bI_0, bI_1, ↓reduceIte, pu_leT, pu_leF, pu_ltT, pu_ltF, pu_eqT, pu_eqF, pu_x1, pu_x2, pu_x3, pu_x4, pu_x5, pu_x6, pu_x7, pu_x8, Nat.zero_add, pu_m31I, pu_m31, pu_shlI, eq_self, Bool.false_eq_true, Bool.true_eq_false, h.n0 n0]
  · have hnn : True := trivial
    rcases rng a 0 20 (by omega) (by omega) with ⟨s, s1, s2, s3⟩ | ⟨s1, s2, s3⟩ | ⟨s1, s2, s3, s4, s5, s6, s7⟩
    · subst s3
      refine Both.ask (· = nI (pu_sd (2 ^ (fd 0 0) - 1) (sR (pu_k fd (z.1 2 0)) (pu_o fd z.1) (fun _ => true) ((fd 0 1) * (fd 0 2)) (pu_u fd z.1) s))) eq_2 (fun w h => ?_) (fun w h => (r_ahead h.Q n0 s2).mono (fun q hq => ⟨hq.1, hq.2.up (by decide)⟩)) w hc hr hb hnf
      obtain ⟨w1, e1, hW⟩ := h.look n0
      obtain ⟨⟨v, w2⟩, e2, q1, q3⟩ := c_unknownBehind hW U_lt s2
      have q1 : v = nI (sR (pu_k fd (z.1 2 0)) (pu_o fd z.1) (fun _ => true) ((fd 0 1) * (fd 0 2)) (pu_u fd z.1) s) := q1
      refine ⟨(nI (pu_sd (2 ^ (fd 0 0) - 1) (sR (pu_k fd (z.1 2 0)) (pu_o fd z.1) (fun _ => true) ((fd 0 1) * (fd 0 2)) (pu_u fd z.1) s)), w2), ?_, rfl, q3.e⟩
      unfold f_X11_ahead
      simp (disch := omega) only [pv_v, pv_b2, pv_b1, pv_x, pv_lit, pv_ofN, pu_chk, pu_cl, nI_add, pk_mul, nI_leI, nI_ltI, nI_eq, pu_nar0, pu_nar1, pu_narb, bI_0, bI_1, ↓reduceIte, pu_leT, pu_leF, pu_ltT, pu_ltF, pu_eqT, pu_eqF, pu_x1, pu_x2, pu_x3, pu_x4, pu_x5, pu_x6, pu_x7, pu_x8, Nat.zero_add, pu_m31I, pu_m31, pu_shlI, eq_self, Bool.false_eq_true, Bool.true_eq_false, h.n1 n0, e1, c_everyone hW.n hF.1, e2, q1, pu_andn]
    · refine Both.val (-nI 1) rfl (fun w h => ?_) (fun w h => ?_) w hc hr hb hnf
      · unfold f_X11_ahead f_X11_ahead_17
        simp (disch := omega) only [pv_v, pv_b2, pv_b1, pv_x, pv_lit, pv_ofN, pu_chk, pu_cl, nI_add, pk_mul, nI_leI, nI_ltI, nI_eq, pu_nar0, pu_nar1, pu_narb, bI_0, bI_1, ↓reduceIte, pu_leT, pu_leF, pu_ltT, pu_ltF, pu_eqT, pu_eqF, pu_x1, pu_x2, pu_x3, pu_x4, pu_x5, pu_x6, pu_x7, pu_x8, Nat.zero_add, pu_m31I, pu_m31, pu_shlI, eq_self, Bool.false_eq_true, Bool.true_eq_false, h.n1 n0, s1]
      · unfold f_X12_ahead_ f_X12_ahead__17
        simp (disch := omega) only [pv_v, pv_b2, pv_b1, pv_x, pv_lit, pv_ofN, pu_chk, pu_cl, nI_add, pk_mul, nI_leI, nI_ltI, nI_eq, pu_nar0, pu_nar1, pu_narb, bI_0, bI_1, ↓reduceIte, pu_leT, pu_leF, pu_ltT, pu_ltF, pu_eqT, pu_eqF, pu_x1, pu_x2, pu_x3, pu_x4, pu_x5, pu_x6, pu_x7, pu_x8, Nat.zero_add, pu_m31I, pu_m31, pu_shlI, eq_self, Bool.false_eq_true, Bool.true_eq_false, h.n1 n0, r_inL s1]
    · refine Both.val (-nI 1) rfl (fun w h => ?_) (fun w h => ?_) w hc hr hb hnf
      · unfold f_X11_ahead f_X11_ahead_17
        simp (disch := omega) only [pv_v, pv_b2, pv_b1, pv_x, pv_lit, pv_ofN, pu_chk, pu_cl, nI_add, pk_mul, nI_leI, nI_ltI, nI_eq, pu_nar0, pu_nar1, pu_narb, bI_0, bI_1, ↓reduceIte, pu_leT, pu_leF, pu_ltT, pu_ltF, pu_eqT, pu_eqF, pu_x1, pu_x2, pu_x3, pu_x4, pu_x5, pu_x6, pu_x7, pu_x8, Nat.zero_add, pu_m31I, pu_m31, pu_shlI, eq_self, Bool.false_eq_true, Bool.true_eq_false, h.n1 n0, s1, s3, s4]
      · unfold f_X12_ahead_ f_X12_ahead__17
        simp (disch := omega) only [pv_v, pv_b2, pv_b1, pv_x, pv_lit, pv_ofN, pu_chk, pu_cl, nI_add, pk_mul, nI_leI, nI_ltI, nI_eq, pu_nar0, pu_nar1, pu_narb, bI_0, bI_1, ↓reduceIte, pu_leT, pu_leF, pu_ltT, pu_ltF, pu_eqT, pu_eqF, pu_x1, pu_x2, pu_x3, pu_x4, pu_x5, pu_x6, pu_x7, pu_x8, Nat.zero_add, pu_m31I, pu_m31, pu_shlI, eq_self, Bool.false_eq_true, Bool.true_eq_false, h.n1 n0, r_inH s1 s4]
theorem both_fewest (a b : Int32) : Both j fd z o (fun a b => a = b) (f_X11_fewest a b) (f_X12_fewest a b) := by
  intro w hc hr hb hnf
  have hF := hc.wF
  have h10 := hF.1
  have hSF := SF_le hF
  rcases Nat.eq_zero_or_pos (fd 0 0) with n0 | n0
  · refine Both.val (-nI 1) rfl (fun w h => ?_) (fun w h => ?_) w hc hr hb hnf
    · unfold f_X11_fewest f_X11_fewest_25
      simp (disch := omega) only [pv_v, pv_b2, pv_b1, pv_x, pv_lit, pv_ofN, pu_chk, pu_cl, nI_add, pk_mul, nI_leI, nI_ltI, nI_eq, pu_nar0, pu_nar1, pu_narb, bI_0, bI_1, ↓reduceIte, pu_leT, pu_leF, pu_ltT, pu_ltF, pu_eqT, pu_eqF, pu_x1, pu_x2, pu_x3, pu_x4, pu_x5, pu_x6, pu_x7, pu_x8, Nat.zero_add, pu_m31I, pu_m31, pu_shlI, eq_self, Bool.false_eq_true, Bool.true_eq_false, h.n0 n0]
    · unfold f_X12_fewest f_X12_fewest_25
      simp (disch := omega) only [pv_v, pv_b2, pv_b1, pv_x, pv_lit, pv_ofN, pu_chk, pu_cl, nI_add, pk_mul, nI_leI, nI_ltI, nI_eq, pu_nar0, pu_nar1, pu_narb, bI_0, bI_1, ↓reduceIte, pu_leT, pu_leF, pu_ltT, pu_ltF, pu_eqT, pu_eqF, pu_x1, pu_x2, pu_x3, pu_x4, pu_x5, pu_x6, pu_x7, pu_x8, Nat.zero_add, pu_m31I, pu_m31, pu_shlI, eq_self, Bool.false_eq_true, Bool.true_eq_false, h.n0 n0]
  · have hnn : True := trivial
    rcases rng a 0 1 (by omega) (by omega) with ⟨s, s1, s2, s3⟩ | ⟨s1, s2, s3⟩ | ⟨s1, s2, s3, s4, s5, s6, s7⟩
    · subst s3
      rcases rng b 0 1 (by omega) (by omega) with ⟨t, t1, t2, t3⟩ | ⟨t1, t2, t3⟩ | ⟨t1, t2, t3, t4, t5, t6, t7⟩
      · subst t3
        refine Both.ask (fun v => ∃ m, m < 1024 ∧ isM (fun m => sb m (pu_u fd z.1) ∧ sRR (pu_k fd (z.1 2 0)) (pu_o fd z.1) (fun _ => true) ((fd 0 1) * (fd 0 2)) (pu_sd (pu_u fd z.1) m) = 0) m ∧ v = nI (if t = 0 then cn m else m)) (fun a b h1 h2 => ?_) (fun w h => ?_) (fun w h => (r_fewest h.Q n0 s2 t2).mono (fun q hq => ⟨hq.1, hq.2.up (by decide)⟩)) w hc hr hb hnf
        · obtain ⟨r, _, r1, r2⟩ := h1
          obtain ⟨r', _, r1', r2'⟩ := h2
          rw [r2, r2', r1.uq r1']
        · obtain ⟨w1, e1, hW⟩ := h.look n0
          obtain ⟨⟨v, w2⟩, e2, ⟨m, q1, q2⟩, q3⟩ := c_fewestHelpers hW U_lt
          have q1 : v = nI m := q1
          have q4 := isM_up hW.K (U_k hF) q2
          have hm : m < 1024 := Nat.lt_of_le_of_lt (sb_le q4.1.1) (U_k hF)
          rcases (show t = 0 ∨ t = 1 by omega) with e | e <;> subst e
          · refine ⟨(nI (cn m), w2), ?_, ⟨m, hm, q4, rfl⟩, q3.e⟩
            unfold f_X11_fewest f_X11_fewest_58
            simp (disch := omega) only [pv_v, pv_b2, pv_b1, pv_x, pv_lit, pv_ofN, pu_chk, pu_cl, nI_add, pk_mul, nI_leI, nI_ltI, nI_eq, pu_nar0, pu_nar1, pu_narb, bI_0, bI_1, ↓reduceIte, pu_leT, pu_leF, pu_ltT, pu_ltF, pu_eqT, pu_eqF, pu_x1, pu_x2, pu_x3, pu_x4, pu_x5, pu_x6, pu_x7, pu_x8, Nat.zero_add, pu_m31I, pu_m31, pu_shlI, eq_self, Bool.false_eq_true, Bool.true_eq_false, h.n1 n0, e1, e2, q1, c_bitCount w2 hm]
          · refine ⟨(nI m, w2), ?_, ⟨m, hm, q4, rfl⟩, q3.e⟩
            unfold f_X11_fewest f_X11_fewest_58
            simp (disch := omega) only [pv_v, pv_b2, pv_b1, pv_x, pv_lit, pv_ofN, pu_chk, pu_cl, nI_add, pk_mul, nI_leI, nI_ltI, nI_eq, pu_nar0, pu_nar1, pu_narb, bI_0, bI_1, ↓reduceIte, pu_leT, pu_leF, pu_ltT, pu_ltF, pu_eqT, pu_eqF, pu_x1, pu_x2, pu_x3, pu_x4, pu_x5, pu_x6, pu_x7, pu_x8, Nat.zero_add, pu_m31I, pu_m31, pu_shlI, eq_self, Bool.false_eq_true, Bool.true_eq_false, h.n1 n0, e1, e2, q1]
      · refine Both.val (-nI 1) rfl (fun w h => ?_) (fun w h => ?_) w hc hr hb hnf
        · unfold f_X11_fewest f_X11_fewest_25
          simp (disch := omega) only [pv_v, pv_b2, pv_b1, pv_x, pv_lit, pv_ofN, pu_chk, pu_cl, nI_add, pk_mul, nI_leI, nI_ltI, nI_eq, pu_nar0, pu_nar1, pu_narb, bI_0, bI_1, ↓reduceIte, pu_leT, pu_leF, pu_ltT, pu_ltF, pu_eqT, pu_eqF, pu_x1, pu_x2, pu_x3, pu_x4, pu_x5, pu_x6, pu_x7, pu_x8, Nat.zero_add, pu_m31I, pu_m31, pu_shlI, eq_self, Bool.false_eq_true, Bool.true_eq_false, h.n1 n0, t1]
        · unfold f_X12_fewest f_X12_fewest_25
          simp (disch := omega) only [pv_v, pv_b2, pv_b1, pv_x, pv_lit, pv_ofN, pu_chk, pu_cl, nI_add, pk_mul, nI_leI, nI_ltI, nI_eq, pu_nar0, pu_nar1, pu_narb, bI_0, bI_1, ↓reduceIte, pu_leT, pu_leF, pu_ltT, pu_ltF, pu_eqT, pu_eqF, pu_x1, pu_x2, pu_x3, pu_x4, pu_x5, pu_x6, pu_x7, pu_x8, Nat.zero_add, pu_m31I, pu_m31, pu_shlI, eq_self, Bool.false_eq_true, Bool.true_eq_false, h.n1 n0, r_inY, r_inL t1]
      · refine Both.val (-nI 1) rfl (fun w h => ?_) (fun w h => ?_) w hc hr hb hnf
        · unfold f_X11_fewest f_X11_fewest_25
          simp (disch := omega) only [pv_v, pv_b2, pv_b1, pv_x, pv_lit, pv_ofN, pu_chk, pu_cl, nI_add, pk_mul, nI_leI, nI_ltI, nI_eq, pu_nar0, pu_nar1, pu_narb, bI_0, bI_1, ↓reduceIte, pu_leT, pu_leF, pu_ltT, pu_ltF, pu_eqT, pu_eqF, pu_x1, pu_x2, pu_x3, pu_x4, pu_x5, pu_x6, pu_x7, pu_x8, Nat.zero_add, pu_m31I, pu_m31, pu_shlI, eq_self, Bool.false_eq_true, Bool.true_eq_false, h.n1 n0, t1, t3, t4]
        · unfold f_X12_fewest f_X12_fewest_25
          simp (disch := omega) only [pv_v, pv_b2, pv_b1, pv_x, pv_lit, pv_ofN, pu_chk, pu_cl, nI_add, pk_mul, nI_leI, nI_ltI, nI_eq, pu_nar0, pu_nar1, pu_narb, bI_0, bI_1, ↓reduceIte, pu_leT, pu_leF, pu_ltT, pu_ltF, pu_eqT, pu_eqF, pu_x1, pu_x2, pu_x3, pu_x4, pu_x5, pu_x6, pu_x7, pu_x8, Nat.zero_add, pu_m31I, pu_m31, pu_shlI, eq_self, Bool.false_eq_true, Bool.true_eq_false, h.n1 n0, r_inY, r_inH t1 t4]
    · refine Both.val (-nI 1) rfl (fun w h => ?_) (fun w h => ?_) w hc hr hb hnf
      · unfold f_X11_fewest f_X11_fewest_25
        simp (disch := omega) only [pv_v, pv_b2, pv_b1, pv_x, pv_lit, pv_ofN, pu_chk, pu_cl, nI_add, pk_mul, nI_leI, nI_ltI, nI_eq, pu_nar0, pu_nar1, pu_narb, bI_0, bI_1, ↓reduceIte, pu_leT, pu_leF, pu_ltT, pu_ltF, pu_eqT, pu_eqF, pu_x1, pu_x2, pu_x3, pu_x4, pu_x5, pu_x6, pu_x7, pu_x8, Nat.zero_add, pu_m31I, pu_m31, pu_shlI, eq_self, Bool.false_eq_true, Bool.true_eq_false, h.n1 n0, s1]
      · unfold f_X12_fewest f_X12_fewest_25
        simp (disch := omega) only [pv_v, pv_b2, pv_b1, pv_x, pv_lit, pv_ofN, pu_chk, pu_cl, nI_add, pk_mul, nI_leI, nI_ltI, nI_eq, pu_nar0, pu_nar1, pu_narb, bI_0, bI_1, ↓reduceIte, pu_leT, pu_leF, pu_ltT, pu_ltF, pu_eqT, pu_eqF, pu_x1, pu_x2, pu_x3, pu_x4, pu_x5, pu_x6, pu_x7, pu_x8, Nat.zero_add, pu_m31I, pu_m31, pu_shlI, eq_self, Bool.false_eq_true, Bool.true_eq_false, h.n1 n0, r_inL s1]
    · refine Both.val (-nI 1) rfl (fun w h => ?_) (fun w h => ?_) w hc hr hb hnf
      · unfold f_X11_fewest f_X11_fewest_25
        simp (disch := omega) only [pv_v, pv_b2, pv_b1, pv_x, pv_lit, pv_ofN, pu_chk, pu_cl, nI_add, pk_mul, nI_leI, nI_ltI, nI_eq, pu_nar0, pu_nar1, pu_narb, bI_0, bI_1, ↓reduceIte, pu_leT, pu_leF, pu_ltT, pu_ltF, pu_eqT, pu_eqF, pu_x1, pu_x2, pu_x3, pu_x4, pu_x5, pu_x6, pu_x7, pu_x8, Nat.zero_add, pu_m31I, pu_m31, pu_shlI, eq_self, Bool.false_eq_true, Bool.true_eq_false, h.n1 n0, s1, s3, s4]
      · unfold f_X12_fewest f_X12_fewest_25
        simp (disch := omega) only [pv_v, pv_b2, pv_b1, pv_x, pv_lit, pv_ofN, pu_chk, pu_cl, nI_add, pk_mul, nI_leI, nI_ltI, nI_eq, pu_nar0, pu_nar1, pu_narb, bI_0, bI_1, ↓reduceIte, pu_leT, pu_leF, pu_ltT, pu_ltF, pu_eqT, pu_eqF, pu_x1, pu_x2, pu_x3, pu_x4, pu_x5, pu_x6, pu_x7, pu_x8, Nat.zero_add, pu_m31I, pu_m31, pu_shlI, eq_self, Bool.false_eq_true, Bool.true_eq_false, h.n1 n0, r_inH s1 s4]
theorem both_tight : Both j fd z o (fun a b => a = b) (f_X11_tight) (f_X12_tight) := by
  intro w hc hr hb hnf
  have hF := hc.wF
  have h10 := hF.1
  have hSF := SF_le hF
  rcases Nat.eq_zero_or_pos (fd 0 0) with n0 | n0
  · refine Both.val (-nI 1) rfl (fun w h => ?_) (fun w h => ?_) w hc hr hb hnf
    · unfold f_X11_tight
      simp (disch := omega) only [pv_v, pv_b2, pv_b1, pv_x, pv_lit, pv_ofN, pu_chk, pu_cl, nI_add, pk_mul, nI_leI, nI_ltI, nI_eq, pu_nar0, pu_nar1, pu_narb, bI_0, bI_1, ↓reduceIte, pu_leT, pu_leF, pu_ltT, pu_ltF, pu_eqT, pu_eqF, pu_x1, pu_x2, pu_x3, pu_x4, pu_x5, pu_x6, pu_x7, pu_x8, Nat.zero_add, pu_m31I, pu_m31, pu_shlI, eq_self, Bool.false_eq_true, Bool.true_eq_false, h.n0 n0]
    · unfold f_X12_tight
      simp (disch := omega) only [pv_v, pv_b2, pv_b1, pv_x, pv_lit, pv_ofN, pu_chk, pu_cl, nI_add, pk_mul, nI_leI, nI_ltI, nI_eq, pu_nar0, pu_nar1, pu_narb, bI_0, bI_1, ↓reduceIte, pu_leT, pu_leF, pu_ltT, pu_ltF, pu_eqT, pu_eqF, pu_x1, pu_x2, pu_x3, pu_x4, pu_x5, pu_x6, pu_x7, pu_x8, Nat.zero_add, pu_m31I, pu_m31, pu_shlI, eq_self, Bool.false_eq_true, Bool.true_eq_false, h.n0 n0]
  · have hnn : True := trivial
    refine Both.ask (isG fd (pu_o fd z.1) (pu_u fd z.1)) (fun a b h1 h2 => h1.uq h2) (fun w h => ?_) (fun w h => r_tight h.Q n0) w hc hr hb hnf
    obtain ⟨w1, e1, hW⟩ := h.look n0
    obtain ⟨⟨v, w2⟩, e2, q1, d, q3⟩ := c_greatestCapture hW U_lt
    refine ⟨(v, w2), ?_, q1, q3.e⟩
    unfold f_X11_tight
    simp (disch := omega) only [pv_v, pv_b2, pv_b1, pv_x, pv_lit, pv_ofN, pu_chk, pu_cl, nI_add, pk_mul, nI_leI, nI_ltI, nI_eq, pu_nar0, pu_nar1, pu_narb, bI_0, bI_1, ↓reduceIte, pu_leT, pu_leF, pu_ltT, pu_ltF, pu_eqT, pu_eqF, pu_x1, pu_x2, pu_x3, pu_x4, pu_x5, pu_x6, pu_x7, pu_x8, Nat.zero_add, pu_m31I, pu_m31, pu_shlI, eq_self, Bool.false_eq_true, Bool.true_eq_false, h.n1 n0, e1, e2]
theorem ls_k {p : Nat → Bool} {U : Nat} (hU : U < 1024) : pu_ls p (U + 1) < 1024 := by
  have : ∀ i, pu_ls p i ≤ i - 1 := fun i => by
    induction i with
    | zero => exact Nat.le_refl _
    | succ i ih =>
      have e : pu_ls p (i + 1) = pu_ls p i ∨ pu_ls p (i + 1) = i := by
        rw [pu_ls_s]
        split
        · exact .inr rfl
        · exact .inl rfl
      rcases e with e | e <;> rw [e] <;> omega
  have := this (U + 1)
  omega
theorem both_stuck (a : Int32) : Both j fd z o (fun a b => a = b) (f_X11_stuck a) (f_X12_stuck a) := by
  intro w hc hr hb hnf
  have hF := hc.wF
  have h10 := hF.1
  have hSF := SF_le hF
  rcases Nat.eq_zero_or_pos (fd 0 0) with n0 | n0
  · refine Both.val (-nI 1) rfl (fun w h => ?_) (fun w h => ?_) w hc hr hb hnf
    · unfold f_X11_stuck f_X11_stuck_16
      simp (disch := omega) only [pv_v, pv_b2, pv_b1, pv_x, pv_lit, pv_ofN, pu_chk, pu_cl, nI_add, pk_mul, nI_leI, nI_ltI, nI_eq, pu_nar0, pu_nar1, pu_narb, bI_0, bI_1, ↓reduceIte, pu_leT, pu_leF, pu_ltT, pu_ltF, pu_eqT, pu_eqF, pu_x1, pu_x2, pu_x3, pu_x4, pu_x5, pu_x6, pu_x7, pu_x8, Nat.zero_add, pu_m31I, pu_m31, pu_shlI, eq_self, Bool.false_eq_true, Bool.true_eq_false, h.n0 n0]
    · unfold f_X12_stuck f_X12_stuck_16
      simp (disch := omega) only [pv_v, pv_b2, pv_b1, pv_x, pv_lit, pv_ofN, pu_chk, pu_cl, nI_add, pk_mul, nI_leI, nI_ltI, nI_eq, pu_nar0, pu_nar1, pu_narb, bI_0, bI_1, ↓reduceIte, pu_leT, pu_leF, pu_ltT, pu_ltF, pu_eqT, pu_eqF, pu_x1, pu_x2, pu_x3, pu_x4, pu_x5, pu_x6, pu_x7, pu_x8, Nat.zero_add, pu_m31I, pu_m31, pu_shlI, eq_self, Bool.false_eq_true, Bool.true_eq_false, h.n0 n0]
  · have hnn : True := trivial
    rcases rng a 0 3 (by omega) (by omega) with ⟨s, s1, s2, s3⟩ | ⟨s1, s2, s3⟩ | ⟨s1, s2, s3, s4, s5, s6, s7⟩
    · subst s3
      refine Both.ask (· = nI (if s = 0 then cn (pu_ls (stk (pu_k fd (z.1 2 0)) (pu_o fd z.1) ((fd 0 1) * (fd 0 2)) (pu_u fd z.1)) (pu_u fd z.1 + 1)) else if s = 1 then pu_ls (stk (pu_k fd (z.1 2 0)) (pu_o fd z.1) ((fd 0 1) * (fd 0 2)) (pu_u fd z.1)) (pu_u fd z.1 + 1) else if s = 2 then pu_C (stk (pu_k fd (z.1 2 0)) (pu_o fd z.1) ((fd 0 1) * (fd 0 2)) (pu_u fd z.1)) (pu_u fd z.1 + 1) else pu_gs (stk (pu_k fd (z.1 2 0)) (pu_o fd z.1) ((fd 0 1) * (fd 0 2)) (pu_u fd z.1)) (pu_u fd z.1 + 1))) eq_2 (fun w h => ?_) (fun w h => (r_stuck h.Q n0 s2).mono (fun q hq => ⟨hq.1, hq.2.up (by decide)⟩)) w hc hr hb hnf
      obtain ⟨w1, e1, hW⟩ := h.look n0
      rcases (show s = 0 ∨ s = 1 ∨ s = 2 ∨ s = 3 by omega) with e | e | e | e <;> subst e
      · obtain ⟨⟨v, w2⟩, e2, q1, q3⟩ := c_leastStuckSet hW U_lt
        have q1 : v = nI (pu_ls (stk (pu_k fd (z.1 2 0)) (pu_o fd z.1) ((fd 0 1) * (fd 0 2)) (pu_u fd z.1)) (pu_u fd z.1 + 1)) := q1
        have hk : pu_ls (stk (pu_k fd (z.1 2 0)) (pu_o fd z.1) ((fd 0 1) * (fd 0 2)) (pu_u fd z.1)) (pu_u fd z.1 + 1) < 1024 := ls_k (U_k hF)
        refine ⟨(nI (cn (pu_ls (stk (pu_k fd (z.1 2 0)) (pu_o fd z.1) ((fd 0 1) * (fd 0 2)) (pu_u fd z.1)) (pu_u fd z.1 + 1))), w2), ?_, rfl, q3.e⟩
        unfold f_X11_stuck
        simp (disch := omega) only [pv_v, pv_b2, pv_b1, pv_x, pv_lit, pv_ofN, pu_chk, pu_cl, nI_add, pk_mul, nI_leI, nI_ltI, nI_eq, pu_nar0, pu_nar1, pu_narb, bI_0, bI_1, ↓reduceIte, pu_leT, pu_leF, pu_ltT, pu_ltF, pu_eqT, pu_eqF, pu_x1, pu_x2, pu_x3, pu_x4, pu_x5, pu_x6, pu_x7, pu_x8, Nat.zero_add, pu_m31I, pu_m31, pu_shlI, eq_self, Bool.false_eq_true, Bool.true_eq_false, h.n1 n0, e1, e2, q1, c_bitCount w2 hk]
      · obtain ⟨⟨v, w2⟩, e2, q1, q3⟩ := c_leastStuckSet hW U_lt
        refine ⟨(v, w2), ?_, q1, q3.e⟩
        unfold f_X11_stuck
        simp (disch := omega) only [pv_v, pv_b2, pv_b1, pv_x, pv_lit, pv_ofN, pu_chk, pu_cl, nI_add, pk_mul, nI_leI, nI_ltI, nI_eq, pu_nar0, pu_nar1, pu_narb, bI_0, bI_1, ↓reduceIte, pu_leT, pu_leF, pu_ltT, pu_ltF, pu_eqT, pu_eqF, pu_x1, pu_x2, pu_x3, pu_x4, pu_x5, pu_x6, pu_x7, pu_x8, Nat.zero_add, pu_m31I, pu_m31, pu_shlI, eq_self, Bool.false_eq_true, Bool.true_eq_false, h.n1 n0, e1, e2]
      · obtain ⟨⟨v, w2⟩, e2, q1, q3⟩ := c_stuckSets hW U_lt
        refine ⟨(v, w2), ?_, q1, q3.e⟩
        unfold f_X11_stuck
        simp (disch := omega) only [pv_v, pv_b2, pv_b1, pv_x, pv_lit, pv_ofN, pu_chk, pu_cl, nI_add, pk_mul, nI_leI, nI_ltI, nI_eq, pu_nar0, pu_nar1, pu_narb, bI_0, bI_1, ↓reduceIte, pu_leT, pu_leF, pu_ltT, pu_ltF, pu_eqT, pu_eqF, pu_x1, pu_x2, pu_x3, pu_x4, pu_x5, pu_x6, pu_x7, pu_x8, Nat.zero_add, pu_m31I, pu_m31, pu_shlI, eq_self, Bool.false_eq_true, Bool.true_eq_false, h.n1 n0, e1, e2]
      · obtain ⟨⟨v, w2⟩, e2, q1, q3⟩ := c_stuckOf hW (X := (pu_u fd z.1)) U_lt
        refine ⟨(v, w2), ?_, ?_, q3.e⟩
        · unfold f_X11_stuck
          simp (disch := omega) only [pv_v, pv_b2, pv_b1, pv_x, pv_lit, pv_ofN, pu_chk, pu_cl, nI_add, pk_mul, nI_leI, nI_ltI, nI_eq, pu_nar0, pu_nar1, pu_narb, bI_0, bI_1, ↓reduceIte, pu_leT, pu_leF, pu_ltT, pu_ltF, pu_eqT, pu_eqF, pu_x1, pu_x2, pu_x3, pu_x4, pu_x5, pu_x6, pu_x7, pu_x8, Nat.zero_add, pu_m31I, pu_m31, pu_shlI, eq_self, Bool.false_eq_true, Bool.true_eq_false, h.n1 n0, e1, hW.u, e2]
        · exact q1.trans (congrArg nI (pu_gs_R hW.K (U_k hF)).symm)
    · refine Both.val (-nI 1) rfl (fun w h => ?_) (fun w h => ?_) w hc hr hb hnf
      · unfold f_X11_stuck f_X11_stuck_16
        simp (disch := omega) only [pv_v, pv_b2, pv_b1, pv_x, pv_lit, pv_ofN, pu_chk, pu_cl, nI_add, pk_mul, nI_leI, nI_ltI, nI_eq, pu_nar0, pu_nar1, pu_narb, bI_0, bI_1, ↓reduceIte, pu_leT, pu_leF, pu_ltT, pu_ltF, pu_eqT, pu_eqF, pu_x1, pu_x2, pu_x3, pu_x4, pu_x5, pu_x6, pu_x7, pu_x8, Nat.zero_add, pu_m31I, pu_m31, pu_shlI, eq_self, Bool.false_eq_true, Bool.true_eq_false, h.n1 n0, s1]
      · unfold f_X12_stuck f_X12_stuck_16
        simp (disch := omega) only [pv_v, pv_b2, pv_b1, pv_x, pv_lit, pv_ofN, pu_chk, pu_cl, nI_add, pk_mul, nI_leI, nI_ltI, nI_eq, pu_nar0, pu_nar1, pu_narb, bI_0, bI_1, ↓reduceIte, pu_leT, pu_leF, pu_ltT, pu_ltF, pu_eqT, pu_eqF, pu_x1, pu_x2, pu_x3, pu_x4, pu_x5, pu_x6, pu_x7, pu_x8, Nat.zero_add, pu_m31I, pu_m31, pu_shlI, eq_self, Bool.false_eq_true, Bool.true_eq_false, h.n1 n0, r_inL s1]
    · refine Both.val (-nI 1) rfl (fun w h => ?_) (fun w h => ?_) w hc hr hb hnf
      · unfold f_X11_stuck f_X11_stuck_16
        simp (disch := omega) only [pv_v, pv_b2, pv_b1, pv_x, pv_lit, pv_ofN, pu_chk, pu_cl, nI_add, pk_mul, nI_leI, nI_ltI, nI_eq, pu_nar0, pu_nar1, pu_narb, bI_0, bI_1, ↓reduceIte, pu_leT, pu_leF, pu_ltT, pu_ltF, pu_eqT, pu_eqF, pu_x1, pu_x2, pu_x3, pu_x4, pu_x5, pu_x6, pu_x7, pu_x8, Nat.zero_add, pu_m31I, pu_m31, pu_shlI, eq_self, Bool.false_eq_true, Bool.true_eq_false, h.n1 n0, s1, s3, s4]
      · unfold f_X12_stuck f_X12_stuck_16
        simp (disch := omega) only [pv_v, pv_b2, pv_b1, pv_x, pv_lit, pv_ofN, pu_chk, pu_cl, nI_add, pk_mul, nI_leI, nI_ltI, nI_eq, pu_nar0, pu_nar1, pu_narb, bI_0, bI_1, ↓reduceIte, pu_leT, pu_leF, pu_ltT, pu_ltF, pu_eqT, pu_eqF, pu_x1, pu_x2, pu_x3, pu_x4, pu_x5, pu_x6, pu_x7, pu_x8, Nat.zero_add, pu_m31I, pu_m31, pu_shlI, eq_self, Bool.false_eq_true, Bool.true_eq_false, h.n1 n0, r_inH s1 s4]
end ASKS
