/-! pure part: USER as a call (wip/whole/pure/20.l.user.src) -/
section USER
variable {fd : Nat → Nat → Nat} {z z' : Zt} {o o' : Ot} {w w' w'' : am_S} {j : Nat}
/-- what is answered of a USER -/
def uA (fd : Nat → Nat → Nat) (st : Nat → Nat → Nat) (u t : Nat) (v : Int32) : Prop := if t = 0 then v = nI (fd 1 u) else if t = 1 then v = nI (fd 2 u) else if t = 2 then v = nI (fd 3 u) else if t = 3 then v = nI (cL (st 1 u)) else if t = 4 then v = nI (st 0 u) else isH (pu_k fd (st 2 0)) (pu_o fd st) (fun _ => true) ((fd 0 1) * (fd 0 2)) (pu_u fd st) u v
theorem uA.uq {st : Nat → Nat → Nat} {u t : Nat} {a b : Int32} (h : uA fd st u t a) (h2 : uA fd st u t b) : a = b := by
  unfold uA at h h2
  by_cases c0 : t = 0
  · rw [if_pos c0] at h h2; rw [h, h2]
  · rw [if_neg c0] at h h2
    by_cases c1 : t = 1
    · rw [if_pos c1] at h h2; rw [h, h2]
    · rw [if_neg c1] at h h2
      by_cases c2 : t = 2
      · rw [if_pos c2] at h h2; rw [h, h2]
      · rw [if_neg c2] at h h2
        by_cases c3 : t = 3
        · rw [if_pos c3] at h h2; rw [h, h2]
        · rw [if_neg c3] at h h2
          by_cases c4 : t = 4
          · rw [if_pos c4] at h h2; rw [h, h2]
          · rw [if_neg c4] at h h2; exact h.uq h2
theorem c_user (h : CI fd z o w) {u t : Nat} (hu : u < (fd 0 0)) (ht : t ≤ 5) : Wp (f_X11_user (nI u) (nI t) w) (fun q => uA fd z.1 u t q.1 ∧ eqx [250, 253, 254] w q.2 ∧ cT fd q.2) := by
  have h10 := h.wF.1
  have n0 : 0 < (fd 0 0) := by omega
  obtain ⟨g1, g2, g3⟩ := h.F.2.2.2.2.2.1 u hu
  have g4 : w.2.1 25 u = lN (z.1 1 u) := h.S.2.1 u (by omega)
  have g5 : w.1 24 u = nI (z.1 0 u) := h.S.1 u (by omega)
  have g6 := c_bitCountL w (wS_lt h.wF h.wS u)
  rcases (show t = 0 ∨ t = 1 ∨ t = 2 ∨ t = 3 ∨ t = 4 ∨ t = 5 by omega) with e | e | e | e | e | e <;> subst e
  · refine ⟨(nI (fd 1 u), w), ?_, rfl, eqx.rf, h.T⟩
    unfold f_X11_user
    simp (disch := omega) only [pv_v, pv_b2, pv_b1, pv_x, pv_lit, pv_ofN, pu_chk, pu_cl, nI_add, pk_mul, nI_leI, nI_ltI, nI_eq, pu_nar0, pu_nar1, pu_narb, bI_0, bI_1, ↓reduceIte, pu_leT, pu_leF, pu_ltT, pu_ltF, pu_eqT, pu_eqF, pu_x1, pu_x2, pu_x3, pu_x4, pu_x5, pu_x6, pu_x7, pu_x8, Nat.zero_add, pu_m31I, pu_m31, pu_shlI, eq_self, Bool.false_eq_true, Bool.true_eq_false, h.u1 hu, g1]
  · refine ⟨(nI (fd 2 u), w), ?_, rfl, eqx.rf, h.T⟩
    unfold f_X11_user
    simp (disch := omega) only [pv_v, pv_b2, pv_b1, pv_x, pv_lit, pv_ofN, pu_chk, pu_cl, nI_add, pk_mul, nI_leI, nI_ltI, nI_eq, pu_nar0, pu_nar1, pu_narb, bI_0, bI_1, ↓reduceIte, pu_leT, pu_leF, pu_ltT, pu_ltF, pu_eqT, pu_eqF, pu_x1, pu_x2, pu_x3, pu_x4, pu_x5, pu_x6, pu_x7, pu_x8, Nat.zero_add, pu_m31I, pu_m31, pu_shlI, eq_self, Bool.false_eq_true, Bool.true_eq_false, h.u1 hu, g2]
  · refine ⟨(nI (fd 3 u), w), ?_, rfl, eqx.rf, h.T⟩
    unfold f_X11_user
    simp (disch := omega) only [pv_v, pv_b2, pv_b1, pv_x, pv_lit, pv_ofN, pu_chk, pu_cl, nI_add, pk_mul, nI_leI, nI_ltI, nI_eq, pu_nar0, pu_nar1, pu_narb, bI_0, bI_1, ↓reduceIte, pu_leT, pu_leF, pu_ltT, pu_ltF, pu_eqT, pu_eqF, pu_x1, pu_x2, pu_x3, pu_x4, pu_x5, pu_x6, pu_x7, pu_x8, Nat.zero_add, pu_m31I, pu_m31, pu_shlI, eq_self, Bool.false_eq_true, Bool.true_eq_false, h.u1 hu, g3]
  · refine ⟨(nI (cL (z.1 1 u)), w), ?_, rfl, eqx.rf, h.T⟩
    unfold f_X11_user
    simp (disch := omega) only [pv_v, pv_b2, pv_b1, pv_x, pv_lit, pv_ofN, pu_chk, pu_cl, nI_add, pk_mul, nI_leI, nI_ltI, nI_eq, pu_nar0, pu_nar1, pu_narb, bI_0, bI_1, ↓reduceIte, pu_leT, pu_leF, pu_ltT, pu_ltF, pu_eqT, pu_eqF, pu_x1, pu_x2, pu_x3, pu_x4, pu_x5, pu_x6, pu_x7, pu_x8, Nat.zero_add, pu_m31I, pu_m31, pu_shlI, eq_self, Bool.false_eq_true, Bool.true_eq_false, h.u1 hu, g4, g6]
  · refine ⟨(nI (z.1 0 u), w), ?_, rfl, eqx.rf, h.T⟩
    unfold f_X11_user
    simp (disch := omega) only [pv_v, pv_b2, pv_b1, pv_x, pv_lit, pv_ofN, pu_chk, pu_cl, nI_add, pk_mul, nI_leI, nI_ltI, nI_eq, pu_nar0, pu_nar1, pu_narb, bI_0, bI_1, ↓reduceIte, pu_leT, pu_leF, pu_ltT, pu_ltF, pu_eqT, pu_eqF, pu_x1, pu_x2, pu_x3, pu_x4, pu_x5, pu_x6, pu_x7, pu_x8, Nat.zero_add, pu_m31I, pu_m31, pu_shlI, eq_self, Bool.false_eq_true, Bool.true_eq_false, h.u1 hu, g5]
  · obtain ⟨w1, e1, hW⟩ := h.look n0
    obtain ⟨⟨v, w2⟩, e2, q1, q3⟩ := c_haste hW U_lt (u := u) (by omega)
    refine ⟨(v, w2), ?_, q1, q3.e⟩
    unfold f_X11_user
    simp (disch := omega) only [pv_v, pv_b2, pv_b1, pv_x, pv_lit, pv_ofN, pu_chk, pu_cl, nI_add, pk_mul, nI_leI, nI_ltI, nI_eq, pu_nar0, pu_nar1, pu_narb, bI_0, bI_1, ↓reduceIte, pu_leT, pu_leF, pu_ltT, pu_ltF, pu_eqT, pu_eqF, pu_x1, pu_x2, pu_x3, pu_x4, pu_x5, pu_x6, pu_x7, pu_x8, Nat.zero_add, pu_m31I, pu_m31, pu_shlI, eq_self, Bool.false_eq_true, Bool.true_eq_false, h.u1 hu, e1, e2]
theorem RI.th (h : RI fd z o w) (v : Int32) : RI fd z o (am_pi w 271 0 v) := ⟨h.1.fr (pi_k (by omega)) (pi_k (by omega)) (fun q hq => pi_p (by omega)) rfl rfl, h.2.fr (fun k hk => pi_k (by omega)) (fun q hq => pi_p (by omega))⟩
theorem r_user (h : RI fd z o w) {u t : Nat} (hu : u < (fd 0 0)) (ht : t ≤ 5) : Wp (f_X12_user (nI u) (nI t) w) (fun q => uA fd z.1 u t q.1 ∧ eqx [284, 286, 287, 288] (am_pi w 271 0 (nI 0)) q.2) := by
  have h10 := h.wF.1
  have h0 := h.th (nI 0)
  have hth : (am_pi w 271 0 (nI 0)).1 271 0 = nI 0 := pi_same
  obtain ⟨g1, g2, g3⟩ := h0.F.2.2.2.2.1 u hu
  have g4 := r_copyMany h0.Q (u := u) (by omega)
  have g5 : (am_pi w 271 0 (nI 0)).1 281 u = nI (z.1 0 u) := h0.Q.2.2.2.1.1 u (by omega)
  rcases (show t = 0 ∨ t = 1 ∨ t = 2 ∨ t = 3 ∨ t = 4 ∨ t = 5 by omega) with e | e | e | e | e | e <;> subst e
  · refine ⟨(nI (fd 1 u), am_pi w 271 0 (nI 0)), ?_, rfl, eqx.rf⟩
    unfold f_X12_user f_X12_user_23
    simp (disch := omega) only [pv_v, pv_b2, pv_b1, pv_x, pv_lit, pv_ofN, pu_chk, pu_cl, nI_add, pk_mul, nI_leI, nI_ltI, nI_eq, pu_nar0, pu_nar1, pu_narb, bI_0, bI_1, ↓reduceIte, pu_leT, pu_leF, pu_ltT, pu_ltF, pu_eqT, pu_eqF, pu_x1, pu_x2, pu_x3, pu_x4, pu_x5, pu_x6, pu_x7, pu_x8, Nat.zero_add, pu_m31I, pu_m31, pu_shlI, eq_self, Bool.false_eq_true, Bool.true_eq_false, h.u1 hu, r_inY, hth, Nat.add_zero, g1]
  · refine ⟨(nI (fd 2 u), am_pi w 271 0 (nI 0)), ?_, rfl, eqx.rf⟩
    unfold f_X12_user f_X12_user_23
    simp (disch := omega) only [pv_v, pv_b2, pv_b1, pv_x, pv_lit, pv_ofN, pu_chk, pu_cl, nI_add, pk_mul, nI_leI, nI_ltI, nI_eq, pu_nar0, pu_nar1, pu_narb, bI_0, bI_1, ↓reduceIte, pu_leT, pu_leF, pu_ltT, pu_ltF, pu_eqT, pu_eqF, pu_x1, pu_x2, pu_x3, pu_x4, pu_x5, pu_x6, pu_x7, pu_x8, Nat.zero_add, pu_m31I, pu_m31, pu_shlI, eq_self, Bool.false_eq_true, Bool.true_eq_false, h.u1 hu, r_inY, hth, g2]
  · refine ⟨(nI (fd 3 u), am_pi w 271 0 (nI 0)), ?_, rfl, eqx.rf⟩
    unfold f_X12_user f_X12_user_23
    simp (disch := omega) only [pv_v, pv_b2, pv_b1, pv_x, pv_lit, pv_ofN, pu_chk, pu_cl, nI_add, pk_mul, nI_leI, nI_ltI, nI_eq, pu_nar0, pu_nar1, pu_narb, bI_0, bI_1, ↓reduceIte, pu_leT, pu_leF, pu_ltT, pu_ltF, pu_eqT, pu_eqF, pu_x1, pu_x2, pu_x3, pu_x4, pu_x5, pu_x6, pu_x7, pu_x8, Nat.zero_add, pu_m31I, pu_m31, pu_shlI, eq_self, Bool.false_eq_true, Bool.true_eq_false, h.u1 hu, r_inY, hth, g3]
  · refine ⟨(nI (cL (z.1 1 u)), am_pi w 271 0 (nI 0)), ?_, rfl, eqx.rf⟩
    unfold f_X12_user f_X12_user_23
    simp (disch := omega) only [pv_v, pv_b2, pv_b1, pv_x, pv_lit, pv_ofN, pu_chk, pu_cl, nI_add, pk_mul, nI_leI, nI_ltI, nI_eq, pu_nar0, pu_nar1, pu_narb, bI_0, bI_1, ↓reduceIte, pu_leT, pu_leF, pu_ltT, pu_ltF, pu_eqT, pu_eqF, pu_x1, pu_x2, pu_x3, pu_x4, pu_x5, pu_x6, pu_x7, pu_x8, Nat.zero_add, pu_m31I, pu_m31, pu_shlI, eq_self, Bool.false_eq_true, Bool.true_eq_false, h.u1 hu, r_inY, hth, g4]
  · refine ⟨(nI (z.1 0 u), am_pi w 271 0 (nI 0)), ?_, rfl, eqx.rf⟩
    unfold f_X12_user f_X12_user_23
    simp (disch := omega) only [pv_v, pv_b2, pv_b1, pv_x, pv_lit, pv_ofN, pu_chk, pu_cl, nI_add, pk_mul, nI_leI, nI_ltI, nI_eq, pu_nar0, pu_nar1, pu_narb, bI_0, bI_1, ↓reduceIte, pu_leT, pu_leF, pu_ltT, pu_ltF, pu_eqT, pu_eqF, pu_x1, pu_x2, pu_x3, pu_x4, pu_x5, pu_x6, pu_x7, pu_x8, Nat.zero_add, pu_m31I, pu_m31, pu_shlI, eq_self, Bool.false_eq_true, Bool.true_eq_false, h.u1 hu, r_inY, hth, g5]
  · obtain ⟨⟨v, w2⟩, e2, q1, q3⟩ := r_hasteOf h0.Q hu
    refine ⟨(v, w2), ?_, q1, q3.up (by decide)⟩
    unfold f_X12_user f_X12_user_23
    simp (disch := omega) only [pv_v, pv_b2, pv_b1, pv_x, pv_lit, pv_ofN, pu_chk, pu_cl, nI_add, pk_mul, nI_leI, nI_ltI, nI_eq, pu_nar0, pu_nar1, pu_narb, bI_0, bI_1, ↓reduceIte, pu_leT, pu_leF, pu_ltT, pu_ltF, pu_eqT, pu_eqF, pu_x1, pu_x2, pu_x3, pu_x4, pu_x5, pu_x6, pu_x7, pu_x8, Nat.zero_add, pu_m31I, pu_m31, pu_shlI, eq_self, Bool.false_eq_true, Bool.true_eq_false, h.u1 hu, r_inY, hth, e2]
/-- whether there is such a one -/
theorem us_cases (hF : wF fd) (a b : Int32) : (∃ u t, u < (fd 0 0) ∧ t ≤ 5 ∧ a = nI u ∧ b = nI t) ∨ ((∀ w, CI fd z o w → fx_user a b w = some w) ∧ (∀ w, RI fd z o w → f_X12_user a b w = some (nI 0, am_pi w 271 0 (nI 1)))) := by
  have h10 := hF.1
  have hth : ∀ w : am_S, (am_pi w 271 0 (nI 1)).1 271 0 = nI 1 := fun w => pi_same
  cases e : ix (fd 0 0) a with
  | none =>
    right
    refine ⟨fun w h => ?_, fun w h => ?_⟩
    · unfold fx_user
      simp (disch := omega) only [pv_v, pv_b2, pv_b1, pv_x, pv_lit, pv_ofN, pu_chk, pu_cl, nI_add, pk_mul, nI_leI, nI_ltI, nI_eq, pu_nar0, pu_nar1, pu_narb, bI_0, bI_1, ↓reduceIte, pu_leT, pu_leF, pu_ltT, pu_ltF, pu_eqT, pu_eqF, pu_x1, pu_x2, pu_x3, pu_x4, pu_x5, pu_x6, pu_x7, pu_x8, Nat.zero_add, pu_m31I, pu_m31, pu_shlI, eq_self, Bool.false_eq_true, Bool.true_eq_false, h.u0 e]
    · unfold f_X12_user f_X12_user_22 f_X12_user_23
      simp (disch := omega) only [pv_v, pv_b2, pv_b1, pv_x, pv_lit, pv_ofN, pu_chk, pu_cl, nI_add, pk_mul, nI_leI, nI_ltI, nI_eq, pu_nar0, pu_nar1, pu_narb, bI_0, bI_1, ↓reduceIte, pu_leT, pu_leF, pu_ltT, pu_ltF, pu_eqT, pu_eqF, pu_x1, pu_x2, pu_x3, pu_x4, pu_x5, pu_x6, pu_x7, pu_x8, Nat.zero_add, pu_m31I, pu_m31, pu_shlI, eq_self, Bool.false_eq_true, Bool.true_eq_false, h.u0 e, hth]
  | some u =>
    obtain ⟨t1, t2, t3⟩ := ix_s e
    subst t2
    rcases rng b 0 5 (by omega) (by omega) with ⟨s, s1, s2, s3⟩ | ⟨s1, s2, s3⟩ | ⟨s1, s2, s3, s4, s5, s6, s7⟩
    · exact .inl ⟨u, s, t1, s2, rfl, s3⟩
    · right
      refine ⟨fun w h => ?_, fun w h => ?_⟩
      · unfold fx_user
        simp (disch := omega) only [pv_v, pv_b2, pv_b1, pv_x, pv_lit, pv_ofN, pu_chk, pu_cl, nI_add, pk_mul, nI_leI, nI_ltI, nI_eq, pu_nar0, pu_nar1, pu_narb, bI_0, bI_1, ↓reduceIte, pu_leT, pu_leF, pu_ltT, pu_ltF, pu_eqT, pu_eqF, pu_x1, pu_x2, pu_x3, pu_x4, pu_x5, pu_x6, pu_x7, pu_x8, Nat.zero_add, pu_m31I, pu_m31, pu_shlI, eq_self, Bool.false_eq_true, Bool.true_eq_false, h.u1 t1, s1]
      · unfold f_X12_user f_X12_user_22 f_X12_user_23
        simp (disch := omega) only [pv_v, pv_b2, pv_b1, pv_x, pv_lit, pv_ofN, pu_chk, pu_cl, nI_add, pk_mul, nI_leI, nI_ltI, nI_eq, pu_nar0, pu_nar1, pu_narb, bI_0, bI_1, ↓reduceIte, pu_leT, pu_leF, pu_ltT, pu_ltF, pu_eqT, pu_eqF, pu_x1, pu_x2, pu_x3, pu_x4, pu_x5, pu_x6, pu_x7, pu_x8, Nat.zero_add, pu_m31I, pu_m31, pu_shlI, eq_self, Bool.false_eq_true, Bool.true_eq_false, h.u1 t1, r_inL s1, hth]
    · right
      refine ⟨fun w h => ?_, fun w h => ?_⟩
      · unfold fx_user
        simp (disch := omega) only [pv_v, pv_b2, pv_b1, pv_x, pv_lit, pv_ofN, pu_chk, pu_cl, nI_add, pk_mul, nI_leI, nI_ltI, nI_eq, pu_nar0, pu_nar1, pu_narb, bI_0, bI_1, ↓reduceIte, pu_leT, pu_leF, pu_ltT, pu_ltF, pu_eqT, pu_eqF, pu_x1, pu_x2, pu_x3, pu_x4, pu_x5, pu_x6, pu_x7, pu_x8, Nat.zero_add, pu_m31I, pu_m31, pu_shlI, eq_self, Bool.false_eq_true, Bool.true_eq_false, h.u1 t1, s1, s3]
      · unfold f_X12_user f_X12_user_22 f_X12_user_23
        simp (disch := omega) only [pv_v, pv_b2, pv_b1, pv_x, pv_lit, pv_ofN, pu_chk, pu_cl, nI_add, pk_mul, nI_leI, nI_ltI, nI_eq, pu_nar0, pu_nar1, pu_narb, bI_0, bI_1, ↓reduceIte, pu_leT, pu_leF, pu_ltT, pu_ltF, pu_eqT, pu_eqF, pu_x1, pu_x2, pu_x3, pu_x4, pu_x5, pu_x6, pu_x7, pu_x8, Nat.zero_add, pu_m31I, pu_m31, pu_shlI, eq_self, Bool.false_eq_true, Bool.true_eq_false, h.u1 t1, r_inH s1 s4, hth]
theorem both_user (a b : Int32) (hc : CI fd z o w) (hr : RI fd z o w) (hb : bn j z o) (hnf : nf fd z o) : ∃ ww, (am_b2 (f_L_user a b w) fun ru wu => am_b2 (f_X12_user a b wu) fun r_5 w_3 => am_b2 (f_X12_thrown w_3) fun r_8 w_6 => if r_8 = ru then (if ru = 0 then (am_chk (0 : Int32) 1 (if (lg_cmp (w_6.2.1 290 (0 : Int32).toNatClampNeg) (r_5.toInt64)) = 0 then (some w_6) else none)) else (some w_6)) else none) = some ww ∧ Inv (j + 1) ww := by
  have hF := hc.wF
  have h10 := hF.1
  rcases us_cases (z := z) (o := o) hF a b with ⟨u, t, hu, ht, rfl, rfl⟩ | ⟨g1, g2⟩
  · have hfx : fx_user (nI u) (nI t) w = none := by
      unfold fx_user
      simp (disch := omega) only [pv_v, pv_b2, pv_b1, pv_x, pv_lit, pv_ofN, pu_chk, pu_cl, nI_add, pk_mul, nI_leI, nI_ltI, nI_eq, pu_nar0, pu_nar1, pu_narb, bI_0, bI_1, ↓reduceIte, pu_leT, pu_leF, pu_ltT, pu_ltF, pu_eqT, pu_eqF, pu_x1, pu_x2, pu_x3, pu_x4, pu_x5, pu_x6, pu_x7, pu_x8, Nat.zero_add, pu_m31I, pu_m31, pu_shlI, eq_self, Bool.false_eq_true, Bool.true_eq_false, hc.u1 hu]
    obtain ⟨⟨v, w1⟩, e1, q1, q2, q3⟩ := c_user hc hu ht
    have q2 : eqx [250, 253, 254] w w1 := q2
    obtain ⟨hI, hf⟩ := hc.ask q2 q3
    generalize hw2 : am_pl w1 290 0 v.toInt64 = w2
    have k1 : w2.1 = w1.1 := by rw [← hw2]; rfl
    have k2 : w2.2.2 = w1.2.2 := by rw [← hw2]; rfl
    have k3 : ∀ q, q ≠ 290 → w2.2.1 q = w1.2.1 q := fun q hq => by rw [← hw2]; exact pl_p hq
    have k4 : w2.2.1 290 0 = v.toInt64 := by rw [← hw2]; exact pl_same
    have hI2 : CI fd z o w2 := hI.R (fun q hq => ⟨by rw [k1], k3 q (by omega), by rw [k2]⟩)
    have hr1 : RI fd z o w1 := hr.C hf
    have hr2 : RI fd z o w2 := ⟨hr1.1.fr (by rw [k1]) (by rw [k1]) (fun q hq => by rw [k1]) (by rw [k3 271 (by omega)]) (by rw [k2]), hr1.2.fr (fun k hk => by rw [k1]) (fun q hq => by rw [k1])⟩
    obtain ⟨⟨v', w3⟩, e3, p1, p2⟩ := r_user hr2 hu ht
    have p2 : eqx [284, 286, 287, 288] (am_pi w2 271 0 (nI 0)) w3 := p2
    have hv : v = v' := q1.uq p1
    subst hv
    obtain ⟨hr3, hf3⟩ := (hr2.th (nI 0)).ask p2
    have t3 : w3.1 271 0 = nI 0 := by rw [p2.i (by decide), pi_same]
    have l3 : w3.2.1 290 0 = v.toInt64 := by rw [p2.l, pi_l]; exact k4
    have hfu : f_L_user (nI u) (nI t) w = some (0, w2) := by
      unfold f_L_user
      rw [hfx]
      show am_b2 (f_X11_user (nI u) (nI t) w) _ = _
      rw [e1, pv_b2, hw2]
    refine ⟨w3, ?_, fd, z, o, ?_, hr3, hb.up, hnf⟩
    · rw [hfu, pv_b2, e3, pv_b2]
      unfold f_X12_thrown
      rw [pv_b2, t3, if_pos (show nI 0 = 0 from rfl), if_pos rfl]
      show am_chk (nI 0) 1 (if lg_cmp (w3.2.1 290 (nI 0).toNatClampNeg) v.toInt64 = 0 then some w3 else none) = some w3
      rw [pu_chk _ (by omega) (by omega), pu_cl (by omega), l3, lc_r, if_pos rfl]
    · refine hI2.R (fR.on (fun q hq => ?_) hf3)
      exact ⟨pi_p (by omega), rfl, rfl⟩
  · have hfu : f_L_user a b w = some (1, w) := by
      unfold f_L_user
      rw [g1 w hc]
    refine ⟨am_pi w 271 0 (nI 1), ?_, fd, z, o, hc.R (fun q hq => ⟨pi_p (by omega), rfl, rfl⟩), hr.th _, hb.up, hnf⟩
    rw [hfu, pv_b2, g2 w hr, pv_b2]
    unfold f_X12_thrown
    rw [pv_b2, pi_same, if_pos (show nI 1 = 1 from rfl), if_neg (by decide)]
end USER
