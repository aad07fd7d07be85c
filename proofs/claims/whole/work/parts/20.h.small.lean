/-! pure part: SHELF, COPIES, SENDERS, LOAD, SAMPLE, TOUCH (wip/whole/pure/20.h.small.src) -/
section SMALL2
variable {fd : Nat → Nat → Nat} {z z' : Zt} {o o' : Ot} {w w' w'' : am_S} {j : Nat}
theorem CI.noU (h : CI fd z o w) (a : Int32) : f_X11_noUser a w = some (bI (ix (fd 0 0) a).isNone, w) := c_noUserI h.F.1 h.wF.1 a
theorem RI.isU (h : RI fd z o w) (a : Int32) : f_X12_isUser a w = some (bI (ix (fd 0 0) a).isSome, w) := r_isUserI h.wF h.F a
theorem CI.u0 (h : CI fd z o w) {a : Int32} (e : ix (fd 0 0) a = none) : f_X11_noUser a w = some (nI 1, w) := by rw [h.noU, e]; rfl
theorem CI.u1 (h : CI fd z o w) {u : Nat} (hu : u < (fd 0 0)) : f_X11_noUser (nI u) w = some (nI 0, w) := by
  have := h.wF.1
  rw [h.noU, ix_nI hu (by omega)]; rfl
theorem RI.u0 (h : RI fd z o w) {a : Int32} (e : ix (fd 0 0) a = none) : f_X12_isUser a w = some (nI 0, w) := by rw [h.isU, e]; rfl
theorem RI.u1 (h : RI fd z o w) {u : Nat} (hu : u < (fd 0 0)) : f_X12_isUser (nI u) w = some (nI 1, w) := by
  have := h.wF.1
  rw [h.isU, ix_nI hu (by omega)]; rfl
theorem both_shelf (a b : Int32) : Both j fd z o (fun a b => a = b) (f_X11_shelf a b) (f_X12_shelf a b) := by
  intro w hc hr hb hnf
  rcases rng a 0 2 (by omega) (by omega) with ⟨s, s1, s2, s3⟩ | ⟨s1, s2, s3⟩ | ⟨s1, s2, s3, s4, s5, s6, s7⟩
  · subst s3
    have hf : z.1 3 s ≤ 10 := hc.wS.2.2.2.2 s
    cases e : ix (z.1 3 s) b with
    | none =>
      refine Both.val (-nI 1) rfl (fun w h => ?_) (fun w h => ?_) w hc hr hb hnf
      · have h1 := h.S.2.2.2.1 s (by omega)
        have h1 : w.1 27 s = nI (z.1 3 s) := h1
        unfold f_X11_shelf f_X11_shelf_26
        rcases ix_lt e (by omega) with g | ⟨g1, g2, g3⟩
        · simp (disch := omega) only [pv_v, pv_b2, pv_b1, pv_x, pv_lit, pv_ofN, pu_chk, pu_cl, nI_add, pk_mul, nI_leI, nI_ltI, nI_eq, pu_nar0, pu_nar1, pu_narb, bI_0, bI_1, ↓reduceIte, pu_leT, pu_leF, pu_ltT, pu_ltF, pu_eqT, pu_eqF, pu_x1, pu_x2, pu_x3, pu_x4, pu_x5, pu_x6, pu_x7, pu_x8, Nat.zero_add, pu_m31I, pu_m31, pu_shlI, eq_self, Bool.false_eq_true, Bool.true_eq_false, g]
        · simp (disch := omega) only [pv_v, pv_b2, pv_b1, pv_x, pv_lit, pv_ofN, pu_chk, pu_cl, nI_add, pk_mul, nI_leI, nI_ltI, nI_eq, pu_nar0, pu_nar1, pu_narb, bI_0, bI_1, ↓reduceIte, pu_leT, pu_leF, pu_ltT, pu_ltF, pu_eqT, pu_eqF, pu_x1, pu_x2, pu_x3, pu_x4, pu_x5, pu_x6, pu_x7, pu_x8, Nat.zero_add, pu_m31I, pu_m31, pu_shlI, eq_self, Bool.false_eq_true, Bool.true_eq_false, g1, h1, g2]
      · have h1 := h.Q.2.2.2.1.2.2.2.2.1 s (by omega)
        have := in_ix (w := w) b (n := z.1 3 s) (by omega)
        rw [e] at this
        unfold f_X12_shelf f_X12_shelf_53 f_X12_shelf_54 f_X12_shelfAt
        rcases Nat.eq_zero_or_pos (fd 0 0) with n0 | n0
        · simp (disch := omega) only [pv_v, pv_b2, pv_b1, pv_x, pv_lit, pv_ofN, pu_chk, pu_cl, nI_add, pk_mul, nI_leI, nI_ltI, nI_eq, pu_nar0, pu_nar1, pu_narb, bI_0, bI_1, ↓reduceIte, pu_leT, pu_leF, pu_ltT, pu_ltF, pu_eqT, pu_eqF, pu_x1, pu_x2, pu_x3, pu_x4, pu_x5, pu_x6, pu_x7, pu_x8, Nat.zero_add, pu_m31I, pu_m31, pu_shlI, eq_self, Bool.false_eq_true, Bool.true_eq_false, h.n0 n0]
        · simp (disch := omega) only [pv_v, pv_b2, pv_b1, pv_x, pv_lit, pv_ofN, pu_chk, pu_cl, nI_add, pk_mul, nI_leI, nI_ltI, nI_eq, pu_nar0, pu_nar1, pu_narb, bI_0, bI_1, ↓reduceIte, pu_leT, pu_leF, pu_ltT, pu_ltF, pu_eqT, pu_eqF, pu_x1, pu_x2, pu_x3, pu_x4, pu_x5, pu_x6, pu_x7, pu_x8, Nat.zero_add, pu_m31I, pu_m31, pu_shlI, eq_self, Bool.false_eq_true, Bool.true_eq_false, h.n1 n0, r_inY, h1, this, Option.isSome]
    | some i =>
      obtain ⟨i1, i2, i3⟩ := ix_s e
      subst i2
      refine Both.val (nI (z.1 4 (10 * s + i))) rfl (fun w h => ?_) (fun w h => ?_) w hc hr hb hnf
      · have h1 : w.1 27 s = nI (z.1 3 s) := h.S.2.2.2.1 s (by omega)
        have h2 : w.1 26 (10 * s + i) = nI (z.1 4 (10 * s + i)) := h.S.2.2.2.2 s i (by omega) i1
        unfold f_X11_shelf
        simp (disch := omega) only [pv_v, pv_b2, pv_b1, pv_x, pv_lit, pv_ofN, pu_chk, pu_cl, nI_add, pk_mul, nI_leI, nI_ltI, nI_eq, pu_nar0, pu_nar1, pu_narb, bI_0, bI_1, ↓reduceIte, pu_leT, pu_leF, pu_ltT, pu_ltF, pu_eqT, pu_eqF, pu_x1, pu_x2, pu_x3, pu_x4, pu_x5, pu_x6, pu_x7, pu_x8, Nat.zero_add, pu_m31I, pu_m31, pu_shlI, eq_self, Bool.false_eq_true, Bool.true_eq_false, h1, Nat.mul_comm s 10, h2]
      · have h1 := h.Q.2.2.2.1.2.2.2.2.1 s (by omega)
        have h2 := h.Q.2.2.2.1.2.2.2.2.2 s i (by omega) i1
        have := in_ix (w := w) (nI i) (n := z.1 3 s) (by omega)
        rw [e] at this
        unfold f_X12_shelf f_X12_shelf_54 f_X12_shelfAt
        rcases Nat.eq_zero_or_pos (fd 0 0) with n0 | n0
        · have := (hnf n0).1 s
          omega
        · simp (disch := omega) only [pv_v, pv_b2, pv_b1, pv_x, pv_lit, pv_ofN, pu_chk, pu_cl, nI_add, pk_mul, nI_leI, nI_ltI, nI_eq, pu_nar0, pu_nar1, pu_narb, bI_0, bI_1, ↓reduceIte, pu_leT, pu_leF, pu_ltT, pu_ltF, pu_eqT, pu_eqF, pu_x1, pu_x2, pu_x3, pu_x4, pu_x5, pu_x6, pu_x7, pu_x8, Nat.zero_add, pu_m31I, pu_m31, pu_shlI, eq_self, Bool.false_eq_true, Bool.true_eq_false, h.n1 n0, r_inY, h1, this, Option.isSome, show 31 + 11 * s + 1 + i = 32 + 11 * s + i by omega, h2]
  · refine Both.val (-nI 1) rfl (fun w h => ?_) (fun w h => ?_) w hc hr hb hnf
    · unfold f_X11_shelf f_X11_shelf_26
      simp (disch := omega) only [pv_v, pv_b2, pv_b1, pv_x, pv_lit, pv_ofN, pu_chk, pu_cl, nI_add, pk_mul, nI_leI, nI_ltI, nI_eq, pu_nar0, pu_nar1, pu_narb, bI_0, bI_1, ↓reduceIte, pu_leT, pu_leF, pu_ltT, pu_ltF, pu_eqT, pu_eqF, pu_x1, pu_x2, pu_x3, pu_x4, pu_x5, pu_x6, pu_x7, pu_x8, Nat.zero_add, pu_m31I, pu_m31, pu_shlI, eq_self, Bool.false_eq_true, Bool.true_eq_false, s1]
    · unfold f_X12_shelf f_X12_shelf_53 f_X12_shelf_54
      rcases Nat.eq_zero_or_pos (fd 0 0) with n0 | n0
      · simp (disch := omega) only [pv_v, pv_b2, pv_b1, pv_x, pv_lit, pv_ofN, pu_chk, pu_cl, nI_add, pk_mul, nI_leI, nI_ltI, nI_eq, pu_nar0, pu_nar1, pu_narb, bI_0, bI_1, ↓reduceIte, pu_leT, pu_leF, pu_ltT, pu_ltF, pu_eqT, pu_eqF, pu_x1, pu_x2, pu_x3, pu_x4, pu_x5, pu_x6, pu_x7, pu_x8, Nat.zero_add, pu_m31I, pu_m31, pu_shlI, eq_self, Bool.false_eq_true, Bool.true_eq_false, h.n0 n0]
      · simp (disch := omega) only [pv_v, pv_b2, pv_b1, pv_x, pv_lit, pv_ofN, pu_chk, pu_cl, nI_add, pk_mul, nI_leI, nI_ltI, nI_eq, pu_nar0, pu_nar1, pu_narb, bI_0, bI_1, ↓reduceIte, pu_leT, pu_leF, pu_ltT, pu_ltF, pu_eqT, pu_eqF, pu_x1, pu_x2, pu_x3, pu_x4, pu_x5, pu_x6, pu_x7, pu_x8, Nat.zero_add, pu_m31I, pu_m31, pu_shlI, eq_self, Bool.false_eq_true, Bool.true_eq_false, h.n1 n0, r_inL s1]
  · refine Both.val (-nI 1) rfl (fun w h => ?_) (fun w h => ?_) w hc hr hb hnf
    · unfold f_X11_shelf f_X11_shelf_26
      simp (disch := omega) only [pv_v, pv_b2, pv_b1, pv_x, pv_lit, pv_ofN, pu_chk, pu_cl, nI_add, pk_mul, nI_leI, nI_ltI, nI_eq, pu_nar0, pu_nar1, pu_narb, bI_0, bI_1, ↓reduceIte, pu_leT, pu_leF, pu_ltT, pu_ltF, pu_eqT, pu_eqF, pu_x1, pu_x2, pu_x3, pu_x4, pu_x5, pu_x6, pu_x7, pu_x8, Nat.zero_add, pu_m31I, pu_m31, pu_shlI, eq_self, Bool.false_eq_true, Bool.true_eq_false, s1, s6]
    · unfold f_X12_shelf f_X12_shelf_53 f_X12_shelf_54
      rcases Nat.eq_zero_or_pos (fd 0 0) with n0 | n0
      · simp (disch := omega) only [pv_v, pv_b2, pv_b1, pv_x, pv_lit, pv_ofN, pu_chk, pu_cl, nI_add, pk_mul, nI_leI, nI_ltI, nI_eq, pu_nar0, pu_nar1, pu_narb, bI_0, bI_1, ↓reduceIte, pu_leT, pu_leF, pu_ltT, pu_ltF, pu_eqT, pu_eqF, pu_x1, pu_x2, pu_x3, pu_x4, pu_x5, pu_x6, pu_x7, pu_x8, Nat.zero_add, pu_m31I, pu_m31, pu_shlI, eq_self, Bool.false_eq_true, Bool.true_eq_false, h.n0 n0]
      · simp (disch := omega) only [pv_v, pv_b2, pv_b1, pv_x, pv_lit, pv_ofN, pu_chk, pu_cl, nI_add, pk_mul, nI_leI, nI_ltI, nI_eq, pu_nar0, pu_nar1, pu_narb, bI_0, bI_1, ↓reduceIte, pu_leT, pu_leF, pu_ltT, pu_ltF, pu_eqT, pu_eqF, pu_x1, pu_x2, pu_x3, pu_x4, pu_x5, pu_x6, pu_x7, pu_x8, Nat.zero_add, pu_m31I, pu_m31, pu_shlI, eq_self, Bool.false_eq_true, Bool.true_eq_false, h.n1 n0, r_inH s1 s4]
theorem lc_r (x : Int64) : lg_cmp x x = 0 := by
  unfold lg_cmp
  rw [if_neg (fun h => Int64.lt_irrefl h), if_pos rfl]
theorem cop_join {x : Nat} (hx : x < 2 ^ 48) : am_lshl ((nI (x / 2 ^ 24)).toInt64) (nI 24) ||| (nI (x % 2 ^ 24)).toInt64 = lN x := by
  unfold am_lshl
  rw [nI_l (n := x / 2 ^ 24) (by omega), nI_l (n := x % 2 ^ 24) (by omega), wb_shl _ (by omega), wb_or (by omega) (by omega), Nat.mul_comm, ← Nat.two_pow_add_eq_or_of_lt (Nat.mod_lt _ (by decide))]
  congr 1
  exact Nat.div_add_mod x (2 ^ 24)
theorem both_copies (a : Int32) : Both j fd z o (fun a b => lg_cmp a b = 0) (f_X11_copies a) (f_X12_copies a) := by
  intro w hc hr hb hnf
  have h10 := hc.wF.1
  cases e : ix (fd 0 0) a with
  | none =>
    refine Both.val 0 (lc_r _) (fun w h => ?_) (fun w h => ?_) w hc hr hb hnf
    · unfold f_X11_copies f_X11_copies_21
      simp (disch := omega) only [pv_v, pv_b2, pv_b1, pv_x, pv_lit, pv_ofN, pu_chk, pu_cl, nI_add, pk_mul, nI_leI, nI_ltI, nI_eq, pu_nar0, pu_nar1, pu_narb, bI_0, bI_1, ↓reduceIte, pu_leT, pu_leF, pu_ltT, pu_ltF, pu_eqT, pu_eqF, pu_x1, pu_x2, pu_x3, pu_x4, pu_x5, pu_x6, pu_x7, pu_x8, Nat.zero_add, pu_m31I, pu_m31, pu_shlI, eq_self, Bool.false_eq_true, Bool.true_eq_false, h.u0 e]
    · unfold f_X12_copies f_X12_copies_36
      simp (disch := omega) only [pv_v, pv_b2, pv_b1, pv_x, pv_lit, pv_ofN, pu_chk, pu_cl, nI_add, pk_mul, nI_leI, nI_ltI, nI_eq, pu_nar0, pu_nar1, pu_narb, bI_0, bI_1, ↓reduceIte, pu_leT, pu_leF, pu_ltT, pu_ltF, pu_eqT, pu_eqF, pu_x1, pu_x2, pu_x3, pu_x4, pu_x5, pu_x6, pu_x7, pu_x8, Nat.zero_add, pu_m31I, pu_m31, pu_shlI, eq_self, Bool.false_eq_true, Bool.true_eq_false, h.u0 e]
  | some u =>
    obtain ⟨t1, t2, t3⟩ := ix_s e
    subst t2
    have hx := wS_lt hc.wF hc.wS u
    refine Both.val (lN (z.1 1 u)) (lc_r _) (fun w h => ?_) (fun w h => ?_) w hc hr hb hnf
    · have h1 : w.2.1 25 u = lN (z.1 1 u) := h.S.2.1 u (by omega)
      unfold f_X11_copies f_X11_copies_21
      simp (disch := omega) only [pv_v, pv_b2, pv_b1, pv_x, pv_lit, pv_ofN, pu_chk, pu_cl, nI_add, pk_mul, nI_leI, nI_ltI, nI_eq, pu_nar0, pu_nar1, pu_narb, bI_0, bI_1, ↓reduceIte, pu_leT, pu_leF, pu_ltT, pu_ltF, pu_eqT, pu_eqF, pu_x1, pu_x2, pu_x3, pu_x4, pu_x5, pu_x6, pu_x7, pu_x8, Nat.zero_add, pu_m31I, pu_m31, pu_shlI, eq_self, Bool.false_eq_true, Bool.true_eq_false, h.u1 t1, h1]
    · have h1 := h.Q.2.2.2.1.2.1 u (by omega)
      have h2 := h.Q.2.2.2.1.2.2.1 u (by omega)
      unfold f_X12_copies f_X12_copies_36
      simp (disch := omega) only [pv_v, pv_b2, pv_b1, pv_x, pv_lit, pv_ofN, pu_chk, pu_cl, nI_add, pk_mul, nI_leI, nI_ltI, nI_eq, pu_nar0, pu_nar1, pu_narb, bI_0, bI_1, ↓reduceIte, pu_leT, pu_leF, pu_ltT, pu_ltF, pu_eqT, pu_eqF, pu_x1, pu_x2, pu_x3, pu_x4, pu_x5, pu_x6, pu_x7, pu_x8, Nat.zero_add, pu_m31I, pu_m31, pu_shlI, eq_self, Bool.false_eq_true, Bool.true_eq_false, h.u1 t1, h1, h2, cop_join hx]
theorem both_senders (a : Int32) : Both j fd z o (fun a b => a = b) (f_X11_senders a) (f_X12_senders a) := by
  intro w hc hr hb hnf
  rcases Nat.eq_zero_or_pos (fd 0 0) with n0 | n0
  · refine Both.val (-nI 1) rfl (fun w h => ?_) (fun w h => ?_) w hc hr hb hnf
    · unfold f_X11_senders f_X11_senders_17
      simp (disch := omega) only [pv_v, pv_b2, pv_b1, pv_x, pv_lit, pv_ofN, pu_chk, pu_cl, nI_add, pk_mul, nI_leI, nI_ltI, nI_eq, pu_nar0, pu_nar1, pu_narb, bI_0, bI_1, ↓reduceIte, pu_leT, pu_leF, pu_ltT, pu_ltF, pu_eqT, pu_eqF, pu_x1, pu_x2, pu_x3, pu_x4, pu_x5, pu_x6, pu_x7, pu_x8, Nat.zero_add, pu_m31I, pu_m31, pu_shlI, eq_self, Bool.false_eq_true, Bool.true_eq_false, h.n0 n0]
    · unfold f_X12_senders f_X12_senders_17
      simp (disch := omega) only [pv_v, pv_b2, pv_b1, pv_x, pv_lit, pv_ofN, pu_chk, pu_cl, nI_add, pk_mul, nI_leI, nI_ltI, nI_eq, pu_nar0, pu_nar1, pu_narb, bI_0, bI_1, ↓reduceIte, pu_leT, pu_leF, pu_ltT, pu_ltF, pu_eqT, pu_eqF, pu_x1, pu_x2, pu_x3, pu_x4, pu_x5, pu_x6, pu_x7, pu_x8, Nat.zero_add, pu_m31I, pu_m31, pu_shlI, eq_self, Bool.false_eq_true, Bool.true_eq_false, h.n0 n0]
  · rcases rng a 0 24 (by omega) (by omega) with ⟨s, s1, s2, s3⟩ | ⟨s1, s2, s3⟩ | ⟨s1, s2, s3, s4, s5, s6, s7⟩
    · subst s3
      refine Both.val (nI (pu_C (fun u => cL (z.1 1 u) == s) (fd 0 0))) rfl (fun w h => ?_) (fun w h => ?_) w hc hr hb hnf
      · have h1 := c_senders h.wF h.wS h.F.1 h.S.2.1 s2
        unfold f_X11_senders
        simp (disch := omega) only [pv_v, pv_b2, pv_b1, pv_x, pv_lit, pv_ofN, pu_chk, pu_cl, nI_add, pk_mul, nI_leI, nI_ltI, nI_eq, pu_nar0, pu_nar1, pu_narb, bI_0, bI_1, ↓reduceIte, pu_leT, pu_leF, pu_ltT, pu_ltF, pu_eqT, pu_eqF, pu_x1, pu_x2, pu_x3, pu_x4, pu_x5, pu_x6, pu_x7, pu_x8, Nat.zero_add, pu_m31I, pu_m31, pu_shlI, eq_self, Bool.false_eq_true, Bool.true_eq_false, h.n1 n0, h1]
      · have h1 := r_senders h.Q s2
        unfold f_X12_senders
        simp (disch := omega) only [pv_v, pv_b2, pv_b1, pv_x, pv_lit, pv_ofN, pu_chk, pu_cl, nI_add, pk_mul, nI_leI, nI_ltI, nI_eq, pu_nar0, pu_nar1, pu_narb, bI_0, bI_1, ↓reduceIte, pu_leT, pu_leF, pu_ltT, pu_ltF, pu_eqT, pu_eqF, pu_x1, pu_x2, pu_x3, pu_x4, pu_x5, pu_x6, pu_x7, pu_x8, Nat.zero_add, pu_m31I, pu_m31, pu_shlI, eq_self, Bool.false_eq_true, Bool.true_eq_false, h.n1 n0, r_inY, h1]
    · refine Both.val (-nI 1) rfl (fun w h => ?_) (fun w h => ?_) w hc hr hb hnf
      · unfold f_X11_senders f_X11_senders_17
        simp (disch := omega) only [pv_v, pv_b2, pv_b1, pv_x, pv_lit, pv_ofN, pu_chk, pu_cl, nI_add, pk_mul, nI_leI, nI_ltI, nI_eq, pu_nar0, pu_nar1, pu_narb, bI_0, bI_1, ↓reduceIte, pu_leT, pu_leF, pu_ltT, pu_ltF, pu_eqT, pu_eqF, pu_x1, pu_x2, pu_x3, pu_x4, pu_x5, pu_x6, pu_x7, pu_x8, Nat.zero_add, pu_m31I, pu_m31, pu_shlI, eq_self, Bool.false_eq_true, Bool.true_eq_false, h.n1 n0, s1]
      · unfold f_X12_senders f_X12_senders_17
        simp (disch := omega) only [pv_v, pv_b2, pv_b1, pv_x, pv_lit, pv_ofN, pu_chk, pu_cl, nI_add, pk_mul, nI_leI, nI_ltI, nI_eq, pu_nar0, pu_nar1, pu_narb, bI_0, bI_1, ↓reduceIte, pu_leT, pu_leF, pu_ltT, pu_ltF, pu_eqT, pu_eqF, pu_x1, pu_x2, pu_x3, pu_x4, pu_x5, pu_x6, pu_x7, pu_x8, Nat.zero_add, pu_m31I, pu_m31, pu_shlI, eq_self, Bool.false_eq_true, Bool.true_eq_false, h.n1 n0, r_inL s1]
    · refine Both.val (-nI 1) rfl (fun w h => ?_) (fun w h => ?_) w hc hr hb hnf
      · unfold f_X11_senders f_X11_senders_17
        simp (disch := omega) only [pv_v, pv_b2, pv_b1, pv_x, pv_lit, pv_ofN, pu_chk, pu_cl, nI_add, pk_mul, nI_leI, nI_ltI, nI_eq, pu_nar0, pu_nar1, pu_narb, bI_0, bI_1, ↓reduceIte, pu_leT, pu_leF, pu_ltT, pu_ltF, pu_eqT, pu_eqF, pu_x1, pu_x2, pu_x3, pu_x4, pu_x5, pu_x6, pu_x7, pu_x8, Nat.zero_add, pu_m31I, pu_m31, pu_shlI, eq_self, Bool.false_eq_true, Bool.true_eq_false, h.n1 n0, s1, s3]
      · unfold f_X12_senders f_X12_senders_17
        simp (disch := omega) only [pv_v, pv_b2, pv_b1, pv_x, pv_lit, pv_ofN, pu_chk, pu_cl, nI_add, pk_mul, nI_leI, nI_ltI, nI_eq, pu_nar0, pu_nar1, pu_narb, bI_0, bI_1, ↓reduceIte, pu_leT, pu_leF, pu_ltT, pu_ltF, pu_eqT, pu_eqF, pu_x1, pu_x2, pu_x3, pu_x4, pu_x5, pu_x6, pu_x7, pu_x8, Nat.zero_add, pu_m31I, pu_m31, pu_shlI, eq_self, Bool.false_eq_true, Bool.true_eq_false, h.n1 n0, r_inH s1 s4]
theorem both_load (a : Int32) : Both j fd z o (fun a b => a = b) (f_X11_load a) (f_X12_load a) := by
  intro w hc hr hb hnf
  have hF := hc.wF
  have h10 := hF.1
  have hSF := SF_le hF
  rcases Nat.eq_zero_or_pos (fd 0 0) with n0 | n0
  · refine Both.val (-nI 1) rfl (fun w h => ?_) (fun w h => ?_) w hc hr hb hnf
    · have h2 := c_allSlots h.F.2.1 h.F.2.2.1
      unfold f_X11_load f_X11_load_30
      simp (disch := omega) only [pv_v, pv_b2, pv_b1, pv_x, pv_lit, pv_ofN, pu_chk, pu_cl, nI_add, pk_mul, nI_leI, nI_ltI, nI_eq, pu_nar0, pu_nar1, pu_narb, bI_0, bI_1, ↓reduceIte, pu_leT, pu_leF, pu_ltT, pu_ltF, pu_eqT, pu_eqF, pu_x1, pu_x2, pu_x3, pu_x4, pu_x5, pu_x6, pu_x7, pu_x8, Nat.zero_add, pu_m31I, pu_m31, pu_shlI, eq_self, Bool.false_eq_true, Bool.true_eq_false, h.n0 n0, h2]
    · unfold f_X12_load f_X12_load_32 f_X12_load_33
      simp (disch := omega) only [pv_v, pv_b2, pv_b1, pv_x, pv_lit, pv_ofN, pu_chk, pu_cl, nI_add, pk_mul, nI_leI, nI_ltI, nI_eq, pu_nar0, pu_nar1, pu_narb, bI_0, bI_1, ↓reduceIte, pu_leT, pu_leF, pu_ltT, pu_ltF, pu_eqT, pu_eqF, pu_x1, pu_x2, pu_x3, pu_x4, pu_x5, pu_x6, pu_x7, pu_x8, Nat.zero_add, pu_m31I, pu_m31, pu_shlI, eq_self, Bool.false_eq_true, Bool.true_eq_false, h.n0 n0]
  · have hp : 0 < (fd 0 1) * (fd 0 2) := Nat.mul_pos (by have := (hF.2.2.2.1 n0).1; omega) (by have := (hF.2.2.2.1 n0).2; omega)
    rcases rng a 0 999 (by omega) (by omega) with ⟨s, s1, s2, s3⟩ | ⟨s1, s2, s3⟩ | ⟨s1, s2, s3, s4, s5, s6, s7⟩
    · subst s3
      refine Both.val (nI (s * (fd 0 0)) / nI ((fd 0 1) * (fd 0 2))) rfl (fun w h => ?_) (fun w h => ?_) w hc hr hb hnf
      · have h1 := h.F.1
        have h2 := c_allSlots h.F.2.1 h.F.2.2.1
        unfold f_X11_load
        simp (disch := omega) only [pv_v, pv_b2, pv_b1, pv_x, pv_lit, pv_ofN, pu_chk, pu_cl, nI_add, pk_mul, nI_leI, nI_ltI, nI_eq, pu_nar0, pu_nar1, pu_narb, bI_0, bI_1, ↓reduceIte, pu_leT, pu_leF, pu_ltT, pu_ltF, pu_eqT, pu_eqF, pu_x1, pu_x2, pu_x3, pu_x4, pu_x5, pu_x6, pu_x7, pu_x8, Nat.zero_add, pu_m31I, pu_m31, pu_shlI, eq_self, Bool.false_eq_true, Bool.true_eq_false, h.n1 n0, h1, h2, pu_nz]
      · have h1 := h.F.1
        have h2 := r_slotMany h.wF h.F
        unfold f_X12_load f_X12_load_33
        simp (disch := omega) only [pv_v, pv_b2, pv_b1, pv_x, pv_lit, pv_ofN, pu_chk, pu_cl, nI_add, pk_mul, nI_leI, nI_ltI, nI_eq, pu_nar0, pu_nar1, pu_narb, bI_0, bI_1, ↓reduceIte, pu_leT, pu_leF, pu_ltT, pu_ltF, pu_eqT, pu_eqF, pu_x1, pu_x2, pu_x3, pu_x4, pu_x5, pu_x6, pu_x7, pu_x8, Nat.zero_add, pu_m31I, pu_m31, pu_shlI, eq_self, Bool.false_eq_true, Bool.true_eq_false, h.n1 n0, r_inY, h1, h2, pu_nz]
    · refine Both.val (-nI 1) rfl (fun w h => ?_) (fun w h => ?_) w hc hr hb hnf
      · have h2 := c_allSlots h.F.2.1 h.F.2.2.1
        unfold f_X11_load f_X11_load_30
        simp (disch := omega) only [pv_v, pv_b2, pv_b1, pv_x, pv_lit, pv_ofN, pu_chk, pu_cl, nI_add, pk_mul, nI_leI, nI_ltI, nI_eq, pu_nar0, pu_nar1, pu_narb, bI_0, bI_1, ↓reduceIte, pu_leT, pu_leF, pu_ltT, pu_ltF, pu_eqT, pu_eqF, pu_x1, pu_x2, pu_x3, pu_x4, pu_x5, pu_x6, pu_x7, pu_x8, Nat.zero_add, pu_m31I, pu_m31, pu_shlI, eq_self, Bool.false_eq_true, Bool.true_eq_false, h.n1 n0, h2, s1]
      · unfold f_X12_load f_X12_load_32 f_X12_load_33
        simp (disch := omega) only [pv_v, pv_b2, pv_b1, pv_x, pv_lit, pv_ofN, pu_chk, pu_cl, nI_add, pk_mul, nI_leI, nI_ltI, nI_eq, pu_nar0, pu_nar1, pu_narb, bI_0, bI_1, ↓reduceIte, pu_leT, pu_leF, pu_ltT, pu_ltF, pu_eqT, pu_eqF, pu_x1, pu_x2, pu_x3, pu_x4, pu_x5, pu_x6, pu_x7, pu_x8, Nat.zero_add, pu_m31I, pu_m31, pu_shlI, eq_self, Bool.false_eq_true, Bool.true_eq_false, h.n1 n0, r_inL s1]
    · refine Both.val (-nI 1) rfl (fun w h => ?_) (fun w h => ?_) w hc hr hb hnf
      · have h2 := c_allSlots h.F.2.1 h.F.2.2.1
        unfold f_X11_load f_X11_load_30
        simp (disch := omega) only [pv_v, pv_b2, pv_b1, pv_x, pv_lit, pv_ofN, pu_chk, pu_cl, nI_add, pk_mul, nI_leI, nI_ltI, nI_eq, pu_nar0, pu_nar1, pu_narb, bI_0, bI_1, ↓reduceIte, pu_leT, pu_leF, pu_ltT, pu_ltF, pu_eqT, pu_eqF, pu_x1, pu_x2, pu_x3, pu_x4, pu_x5, pu_x6, pu_x7, pu_x8, Nat.zero_add, pu_m31I, pu_m31, pu_shlI, eq_self, Bool.false_eq_true, Bool.true_eq_false, h.n1 n0, h2, s1, s3]
      · unfold f_X12_load f_X12_load_32 f_X12_load_33
        simp (disch := omega) only [pv_v, pv_b2, pv_b1, pv_x, pv_lit, pv_ofN, pu_chk, pu_cl, nI_add, pk_mul, nI_leI, nI_ltI, nI_eq, pu_nar0, pu_nar1, pu_narb, bI_0, bI_1, ↓reduceIte, pu_leT, pu_leF, pu_ltT, pu_ltF, pu_eqT, pu_eqF, pu_x1, pu_x2, pu_x3, pu_x4, pu_x5, pu_x6, pu_x7, pu_x8, Nat.zero_add, pu_m31I, pu_m31, pu_shlI, eq_self, Bool.false_eq_true, Bool.true_eq_false, h.n1 n0, r_inH s1 s4]
theorem CI.pl (h : CI fd z o w) {y : Int64} {k : Nat} : CI fd z o (am_pl w 249 k y) ∧ fC w (am_pl w 249 k y) := ⟨⟨h.1.pl, h.2.fr (fun _ _ => rfl) (pl_p (by omega))⟩, fun q hq => ⟨rfl, pl_p (by omega), rfl⟩⟩
theorem RI.pl (h : RI fd z o w) {y : Int64} : RI fd z o (am_pl w 271 24 y) ∧ fR w (am_pl w 271 24 y) := ⟨⟨h.1.pl, h.2.fr (fun _ _ => rfl) (fun _ _ => rfl)⟩, fun q hq => ⟨rfl, pl_p (by omega), rfl⟩⟩
theorem W_le (hF : wF fd) : pu_W fd ≤ 594 := hF.2.2.2.2.2.2.2.2
theorem CI.nd (h : CI fd z o w) : f_X11_noDegrees w = some (bI (decide (pu_W fd = 0)), w) := by
  have h1 : w.1 11 13 = nI (pu_W fd) := h.F.2.2.2.2.1
  have := W_le h.wF
  unfold f_X11_noDegrees f_X11_noDegrees_15
  by_cases c : pu_W fd = 0
  · rw [decide_eq_true c]
    rw [c] at h1
    simp (disch := omega) only [pv_v, pv_b2, pv_b1, pv_x, pv_lit, pv_ofN, pu_chk, pu_cl, nI_add, pk_mul, nI_leI, nI_ltI, nI_eq, pu_nar0, pu_nar1, pu_narb, bI_0, bI_1, ↓reduceIte, pu_leT, pu_leF, pu_ltT, pu_ltF, pu_eqT, pu_eqF, pu_x1, pu_x2, pu_x3, pu_x4, pu_x5, pu_x6, pu_x7, pu_x8, Nat.zero_add, pu_m31I, pu_m31, pu_shlI, eq_self, Bool.false_eq_true, Bool.true_eq_false, h1]
    rfl
  · rw [decide_eq_false c]
    simp (disch := omega) only [pv_v, pv_b2, pv_b1, pv_x, pv_lit, pv_ofN, pu_chk, pu_cl, nI_add, pk_mul, nI_leI, nI_ltI, nI_eq, pu_nar0, pu_nar1, pu_narb, bI_0, bI_1, ↓reduceIte, pu_leT, pu_leF, pu_ltT, pu_ltF, pu_eqT, pu_eqF, pu_x1, pu_x2, pu_x3, pu_x4, pu_x5, pu_x6, pu_x7, pu_x8, Nat.zero_add, pu_m31I, pu_m31, pu_shlI, eq_self, Bool.false_eq_true, Bool.true_eq_false, h1]
    rfl
theorem W_n (hF : wF fd) (h : pu_W fd ≠ 0) : 0 < (fd 0 0) := by
  rcases Nat.eq_zero_or_pos (fd 0 0) with n0 | n0
  · exfalso
    have := (hF.2.2.2.2.2.2.2.1 n0).2.2
    apply h
    unfold pu_W
    rw [this 1, this 2, this 3, this 4, this 5, this 6]
  · exact n0
theorem both_sample (x : Int64) : Both j fd z o (fun a b => a = b) (f_X11_sample x) (f_X12_sample x) := by
  intro w hc hr hb hnf
  have hF := hc.wF
  have hW := W_le hF
  by_cases c : pu_W fd = 0
  · refine Both.val (-nI 1) rfl (fun w h => ?_) (fun w h => ?_) w hc hr hb hnf
    · have h1 := h.nd
      rw [decide_eq_true c] at h1
      unfold f_X11_sample
      simp (disch := omega) only [pv_v, pv_b2, pv_b1, pv_x, pv_lit, pv_ofN, pu_chk, pu_cl, nI_add, pk_mul, nI_leI, nI_ltI, nI_eq, pu_nar0, pu_nar1, pu_narb, bI_0, bI_1, ↓reduceIte, pu_leT, pu_leF, pu_ltT, pu_ltF, pu_eqT, pu_eqF, pu_x1, pu_x2, pu_x3, pu_x4, pu_x5, pu_x6, pu_x7, pu_x8, Nat.zero_add, pu_m31I, pu_m31, pu_shlI, eq_self, Bool.false_eq_true, Bool.true_eq_false, h1]
    · have h1 := r_degreesOfAll h.wF h.F
      rw [c] at h1
      unfold f_X12_sample f_X12_sample_14
      rcases Nat.eq_zero_or_pos (fd 0 0) with n0 | n0
      · simp (disch := omega) only [pv_v, pv_b2, pv_b1, pv_x, pv_lit, pv_ofN, pu_chk, pu_cl, nI_add, pk_mul, nI_leI, nI_ltI, nI_eq, pu_nar0, pu_nar1, pu_narb, bI_0, bI_1, ↓reduceIte, pu_leT, pu_leF, pu_ltT, pu_ltF, pu_eqT, pu_eqF, pu_x1, pu_x2, pu_x3, pu_x4, pu_x5, pu_x6, pu_x7, pu_x8, Nat.zero_add, pu_m31I, pu_m31, pu_shlI, eq_self, Bool.false_eq_true, Bool.true_eq_false, h.n0 n0]
      · simp (disch := omega) only [pv_v, pv_b2, pv_b1, pv_x, pv_lit, pv_ofN, pu_chk, pu_cl, nI_add, pk_mul, nI_leI, nI_ltI, nI_eq, pu_nar0, pu_nar1, pu_narb, bI_0, bI_1, ↓reduceIte, pu_leT, pu_leF, pu_ltT, pu_ltF, pu_eqT, pu_eqF, pu_x1, pu_x2, pu_x3, pu_x4, pu_x5, pu_x6, pu_x7, pu_x8, Nat.zero_add, pu_m31I, pu_m31, pu_shlI, eq_self, Bool.false_eq_true, Bool.true_eq_false, h.n1 n0, h1]
  · have n0 := W_n hF c
    refine Both.mk (j := j) (fd := fd) (z := z) (o := o) (· = nI (pu_dg fd (dv (dn x) (pu_W fd)))) (fun a b h1 h2 => by rw [h1, h2]) fd z o bn.up (fun w h => ?_) (fun w h => ?_) (fun h => h) w hc hr hb hnf
    · have h1 := h.nd
      rw [decide_eq_false c] at h1
      have hI := (h.pl (k := 0) (y := x)).1
      have h2 := c_castDegree hF hI.F.2.2.2.2.1 hI.F.2.2.2.2.2.2 c (p := 249)
      rw [pl_same] at h2
      refine ⟨(nI (pu_dg fd (dv (dn x) (pu_W fd))), am_pl (am_pl w 249 0 x) 249 0 (dn x)), ?_, rfl, hI.pl.1, (h.pl).2.on (hI.pl).2⟩
      unfold f_X11_sample f_X0_begin
      simp (disch := omega) only [pv_v, pv_b2, pv_b1, pv_x, pv_lit, pv_ofN, pu_chk, pu_cl, nI_add, pk_mul, nI_leI, nI_ltI, nI_eq, pu_nar0, pu_nar1, pu_narb, bI_0, bI_1, ↓reduceIte, pu_leT, pu_leF, pu_ltT, pu_ltF, pu_eqT, pu_eqF, pu_x1, pu_x2, pu_x3, pu_x4, pu_x5, pu_x6, pu_x7, pu_x8, Nat.zero_add, pu_m31I, pu_m31, pu_shlI, eq_self, Bool.false_eq_true, Bool.true_eq_false, h1, h2]
    · have h1 := r_degreesOfAll h.wF h.F
      have hI := (h.pl (y := x)).1
      have h2 := r_drawDegree hF hI.F c
      rw [pl_same] at h2
      refine ⟨(nI (pu_dg fd (dv (dn x) (pu_W fd))), am_pl (am_pl w 271 24 x) 271 24 (dn x)), ?_, rfl, hI.pl.1, (h.pl).2.on (hI.pl).2⟩
      unfold f_X12_sample
      simp (disch := omega) only [pv_v, pv_b2, pv_b1, pv_x, pv_lit, pv_ofN, pu_chk, pu_cl, nI_add, pk_mul, nI_leI, nI_ltI, nI_eq, pu_nar0, pu_nar1, pu_narb, bI_0, bI_1, ↓reduceIte, pu_leT, pu_leF, pu_ltT, pu_ltF, pu_eqT, pu_eqF, pu_x1, pu_x2, pu_x3, pu_x4, pu_x5, pu_x6, pu_x7, pu_x8, Nat.zero_add, pu_m31I, pu_m31, pu_shlI, eq_self, Bool.false_eq_true, Bool.true_eq_false, h.n1 n0, h1, h2]
theorem both_touch (a b : Int32) : Both j fd z o (fun a b => a = b) (f_X11_touch a b) (f_X12_touch a b) := by
  intro w hc hr hb hnf
  have h10 := hc.wF.1
  cases e : ix (fd 0 0) a with
  | none =>
    refine Both.val (-nI 1) rfl (fun w h => ?_) (fun w h => ?_) w hc hr hb hnf
    · unfold f_X11_touch f_X11_touch_21
      simp (disch := omega) only [pv_v, pv_b2, pv_b1, pv_x, pv_lit, pv_ofN, pu_chk, pu_cl, nI_add, pk_mul, nI_leI, nI_ltI, nI_eq, pu_nar0, pu_nar1, pu_narb, bI_0, bI_1, ↓reduceIte, pu_leT, pu_leF, pu_ltT, pu_ltF, pu_eqT, pu_eqF, pu_x1, pu_x2, pu_x3, pu_x4, pu_x5, pu_x6, pu_x7, pu_x8, Nat.zero_add, pu_m31I, pu_m31, pu_shlI, eq_self, Bool.false_eq_true, Bool.true_eq_false, h.u0 e]
    · unfold f_X12_touch f_X12_touch_46 f_X12_touch_47
      simp (disch := omega) only [pv_v, pv_b2, pv_b1, pv_x, pv_lit, pv_ofN, pu_chk, pu_cl, nI_add, pk_mul, nI_leI, nI_ltI, nI_eq, pu_nar0, pu_nar1, pu_narb, bI_0, bI_1, ↓reduceIte, pu_leT, pu_leF, pu_ltT, pu_ltF, pu_eqT, pu_eqF, pu_x1, pu_x2, pu_x3, pu_x4, pu_x5, pu_x6, pu_x7, pu_x8, Nat.zero_add, pu_m31I, pu_m31, pu_shlI, eq_self, Bool.false_eq_true, Bool.true_eq_false, h.u0 e]
  | some u =>
    obtain ⟨t1, t2, t3⟩ := ix_s e
    subst t2
    cases e2 : ix (fd 0 0) b with
    | none =>
      refine Both.val (-nI 1) rfl (fun w h => ?_) (fun w h => ?_) w hc hr hb hnf
      · unfold f_X11_touch f_X11_touch_21
        simp (disch := omega) only [pv_v, pv_b2, pv_b1, pv_x, pv_lit, pv_ofN, pu_chk, pu_cl, nI_add, pk_mul, nI_leI, nI_ltI, nI_eq, pu_nar0, pu_nar1, pu_narb, bI_0, bI_1, ↓reduceIte, pu_leT, pu_leF, pu_ltT, pu_ltF, pu_eqT, pu_eqF, pu_x1, pu_x2, pu_x3, pu_x4, pu_x5, pu_x6, pu_x7, pu_x8, Nat.zero_add, pu_m31I, pu_m31, pu_shlI, eq_self, Bool.false_eq_true, Bool.true_eq_false, h.u1 t1, h.u0 e2]
      · unfold f_X12_touch f_X12_touch_46 f_X12_touch_47
        simp (disch := omega) only [pv_v, pv_b2, pv_b1, pv_x, pv_lit, pv_ofN, pu_chk, pu_cl, nI_add, pk_mul, nI_leI, nI_ltI, nI_eq, pu_nar0, pu_nar1, pu_narb, bI_0, bI_1, ↓reduceIte, pu_leT, pu_leF, pu_ltT, pu_ltF, pu_eqT, pu_eqF, pu_x1, pu_x2, pu_x3, pu_x4, pu_x5, pu_x6, pu_x7, pu_x8, Nat.zero_add, pu_m31I, pu_m31, pu_shlI, eq_self, Bool.false_eq_true, Bool.true_eq_false, h.u1 t1, h.u0 e2]
    | some v =>
      obtain ⟨v1, v2, v3⟩ := ix_s e2
      subst v2
      have cu := hc.wS.2.1 u
      have cv := hc.wS.2.1 v
      by_cases c : u = v
      · refine Both.val (-nI 1) rfl (fun w h => ?_) (fun w h => ?_) w hc hr hb hnf
        · unfold f_X11_touch f_X11_touch_21
          simp (disch := omega) only [pv_v, pv_b2, pv_b1, pv_x, pv_lit, pv_ofN, pu_chk, pu_cl, nI_add, pk_mul, nI_leI, nI_ltI, nI_eq, pu_nar0, pu_nar1, pu_narb, bI_0, bI_1, ↓reduceIte, pu_leT, pu_leF, pu_ltT, pu_ltF, pu_eqT, pu_eqF, pu_x1, pu_x2, pu_x3, pu_x4, pu_x5, pu_x6, pu_x7, pu_x8, Nat.zero_add, pu_m31I, pu_m31, pu_shlI, eq_self, Bool.false_eq_true, Bool.true_eq_false, h.u1 t1, h.u1 v1]
        · unfold f_X12_touch f_X12_touch_46 f_X12_touch_47
          simp (disch := omega) only [pv_v, pv_b2, pv_b1, pv_x, pv_lit, pv_ofN, pu_chk, pu_cl, nI_add, pk_mul, nI_leI, nI_ltI, nI_eq, pu_nar0, pu_nar1, pu_narb, bI_0, bI_1, ↓reduceIte, pu_leT, pu_leF, pu_ltT, pu_ltF, pu_eqT, pu_eqF, pu_x1, pu_x2, pu_x3, pu_x4, pu_x5, pu_x6, pu_x7, pu_x8, Nat.zero_add, pu_m31I, pu_m31, pu_shlI, eq_self, Bool.false_eq_true, Bool.true_eq_false, h.u1 t1, h.u1 v1]
      · by_cases k1 : z.1 0 u = 0
        · by_cases k2 : z.1 0 v = 0
          · have hx : z.1 1 u &&& z.1 1 v < 2 ^ 48 := Nat.lt_of_le_of_lt Nat.and_le_left (wS_lt hc.wF hc.wS u)
            refine Both.val (nI (cL (z.1 1 u &&& z.1 1 v))) rfl (fun w h => ?_) (fun w h => ?_) w hc hr hb hnf
            · have g1 : w.1 24 u = nI (z.1 0 u) := h.S.1 u (by omega)
              have g2 : w.1 24 v = nI (z.1 0 v) := h.S.1 v (by omega)
              have g3 : w.2.1 25 u = lN (z.1 1 u) := h.S.2.1 u (by omega)
              have g4 : w.2.1 25 v = lN (z.1 1 v) := h.S.2.1 v (by omega)
              rw [k1] at g1
              rw [k2] at g2
              unfold f_X11_touch
              simp (disch := omega) only [pv_v, pv_b2, pv_b1, pv_x, pv_lit, pv_ofN, pu_chk, pu_cl, nI_add, pk_mul, nI_leI, nI_ltI, nI_eq, pu_nar0, pu_nar1, pu_narb, bI_0, bI_1, ↓reduceIte, pu_leT, pu_leF, pu_ltT, pu_ltF, pu_eqT, pu_eqF, pu_x1, pu_x2, pu_x3, pu_x4, pu_x5, pu_x6, pu_x7, pu_x8, Nat.zero_add, pu_m31I, pu_m31, pu_shlI, eq_self, Bool.false_eq_true, Bool.true_eq_false, h.u1 t1, h.u1 v1, g1, g2, g3, g4, fb_andL, c_bitCountL w hx]
            · have g1 := r_isUnknown h.Q (u := u) (by omega)
              have g2 := r_isUnknown h.Q (u := v) (by omega)
              have g3 := r_touches h.Q (u := u) (o := v) (by omega) (by omega)
              rw [k1] at g1
              rw [k2] at g2
              unfold f_X12_touch f_X12_touch_47
              simp (disch := omega) only [pv_v, pv_b2, pv_b1, pv_x, pv_lit, pv_ofN, pu_chk, pu_cl, nI_add, pk_mul, nI_leI, nI_ltI, nI_eq, pu_nar0, pu_nar1, pu_narb, bI_0, bI_1, ↓reduceIte, pu_leT, pu_leF, pu_ltT, pu_ltF, pu_eqT, pu_eqF, pu_x1, pu_x2, pu_x3, pu_x4, pu_x5, pu_x6, pu_x7, pu_x8, Nat.zero_add, pu_m31I, pu_m31, pu_shlI, eq_self, Bool.false_eq_true, Bool.true_eq_false, h.u1 t1, h.u1 v1, g1, g2, g3, BEq.rfl]
          · refine Both.val (-nI 1) rfl (fun w h => ?_) (fun w h => ?_) w hc hr hb hnf
            · have g1 : w.1 24 u = nI (z.1 0 u) := h.S.1 u (by omega)
              have g2 : w.1 24 v = nI (z.1 0 v) := h.S.1 v (by omega)
              rw [k1] at g1
              unfold f_X11_touch f_X11_touch_47
              simp (disch := omega) only [pv_v, pv_b2, pv_b1, pv_x, pv_lit, pv_ofN, pu_chk, pu_cl, nI_add, pk_mul, nI_leI, nI_ltI, nI_eq, pu_nar0, pu_nar1, pu_narb, bI_0, bI_1, ↓reduceIte, pu_leT, pu_leF, pu_ltT, pu_ltF, pu_eqT, pu_eqF, pu_x1, pu_x2, pu_x3, pu_x4, pu_x5, pu_x6, pu_x7, pu_x8, Nat.zero_add, pu_m31I, pu_m31, pu_shlI, eq_self, Bool.false_eq_true, Bool.true_eq_false, h.u1 t1, h.u1 v1, g1, g2]
            · have g1 := r_isUnknown h.Q (u := u) (by omega)
              have g2 := r_isUnknown h.Q (u := v) (by omega)
              rw [beq_eq_false_iff_ne.mpr k2] at g2
              rw [k1] at g1
              unfold f_X12_touch f_X12_touch_46 f_X12_touch_47
              simp (disch := omega) only [pv_v, pv_b2, pv_b1, pv_x, pv_lit, pv_ofN, pu_chk, pu_cl, nI_add, pk_mul, nI_leI, nI_ltI, nI_eq, pu_nar0, pu_nar1, pu_narb, bI_0, bI_1, ↓reduceIte, pu_leT, pu_leF, pu_ltT, pu_ltF, pu_eqT, pu_eqF, pu_x1, pu_x2, pu_x3, pu_x4, pu_x5, pu_x6, pu_x7, pu_x8, Nat.zero_add, pu_m31I, pu_m31, pu_shlI, eq_self, Bool.false_eq_true, Bool.true_eq_false, h.u1 t1, h.u1 v1, g1, g2, BEq.rfl]
        · refine Both.val (-nI 1) rfl (fun w h => ?_) (fun w h => ?_) w hc hr hb hnf
          · have g1 : w.1 24 u = nI (z.1 0 u) := h.S.1 u (by omega)
            unfold f_X11_touch f_X11_touch_47
            simp (disch := omega) only [pv_v, pv_b2, pv_b1, pv_x, pv_lit, pv_ofN, pu_chk, pu_cl, nI_add, pk_mul, nI_leI, nI_ltI, nI_eq, pu_nar0, pu_nar1, pu_narb, bI_0, bI_1, ↓reduceIte, pu_leT, pu_leF, pu_ltT, pu_ltF, pu_eqT, pu_eqF, pu_x1, pu_x2, pu_x3, pu_x4, pu_x5, pu_x6, pu_x7, pu_x8, Nat.zero_add, pu_m31I, pu_m31, pu_shlI, eq_self, Bool.false_eq_true, Bool.true_eq_false, h.u1 t1, h.u1 v1, g1]
          · have g1 := r_isUnknown h.Q (u := u) (by omega)
            rw [beq_eq_false_iff_ne.mpr k1] at g1
            unfold f_X12_touch f_X12_touch_46 f_X12_touch_47
            simp (disch := omega) only [pv_v, pv_b2, pv_b1, pv_x, pv_lit, pv_ofN, pu_chk, pu_cl, nI_add, pk_mul, nI_leI, nI_ltI, nI_eq, pu_nar0, pu_nar1, pu_narb, bI_0, bI_1, ↓reduceIte, pu_leT, pu_leF, pu_ltT, pu_ltF, pu_eqT, pu_eqF, pu_x1, pu_x2, pu_x3, pu_x4, pu_x5, pu_x6, pu_x7, pu_x8, Nat.zero_add, pu_m31I, pu_m31, pu_shlI, eq_self, Bool.false_eq_true, Bool.true_eq_false, h.u1 t1, h.u1 v1, g1]
end SMALL2
