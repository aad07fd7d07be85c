/-! pure part: YEARS, DO, RUN, UNDO, images as calls (wip/whole/pure/20.f.calls.src) -/
section CALLS
variable {fd : Nat → Nat → Nat} {z z' : Zt} {o o' : Ot} {w w' w'' : am_S} {j : Nat}
theorem CI.n0 (h : CI fd z o w) (h0 : (fd 0 0) = 0) : f_X11_noField w = some (nI 1, w) := by
  rw [h.nf, decide_eq_true h0]; rfl
theorem CI.n1 (h : CI fd z o w) (h0 : 0 < (fd 0 0)) : f_X11_noField w = some (nI 0, w) := by
  rw [h.nf, decide_eq_false (by omega)]; rfl
theorem RI.n0 (h : RI fd z o w) (h0 : (fd 0 0) = 0) : f_X12_isField w = some (nI 0, w) := by
  rw [r_isField h.F.1 h.wF.1, decide_eq_false (by omega)]; rfl
theorem RI.n1 (h : RI fd z o w) (h0 : 0 < (fd 0 0)) : f_X12_isField w = some (nI 1, w) := by
  rw [r_isField h.F.1 h.wF.1, decide_eq_true h0]; rfl
theorem ix_lt {n : Nat} {a : Int32} (h : ix n a = none) (hn : n < 2 ^ 30) : (a < nI 0) = True ∨ ((a < nI 0) = False ∧ (a < nI n) = False ∧ (nI n ≤ a) = True) := by
  have e1 : (nI 0).toInt = 0 := by decide
  have e2 : (nI n).toInt = n := nI_toInt (by omega)
  rcases ix_n h with g | g
  · left; exact eq_true (by rw [lt_ti, e1]; exact g)
  · right; exact ⟨eq_false (by rw [lt_ti, e1]; omega), eq_false (by rw [lt_ti, e2]; omega), eq_true (by rw [le_ti, e2]; omega)⟩
theorem CI.noS (h : CI fd z o w) (a : Int32) : f_X11_noScript a w = some (bI (ix o.2.2.1.1 a).isNone, w) := by
  have h4 : o.2.2.1.1 ≤ 4 := h.2.2.2.1.1
  have h1 : w.1 0 17 = nI o.2.2.1.1 := h.2.2.2.1.2.1
  unfold f_X11_noScript f_X11_noScript_12 f_X11_noScript_17
  cases e : ix o.2.2.1.1 a with
  | none =>
    rcases ix_lt e (by omega) with g | ⟨g1, g2, g3⟩
    · simp (disch := omega) only [pv_v, pv_b2, pv_b1, pv_x, pv_lit, pv_ofN, pu_chk, pu_cl, nI_add, pk_mul, nI_leI, nI_ltI, nI_eq, pu_nar0, pu_nar1, pu_narb, bI_0, bI_1, ↓reduceIte, pu_leT, pu_leF, pu_ltT, pu_ltF, pu_eqT, pu_eqF, pu_x1, pu_x2, pu_x3, pu_x4, pu_x5, pu_x6, pu_x7, pu_x8, Nat.zero_add, pu_m31I, pu_m31, pu_shlI, eq_self, Bool.false_eq_true, Bool.true_eq_false, g, Option.isNone]
      rfl
    · simp (disch := omega) only [pv_v, pv_b2, pv_b1, pv_x, pv_lit, pv_ofN, pu_chk, pu_cl, nI_add, pk_mul, nI_leI, nI_ltI, nI_eq, pu_nar0, pu_nar1, pu_narb, bI_0, bI_1, ↓reduceIte, pu_leT, pu_leF, pu_ltT, pu_ltF, pu_eqT, pu_eqF, pu_x1, pu_x2, pu_x3, pu_x4, pu_x5, pu_x6, pu_x7, pu_x8, Nat.zero_add, pu_m31I, pu_m31, pu_shlI, eq_self, Bool.false_eq_true, Bool.true_eq_false, g1, g2, h1, Option.isNone]
      rfl
  | some t =>
    obtain ⟨t1, t2, t3⟩ := ix_s e
    subst t2
    simp (disch := omega) only [pv_v, pv_b2, pv_b1, pv_x, pv_lit, pv_ofN, pu_chk, pu_cl, nI_add, pk_mul, nI_leI, nI_ltI, nI_eq, pu_nar0, pu_nar1, pu_narb, bI_0, bI_1, ↓reduceIte, pu_leT, pu_leF, pu_ltT, pu_ltF, pu_eqT, pu_eqF, pu_x1, pu_x2, pu_x3, pu_x4, pu_x5, pu_x6, pu_x7, pu_x8, Nat.zero_add, pu_m31I, pu_m31, pu_shlI, eq_self, Bool.false_eq_true, Bool.true_eq_false, h1, Option.isNone]
    rfl
theorem RI.isS (h : RI fd z o w) (a : Int32) : f_X12_isScript a w = some (bI (ix o.2.2.1.1 a).isSome, w) := by
  have h4 : o.2.2.1.1 ≤ 4 := h.2.2.2.1.1
  have h1 : w.1 271 16 = nI o.2.2.1.1 := h.2.2.2.1.2.1
  have := in_ix (w := w) a (n := o.2.2.1.1) (by omega)
  unfold f_X12_isScript
  cases e : ix o.2.2.1.1 a with
  | none =>
    rw [e] at this
    simp (disch := omega) only [pv_v, pv_b2, pv_b1, pv_x, pv_lit, pv_ofN, pu_chk, pu_cl, nI_add, pk_mul, nI_leI, nI_ltI, nI_eq, pu_nar0, pu_nar1, pu_narb, bI_0, bI_1, ↓reduceIte, pu_leT, pu_leF, pu_ltT, pu_ltF, pu_eqT, pu_eqF, pu_x1, pu_x2, pu_x3, pu_x4, pu_x5, pu_x6, pu_x7, pu_x8, Nat.zero_add, pu_m31I, pu_m31, pu_shlI, eq_self, Bool.false_eq_true, Bool.true_eq_false, h1, this, Option.isSome]
  | some t =>
    rw [e] at this
    simp (disch := omega) only [pv_v, pv_b2, pv_b1, pv_x, pv_lit, pv_ofN, pu_chk, pu_cl, nI_add, pk_mul, nI_leI, nI_ltI, nI_eq, pu_nar0, pu_nar1, pu_narb, bI_0, bI_1, ↓reduceIte, pu_leT, pu_leF, pu_ltT, pu_ltF, pu_eqT, pu_eqF, pu_x1, pu_x2, pu_x3, pu_x4, pu_x5, pu_x6, pu_x7, pu_x8, Nat.zero_add, pu_m31I, pu_m31, pu_shlI, eq_self, Bool.false_eq_true, Bool.true_eq_false, h1, this, Option.isSome]
theorem yN_L {x : Int64} : ∀ {N : Nat}, (yN fd x z N).2.2.2.2.1 ≤ z.2.2.2.1 + N
  | 0 => Nat.le_refl _
  | N + 1 => by
    show (yO fd (yN fd x z N).1 (yN fd x z N).2).2.2.2.2.1 ≤ _
    have h1 := yO_L (fd := fd) (z := (yN fd x z N).2) (x := (yN fd x z N).1)
    have h2 := yN_L (x := x) (N := N)
    omega
theorem both_years (hj : j < 1000) (a : Int32) (x : Int64) : Both j fd z o (fun a b => a = b) (f_X11_years a x) (f_X12_years a x) := by
  intro w hc hr hb hnf
  have hL : z.2.2.2.1 + 40 < 2 ^ 30 := by have := hb.1; omega
  rcases Nat.eq_zero_or_pos (fd 0 0) with n0 | n0
  · refine Both.val (-nI 1) rfl (fun w h => ?_) (fun w h => ?_) w hc hr hb hnf
    · unfold f_X11_years f_X11_years_18
      simp (disch := omega) only [pv_v, pv_b2, pv_b1, pv_x, pv_lit, pv_ofN, pu_chk, pu_cl, nI_add, pk_mul, nI_leI, nI_ltI, nI_eq, pu_nar0, pu_nar1, pu_narb, bI_0, bI_1, ↓reduceIte, pu_leT, pu_leF, pu_ltT, pu_ltF, pu_eqT, pu_eqF, pu_x1, pu_x2, pu_x3, pu_x4, pu_x5, pu_x6, pu_x7, pu_x8, Nat.zero_add, pu_m31I, pu_m31, pu_shlI, eq_self, Bool.false_eq_true, Bool.true_eq_false, h.n0 n0]
    · unfold f_X12_years f_X12_years_17
      simp (disch := omega) only [pv_v, pv_b2, pv_b1, pv_x, pv_lit, pv_ofN, pu_chk, pu_cl, nI_add, pk_mul, nI_leI, nI_ltI, nI_eq, pu_nar0, pu_nar1, pu_narb, bI_0, bI_1, ↓reduceIte, pu_leT, pu_leF, pu_ltT, pu_ltF, pu_eqT, pu_eqF, pu_x1, pu_x2, pu_x3, pu_x4, pu_x5, pu_x6, pu_x7, pu_x8, Nat.zero_add, pu_m31I, pu_m31, pu_shlI, eq_self, Bool.false_eq_true, Bool.true_eq_false, h.n0 n0]
  · rcases rng a 1 40 (by omega) (by omega) with ⟨t, t1, t2, t3⟩ | ⟨t1, t2, t3⟩ | ⟨t1, t2, t3, t4, t5, t6, t7⟩
    · subst t3
      refine Both.mk (j := j) (fd := fd) (z := z) (o := o) (· = nI (kc (yN fd x z t).2.1)) (fun a b h1 h2 => by rw [h1, h2]) fd (yN fd x z t).2 o (fun h => ⟨?_, h.up.2⟩) (fun w h => ?_) (fun w h => ?_) (fun _ h0 => absurd n0 (by omega)) w hc hr hb hnf
      · have h1 := yN_L (fd := fd) (z := z) (x := x) (N := t)
        have := h.1; omega
      · obtain ⟨q, e1, q1, q2, q3⟩ := c_years h.1 hL n0 ⟨t1, t2⟩ x
        exact ⟨q, e1, q1, h.actD q2 q3⟩
      · obtain ⟨q, e1, q1, q2, q3⟩ := r_years h.1 n0 ⟨t1, t2⟩ x
        exact ⟨q, e1, q1, h.act q2 q3⟩
    · refine Both.val (-nI 1) rfl (fun w h => ?_) (fun w h => ?_) w hc hr hb hnf
      · unfold f_X11_years f_X11_years_18
        simp (disch := omega) only [pv_v, pv_b2, pv_b1, pv_x, pv_lit, pv_ofN, pu_chk, pu_cl, nI_add, pk_mul, nI_leI, nI_ltI, nI_eq, pu_nar0, pu_nar1, pu_narb, bI_0, bI_1, ↓reduceIte, pu_leT, pu_leF, pu_ltT, pu_ltF, pu_eqT, pu_eqF, pu_x1, pu_x2, pu_x3, pu_x4, pu_x5, pu_x6, pu_x7, pu_x8, Nat.zero_add, pu_m31I, pu_m31, pu_shlI, eq_self, Bool.false_eq_true, Bool.true_eq_false, h.n1 n0, t1]
      · unfold f_X12_years f_X12_years_17
        simp (disch := omega) only [pv_v, pv_b2, pv_b1, pv_x, pv_lit, pv_ofN, pu_chk, pu_cl, nI_add, pk_mul, nI_leI, nI_ltI, nI_eq, pu_nar0, pu_nar1, pu_narb, bI_0, bI_1, ↓reduceIte, pu_leT, pu_leF, pu_ltT, pu_ltF, pu_eqT, pu_eqF, pu_x1, pu_x2, pu_x3, pu_x4, pu_x5, pu_x6, pu_x7, pu_x8, Nat.zero_add, pu_m31I, pu_m31, pu_shlI, eq_self, Bool.false_eq_true, Bool.true_eq_false, h.n1 n0, r_inL t1]
    · refine Both.val (-nI 1) rfl (fun w h => ?_) (fun w h => ?_) w hc hr hb hnf
      · unfold f_X11_years f_X11_years_18
        simp (disch := omega) only [pv_v, pv_b2, pv_b1, pv_x, pv_lit, pv_ofN, pu_chk, pu_cl, nI_add, pk_mul, nI_leI, nI_ltI, nI_eq, pu_nar0, pu_nar1, pu_narb, bI_0, bI_1, ↓reduceIte, pu_leT, pu_leF, pu_ltT, pu_ltF, pu_eqT, pu_eqF, pu_x1, pu_x2, pu_x3, pu_x4, pu_x5, pu_x6, pu_x7, pu_x8, Nat.zero_add, pu_m31I, pu_m31, pu_shlI, eq_self, Bool.false_eq_true, Bool.true_eq_false, h.n1 n0, t1, t3]
      · unfold f_X12_years f_X12_years_17
        simp (disch := omega) only [pv_v, pv_b2, pv_b1, pv_x, pv_lit, pv_ofN, pu_chk, pu_cl, nI_add, pk_mul, nI_leI, nI_ltI, nI_eq, pu_nar0, pu_nar1, pu_narb, bI_0, bI_1, ↓reduceIte, pu_leT, pu_leF, pu_ltT, pu_ltF, pu_eqT, pu_eqF, pu_x1, pu_x2, pu_x3, pu_x4, pu_x5, pu_x6, pu_x7, pu_x8, Nat.zero_add, pu_m31I, pu_m31, pu_shlI, eq_self, Bool.false_eq_true, Bool.true_eq_false, h.n1 n0, r_inH t1 t4]
theorem both_perform (hj : j < 1000) (a : Int32) : Both j fd z o (fun a b => a = b) (f_X11_perform a) (f_X12_perform a) := by
  intro w hc hr hb hnf
  have hL : z.2.2.2.1 + 16 < 2 ^ 30 := by have := hb.1; omega
  have h4 : o.2.2.1.1 ≤ 4 := hc.2.2.2.1.1
  cases e : ix o.2.2.1.1 a with
  | none =>
    refine Both.val (-nI 1) rfl (fun w h => ?_) (fun w h => ?_) w hc hr hb hnf
    · have := h.noS a
      rw [e] at this
      unfold f_X11_perform f_X11_perform_15
      simp (disch := omega) only [pv_v, pv_b2, pv_b1, pv_x, pv_lit, pv_ofN, pu_chk, pu_cl, nI_add, pk_mul, nI_leI, nI_ltI, nI_eq, pu_nar0, pu_nar1, pu_narb, bI_0, bI_1, ↓reduceIte, pu_leT, pu_leF, pu_ltT, pu_ltF, pu_eqT, pu_eqF, pu_x1, pu_x2, pu_x3, pu_x4, pu_x5, pu_x6, pu_x7, pu_x8, Nat.zero_add, pu_m31I, pu_m31, pu_shlI, eq_self, Bool.false_eq_true, Bool.true_eq_false, this, Option.isNone]
    · have := h.isS a
      rw [e] at this
      unfold f_X12_perform f_X12_perform_24 f_X12_perform_25
      simp (disch := omega) only [pv_v, pv_b2, pv_b1, pv_x, pv_lit, pv_ofN, pu_chk, pu_cl, nI_add, pk_mul, nI_leI, nI_ltI, nI_eq, pu_nar0, pu_nar1, pu_narb, bI_0, bI_1, ↓reduceIte, pu_leT, pu_leF, pu_ltT, pu_ltF, pu_eqT, pu_eqF, pu_x1, pu_x2, pu_x3, pu_x4, pu_x5, pu_x6, pu_x7, pu_x8, Nat.zero_add, pu_m31I, pu_m31, pu_shlI, eq_self, Bool.false_eq_true, Bool.true_eq_false, this, Option.isSome]
  | some t =>
    obtain ⟨t1, t2, t3⟩ := ix_s e
    subst t2
    rcases Nat.eq_zero_or_pos (fd 0 0) with n0 | n0
    · refine Both.val (-nI 1) rfl (fun w h => ?_) (fun w h => ?_) w hc hr hb hnf
      · have := h.noS (nI t)
        rw [e] at this
        unfold f_X11_perform f_X11_perform_15
        simp (disch := omega) only [pv_v, pv_b2, pv_b1, pv_x, pv_lit, pv_ofN, pu_chk, pu_cl, nI_add, pk_mul, nI_leI, nI_ltI, nI_eq, pu_nar0, pu_nar1, pu_narb, bI_0, bI_1, ↓reduceIte, pu_leT, pu_leF, pu_ltT, pu_ltF, pu_eqT, pu_eqF, pu_x1, pu_x2, pu_x3, pu_x4, pu_x5, pu_x6, pu_x7, pu_x8, Nat.zero_add, pu_m31I, pu_m31, pu_shlI, eq_self, Bool.false_eq_true, Bool.true_eq_false, this, Option.isNone, h.n0 n0]
      · have := h.isS (nI t)
        rw [e] at this
        unfold f_X12_perform f_X12_perform_24 f_X12_perform_25
        simp (disch := omega) only [pv_v, pv_b2, pv_b1, pv_x, pv_lit, pv_ofN, pu_chk, pu_cl, nI_add, pk_mul, nI_leI, nI_ltI, nI_eq, pu_nar0, pu_nar1, pu_narb, bI_0, bI_1, ↓reduceIte, pu_leT, pu_leF, pu_ltT, pu_ltF, pu_eqT, pu_eqF, pu_x1, pu_x2, pu_x3, pu_x4, pu_x5, pu_x6, pu_x7, pu_x8, Nat.zero_add, pu_m31I, pu_m31, pu_shlI, eq_self, Bool.false_eq_true, Bool.true_eq_false, this, Option.isSome, h.n0 n0]
    · refine Both.mk (j := j) (fd := fd) (z := z) (o := o) (· = nI (gP fd (o.2.2.1.2 t).2.1 (o.2.2.1.2 t).2.2 (o.2.2.1.2 t).1 0 z).1) (fun a b h1 h2 => by rw [h1, h2]) fd (gP fd (o.2.2.1.2 t).2.1 (o.2.2.1.2 t).2.2 (o.2.2.1.2 t).1 0 z).2 o (fun h => ⟨?_, h.up.2⟩) (fun w h => ?_) (fun w h => ?_) (fun _ h0 => absurd n0 (by omega)) w hc hr hb hnf
      · have h1 := (gP_le (fd := fd) (sk := (o.2.2.1.2 t).2.1) (sn := (o.2.2.1.2 t).2.2) (f := (o.2.2.1.2 t).1) (i := 0) (z := z)).2
        have h2 := (hc.2.2.2.1.2.2 t t1).1.1
        have := h.1; omega
      · have hs := h.2.2.2.1.2.2 t t1
        have hn := h.noS (nI t)
        rw [e] at hn
        obtain ⟨q, e1, q1, q2, q3⟩ := c_perform26 h.1 hL (n := t) (by omega) hs.1 hs.2
        refine ⟨q, ?_, q1, h.act q2 q3⟩
        unfold f_X11_perform
        simp (disch := omega) only [pv_v, pv_b2, pv_b1, pv_x, pv_lit, pv_ofN, pu_chk, pu_cl, nI_add, pk_mul, nI_leI, nI_ltI, nI_eq, pu_nar0, pu_nar1, pu_narb, bI_0, bI_1, ↓reduceIte, pu_leT, pu_leF, pu_ltT, pu_ltF, pu_eqT, pu_eqF, pu_x1, pu_x2, pu_x3, pu_x4, pu_x5, pu_x6, pu_x7, pu_x8, Nat.zero_add, pu_m31I, pu_m31, pu_shlI, eq_self, Bool.false_eq_true, Bool.true_eq_false, hn, Option.isNone, h.n1 n0, e1]
      · have hs := h.2.2.2.1.2.2 t t1
        have hn := h.isS (nI t)
        rw [e] at hn
        obtain ⟨q, e1, q1, q2, q3⟩ := r_perform2 h.1 (n := t) (by omega) hs.1 hs.2
        refine ⟨q, ?_, q1, h.act q2 q3⟩
        unfold f_X12_perform f_X12_perform_25
        simp (disch := omega) only [pv_v, pv_b2, pv_b1, pv_x, pv_lit, pv_ofN, pu_chk, pu_cl, nI_add, pk_mul, nI_leI, nI_ltI, nI_eq, pu_nar0, pu_nar1, pu_narb, bI_0, bI_1, ↓reduceIte, pu_leT, pu_leF, pu_ltT, pu_ltF, pu_eqT, pu_eqF, pu_x1, pu_x2, pu_x3, pu_x4, pu_x5, pu_x6, pu_x7, pu_x8, Nat.zero_add, pu_m31I, pu_m31, pu_shlI, eq_self, Bool.false_eq_true, Bool.true_eq_false, hn, Option.isSome, h.n1 n0, e1]
        exact b2_id _
theorem both_undo (hj : j < 1000) : Both j fd z o (fun a b => a = b) f_X11_undo f_X12_undo := by
  intro w hc hr hb hnf
  have hL : z.2.2.2.1 < 2 ^ 30 := by have := hb.1; omega
  rcases Nat.eq_zero_or_pos z.2.2.2.2 with k0 | k0
  · refine Both.val (-nI 1) rfl (fun w h => ?_) (fun w h => ?_) w hc hr hb hnf
    · obtain ⟨nx, n1, n2, n3, _⟩ := h.1.2.2.1
      rw [k0] at n3
      unfold f_X11_undo
      simp (disch := omega) only [pv_v, pv_b2, pv_b1, pv_x, pv_lit, pv_ofN, pu_chk, pu_cl, nI_add, pk_mul, nI_leI, nI_ltI, nI_eq, pu_nar0, pu_nar1, pu_narb, bI_0, bI_1, ↓reduceIte, pu_leT, pu_leF, pu_ltT, pu_ltF, pu_eqT, pu_eqF, pu_x1, pu_x2, pu_x3, pu_x4, pu_x5, pu_x6, pu_x7, pu_x8, Nat.zero_add, pu_m31I, pu_m31, pu_shlI, eq_self, Bool.false_eq_true, Bool.true_eq_false, n3]
    · have n3 := h.1.2.2.1.1
      rw [k0] at n3
      exact r_undo0 n3
  · refine Both.mk (j := j) (fd := fd) (z := z) (o := o) (· = nI (z.2.2.2.2 - 1)) (fun a b h1 h2 => by rw [h1, h2]) fd (z.2.1 (z.2.2.2.1 - 1), z.2.1, z.2.2.1, z.2.2.2.1 - 1, z.2.2.2.2 - 1) o (fun h => ⟨?_, h.up.2⟩) (fun w h => ?_) (fun w h => ?_) (fun h h0 => absurd k0 (by rw [(h h0).2.1]; omega)) w hc hr hb hnf
    · show z.2.2.2.1 - 1 ≤ _
      have := h.1; omega
    · obtain ⟨q, e1, q1, q2, q3⟩ := c_undo h.1 k0 hL
      exact ⟨q, e1, q1, h.act q2 q3⟩
    · obtain ⟨q, e1, q1, q2, q3⟩ := r_undoZ h.1 k0
      exact ⟨q, e1, q1, h.act q2 q3⟩
theorem both_image : Both j fd z o (fun a b => a = b) f_X11_image f_X12_image := by
  intro w hc hr hb hnf
  rcases Nat.eq_zero_or_pos (fd 0 0) with n0 | n0
  · refine Both.val (-nI 1) rfl (fun w h => ?_) (fun w h => ?_) w hc hr hb hnf
    · unfold f_X11_image
      simp (disch := omega) only [pv_v, pv_b2, pv_b1, pv_x, pv_lit, pv_ofN, pu_chk, pu_cl, nI_add, pk_mul, nI_leI, nI_ltI, nI_eq, pu_nar0, pu_nar1, pu_narb, bI_0, bI_1, ↓reduceIte, pu_leT, pu_leF, pu_ltT, pu_ltF, pu_eqT, pu_eqF, pu_x1, pu_x2, pu_x3, pu_x4, pu_x5, pu_x6, pu_x7, pu_x8, Nat.zero_add, pu_m31I, pu_m31, pu_shlI, eq_self, Bool.false_eq_true, Bool.true_eq_false, h.n0 n0]
    · unfold f_X12_image
      simp (disch := omega) only [pv_v, pv_b2, pv_b1, pv_x, pv_lit, pv_ofN, pu_chk, pu_cl, nI_add, pk_mul, nI_leI, nI_ltI, nI_eq, pu_nar0, pu_nar1, pu_narb, bI_0, bI_1, ↓reduceIte, pu_leT, pu_leF, pu_ltT, pu_ltF, pu_eqT, pu_eqF, pu_x1, pu_x2, pu_x3, pu_x4, pu_x5, pu_x6, pu_x7, pu_x8, Nat.zero_add, pu_m31I, pu_m31, pu_shlI, eq_self, Bool.false_eq_true, Bool.true_eq_false, h.n0 n0]
  · refine Both.mk (j := j) (fd := fd) (z := z) (o := o) (· = nI (kc z.1)) (fun a b h1 h2 => by rw [h1, h2]) fd z (o.1, some (z.1, z.2.2.1, z.2.2.2.1), o.2.2) (fun h => ⟨h.up.1, fun a ha => ?_⟩) (fun w h => ?_) (fun w h => ?_) (fun _ h0 => absurd n0 (by omega)) w hc hr hb hnf
    · cases ha; exact h.up.1
    · obtain ⟨⟨q, w'⟩, e1, q1, q2, q3, q4, q5⟩ := c_image h.1 n0
      have q4 : ∀ k, k ≠ 18 → w'.1 0 k = w.1 0 k := q4
      refine ⟨(q, w'), e1, q1, ⟨q2, ⟨h.2.1.1, h.2.1.2.fr (by rw [q5.1 _ (by decide)]) (q5.1 _ (by decide))⟩, q3, ⟨h.2.2.2.1.1, ?_, fun n hn => ⟨(h.2.2.2.1.2.2 n hn).1, (h.2.2.2.1.2.2 n hn).2.fr (q5.1 _ (by simp only [List.mem_cons, List.not_mem_nil, or_false]; omega)) (q5.1 _ (by simp only [List.mem_cons, List.not_mem_nil, or_false]; omega)) (q5.1 _ (by simp only [List.mem_cons, List.not_mem_nil, or_false]; omega))⟩⟩, fun r hr => ?_⟩, q5.C (by decide) (by decide)⟩
      · show w'.1 0 17 = _
        rw [q4 17 (by omega)]; exact h.2.2.2.1.2.1
      · show w'.1 248 r = _
        rw [q5.1 _ (by decide)]; exact h.2.2.2.2 r hr
    · obtain ⟨⟨q, w'⟩, e1, q1, q2, q3, q4, q5⟩ := r_image h.1 n0
      have q4 : ∀ k, k ≠ 29 → w'.1 271 k = w.1 271 k := q4
      refine ⟨(q, w'), e1, q1, ⟨q2, ⟨h.2.1.1, h.2.1.2.fr (q4 2 (by omega)) (q5.2 _ (by decide))⟩, q3, ⟨h.2.2.2.1.1, ?_, fun n hn => ⟨(h.2.2.2.1.2.2 n hn).1, (h.2.2.2.1.2.2 n hn).2.fr (q5.2 _ (by decide)) (q5.2 _ (by decide))⟩⟩, fun r hr => ?_⟩, q5.kR (by decide)⟩
      · show w'.1 271 16 = _
        rw [q4 16 (by omega)]; exact h.2.2.2.1.2.1
      · show w'.1 282 r = _
        rw [q5.2 _ (by decide)]; exact h.2.2.2.2 r hr
theorem both_back : Both j fd z o (fun a b => a = b) f_X11_back f_X12_back := by
  intro w hc hr hb hnf
  cases e : o.2.1 with
  | none =>
    refine Both.val (-nI 1) rfl (fun w h => ?_) (fun w h => ?_) w hc hr hb hnf
    · have h1 := h.2.2.1.1
      rw [e] at h1
      unfold f_X11_back
      simp (disch := omega) only [pv_v, pv_b2, pv_b1, pv_x, pv_lit, pv_ofN, pu_chk, pu_cl, nI_add, pk_mul, nI_leI, nI_ltI, nI_eq, pu_nar0, pu_nar1, pu_narb, bI_0, bI_1, ↓reduceIte, pu_leT, pu_leF, pu_ltT, pu_ltF, pu_eqT, pu_eqF, pu_x1, pu_x2, pu_x3, pu_x4, pu_x5, pu_x6, pu_x7, pu_x8, Nat.zero_add, pu_m31I, pu_m31, pu_shlI, eq_self, Bool.false_eq_true, Bool.true_eq_false, h1, Option.isSome]
    · have h1 := h.2.2.1.1
      rw [e] at h1
      unfold f_X12_back
      simp (disch := omega) only [pv_v, pv_b2, pv_b1, pv_x, pv_lit, pv_ofN, pu_chk, pu_cl, nI_add, pk_mul, nI_leI, nI_ltI, nI_eq, pu_nar0, pu_nar1, pu_narb, bI_0, bI_1, ↓reduceIte, pu_leT, pu_leF, pu_ltT, pu_ltF, pu_eqT, pu_eqF, pu_x1, pu_x2, pu_x3, pu_x4, pu_x5, pu_x6, pu_x7, pu_x8, Nat.zero_add, pu_m31I, pu_m31, pu_shlI, eq_self, Bool.false_eq_true, Bool.true_eq_false, h1, Option.isSome]
  | some a =>
    refine Both.mk (j := j) (fd := fd) (z := z) (o := o) (· = nI (kc a.1)) (fun a b h1 h2 => by rw [h1, h2]) fd (a.1, z.2.1, a.2.1, a.2.2, 0) o (fun h => ⟨h.up.2 a e, h.up.2⟩) (fun w h => ?_) (fun w h => ?_) (fun h h0 => absurd e (by rw [(h h0).2.2]; exact fun h => by cases h)) w hc hr hb hnf
    · have h1 := h.2.2.1
      rw [e] at h1
      obtain ⟨⟨q, w'⟩, e1, q1, q2, q3, q5⟩ := c_back h.1 h1
      exact ⟨(q, w'), e1, q1, ⟨q2, h.2.fr (fun q hq => q5.1 q (by simp only [List.mem_cons, List.not_mem_nil, or_false]; omega)) (q5.2.1 _ (by decide))⟩, q5.C (by decide) (by decide)⟩
    · have h1 := h.2.2.1
      rw [e] at h1
      obtain ⟨⟨q, w'⟩, e1, q1, q2, q3, q4, q5⟩ := r_back h.1 h1 z.2.1
      exact ⟨(q, w'), e1, q1, ⟨q2, h.2.fr (fun k hk => q4 k (by omega)) (fun q hq => q5.2 q (by simp only [List.mem_cons, List.not_mem_nil, or_false]; omega))⟩, q5.kR (by decide)⟩
theorem CI.run (h : CI fd z o w) (hz : cZ fd z w') (hx : eqE w w') : CI fd z o w' ∧ fC w w' := ⟨⟨hz, h.2.fr (fun q hq => hx.1 q (by simp only [List.mem_cons, List.not_mem_nil, or_false]; omega)) (hx.2.1 35 (by decide))⟩, eqy.C hx (by decide) (by decide)⟩
theorem RI.run (h : RI fd z o w) (hz : rZ fd z w') (hx : eqS w w') : RI fd z o w' ∧ fR w w' := ⟨⟨hz, h.2.fr (fun k _ => by rw [hx.1 271 (by decide)]) (fun q hq => hx.1 q (by simp only [List.mem_cons, List.not_mem_nil, or_false]; omega))⟩, hx.R⟩
theorem both_run (a b : Int32) : Both j fd z o (fun a b => a = b) (f_X11_run a b) (f_X12_run a b) := by
  intro w hc hr hb hnf
  have h4 : o.2.2.1.1 ≤ 4 := hc.2.2.2.1.1
  cases e : ix o.2.2.1.1 a with
  | none =>
    refine Both.val (-nI 1000000) rfl (fun w h => ?_) (fun w h => ?_) w hc hr hb hnf
    · have := h.noS a
      rw [e] at this
      unfold f_X11_run f_X11_run_24
      simp (disch := omega) only [pv_v, pv_b2, pv_b1, pv_x, pv_lit, pv_ofN, pu_chk, pu_cl, nI_add, pk_mul, nI_leI, nI_ltI, nI_eq, pu_nar0, pu_nar1, pu_narb, bI_0, bI_1, ↓reduceIte, pu_leT, pu_leF, pu_ltT, pu_ltF, pu_eqT, pu_eqF, pu_x1, pu_x2, pu_x3, pu_x4, pu_x5, pu_x6, pu_x7, pu_x8, Nat.zero_add, pu_m31I, pu_m31, pu_shlI, eq_self, Bool.false_eq_true, Bool.true_eq_false, this, Option.isNone]
    · have := h.isS a
      rw [e] at this
      unfold f_X12_run f_X12_run_24
      simp (disch := omega) only [pv_v, pv_b2, pv_b1, pv_x, pv_lit, pv_ofN, pu_chk, pu_cl, nI_add, pk_mul, nI_leI, nI_ltI, nI_eq, pu_nar0, pu_nar1, pu_narb, bI_0, bI_1, ↓reduceIte, pu_leT, pu_leF, pu_ltT, pu_ltF, pu_eqT, pu_eqF, pu_x1, pu_x2, pu_x3, pu_x4, pu_x5, pu_x6, pu_x7, pu_x8, Nat.zero_add, pu_m31I, pu_m31, pu_shlI, eq_self, Bool.false_eq_true, Bool.true_eq_false, this, Option.isSome]
  | some t =>
    obtain ⟨t1, t2, t3⟩ := ix_s e
    subst t2
    rcases Nat.eq_zero_or_pos (fd 0 0) with n0 | n0
    · refine Both.val (-nI 1000000) rfl (fun w h => ?_) (fun w h => ?_) w hc hr hb hnf
      · have := h.noS (nI t)
        rw [e] at this
        unfold f_X11_run f_X11_run_24
        simp (disch := omega) only [pv_v, pv_b2, pv_b1, pv_x, pv_lit, pv_ofN, pu_chk, pu_cl, nI_add, pk_mul, nI_leI, nI_ltI, nI_eq, pu_nar0, pu_nar1, pu_narb, bI_0, bI_1, ↓reduceIte, pu_leT, pu_leF, pu_ltT, pu_ltF, pu_eqT, pu_eqF, pu_x1, pu_x2, pu_x3, pu_x4, pu_x5, pu_x6, pu_x7, pu_x8, Nat.zero_add, pu_m31I, pu_m31, pu_shlI, eq_self, Bool.false_eq_true, Bool.true_eq_false, this, Option.isNone, h.n0 n0]
      · have := h.isS (nI t)
        rw [e] at this
        unfold f_X12_run f_X12_run_24
        simp (disch := omega) only [pv_v, pv_b2, pv_b1, pv_x, pv_lit, pv_ofN, pu_chk, pu_cl, nI_add, pk_mul, nI_leI, nI_ltI, nI_eq, pu_nar0, pu_nar1, pu_narb, bI_0, bI_1, ↓reduceIte, pu_leT, pu_leF, pu_ltT, pu_ltF, pu_eqT, pu_eqF, pu_x1, pu_x2, pu_x3, pu_x4, pu_x5, pu_x6, pu_x7, pu_x8, Nat.zero_add, pu_m31I, pu_m31, pu_shlI, eq_self, Bool.false_eq_true, Bool.true_eq_false, this, Option.isSome, h.n0 n0]
    · rcases rng b 0 1 (by omega) (by omega) with ⟨s, s1, s2, s3⟩ | ⟨s1, s2, s3⟩ | ⟨s1, s2, s3, s4, s5, s6, s7⟩
      · subst s3
        refine Both.mk (j := j) (fd := fd) (z := z) (o := o) (· = gV fd (o.2.2.1.2 t).2.1 (o.2.2.1.2 t).2.2 (o.2.2.1.2 t).1 z.1 s) (fun a b h1 h2 => by rw [h1, h2]) fd z o bn.up (fun w h => ?_) (fun w h => ?_) (fun h => h) w hc hr hb hnf
        · have hs := h.2.2.2.1.2.2 t t1
          have hn := h.noS (nI t)
          rw [e] at hn
          obtain ⟨q, e1, q1, q2, q3⟩ := c_run h.1 (n := t) (by omega) n0 hs.1 hs.2 hn (t := s) (by omega)
          exact ⟨q, e1, q1, h.run q2 q3⟩
        · have hs := h.2.2.2.1.2.2 t t1
          have hn := h.isS (nI t)
          rw [e] at hn
          obtain ⟨q, e1, q1, q2, q3⟩ := r_run h.1 (n := t) (by omega) n0 hs.1 hs.2 hn (t := s) (by omega)
          exact ⟨q, e1, q1, h.run q2 q3⟩
      · refine Both.val (-nI 1000000) rfl (fun w h => ?_) (fun w h => ?_) w hc hr hb hnf
        · have := h.noS (nI t)
          rw [e] at this
          unfold f_X11_run f_X11_run_24
          simp (disch := omega) only [pv_v, pv_b2, pv_b1, pv_x, pv_lit, pv_ofN, pu_chk, pu_cl, nI_add, pk_mul, nI_leI, nI_ltI, nI_eq, pu_nar0, pu_nar1, pu_narb, bI_0, bI_1, ↓reduceIte, pu_leT, pu_leF, pu_ltT, pu_ltF, pu_eqT, pu_eqF, pu_x1, pu_x2, pu_x3, pu_x4, pu_x5, pu_x6, pu_x7, pu_x8, Nat.zero_add, pu_m31I, pu_m31, pu_shlI, eq_self, Bool.false_eq_true, Bool.true_eq_false, this, Option.isNone, h.n1 n0, s1]
        · have := h.isS (nI t)
          rw [e] at this
          unfold f_X12_run f_X12_run_24
          simp (disch := omega) only [pv_v, pv_b2, pv_b1, pv_x, pv_lit, pv_ofN, pu_chk, pu_cl, nI_add, pk_mul, nI_leI, nI_ltI, nI_eq, pu_nar0, pu_nar1, pu_narb, bI_0, bI_1, ↓reduceIte, pu_leT, pu_leF, pu_ltT, pu_ltF, pu_eqT, pu_eqF, pu_x1, pu_x2, pu_x3, pu_x4, pu_x5, pu_x6, pu_x7, pu_x8, Nat.zero_add, pu_m31I, pu_m31, pu_shlI, eq_self, Bool.false_eq_true, Bool.true_eq_false, this, Option.isSome, h.n1 n0, r_inL s1]
      · refine Both.val (-nI 1000000) rfl (fun w h => ?_) (fun w h => ?_) w hc hr hb hnf
        · have := h.noS (nI t)
          rw [e] at this
          unfold f_X11_run f_X11_run_24
          simp (disch := omega) only [pv_v, pv_b2, pv_b1, pv_x, pv_lit, pv_ofN, pu_chk, pu_cl, nI_add, pk_mul, nI_leI, nI_ltI, nI_eq, pu_nar0, pu_nar1, pu_narb, bI_0, bI_1, ↓reduceIte, pu_leT, pu_leF, pu_ltT, pu_ltF, pu_eqT, pu_eqF, pu_x1, pu_x2, pu_x3, pu_x4, pu_x5, pu_x6, pu_x7, pu_x8, Nat.zero_add, pu_m31I, pu_m31, pu_shlI, eq_self, Bool.false_eq_true, Bool.true_eq_false, this, Option.isNone, h.n1 n0, s1, s3]
        · have := h.isS (nI t)
          rw [e] at this
          unfold f_X12_run f_X12_run_24
          simp (disch := omega) only [pv_v, pv_b2, pv_b1, pv_x, pv_lit, pv_ofN, pu_chk, pu_cl, nI_add, pk_mul, nI_leI, nI_ltI, nI_eq, pu_nar0, pu_nar1, pu_narb, bI_0, bI_1, ↓reduceIte, pu_leT, pu_leF, pu_ltT, pu_ltF, pu_eqT, pu_eqF, pu_x1, pu_x2, pu_x3, pu_x4, pu_x5, pu_x6, pu_x7, pu_x8, Nat.zero_add, pu_m31I, pu_m31, pu_shlI, eq_self, Bool.false_eq_true, Bool.true_eq_false, this, Option.isSome, h.n1 n0, r_inH s1 s4]
end CALLS
