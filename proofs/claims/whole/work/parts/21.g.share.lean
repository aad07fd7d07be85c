/-! pure part: SHARE, LIMIT as calls (wip/whole/pure/21.g.share.src) -/
section SHARE2
variable {fd : Nat → Nat → Nat} {z z' : Zt} {o o' : Ot} {w w' w0 : am_S} {j : Nat}
theorem dI_lt {x : UInt64} (h : x.toNat ≤ 4607182418800017408) : x.toNat < fp_I Jvm.FP.Core.b64 := by
  rw [dI_v]; omega
theorem c_mult {a b : UInt64} {t : Nat} (ht : t < 100) (hb : b.toNat ≤ 4607182418800017408) (ha : a.toNat < fp_I Jvm.FP.Core.b64) : f_X5_multiplied a b (nI t) w = some (dpw a b t, w) := by
  unfold f_X5_multiplied f_X5_multiplied_6
  refine pu_tr (fun i => (dpw a b i, nI i, w)) t rfl (by omega) (fun i hi => ?_) ?_
  · have h1 : (FP.dmul (dpw a b i) b).toNat < fp_I Jvm.FP.Core.b64 := Nat.lt_of_le_of_lt (dpw_le ha hb (i + 1)) ha
    unfold f_X5_multiplied_6b
    simp (disch := omega) only [pv_v, pv_b2, pv_b1, pv_x, pv_lit, pv_ofN, pu_chk, pu_cl, nI_add, pk_mul, nI_leI, nI_ltI, nI_eq, pu_nar0, pu_nar1, pu_narb, bI_0, bI_1, ↓reduceIte, pu_leT, pu_leF, pu_ltT, pu_ltF, pu_eqT, pu_eqF, pu_x1, pu_x2, pu_x3, pu_x4, pu_x5, pu_x6, pu_x7, pu_x8, Nat.zero_add, pu_m31I, pu_m31, pu_shlI, eq_self, Bool.false_eq_true, Bool.true_eq_false, dn_ok h1]
    rfl
  · unfold f_X5_multiplied_6b
    simp (disch := omega) only [pv_v, pv_b2, pv_b1, pv_x, pv_lit, pv_ofN, pu_chk, pu_cl, nI_add, pk_mul, nI_leI, nI_ltI, nI_eq, pu_nar0, pu_nar1, pu_narb, bI_0, bI_1, ↓reduceIte, pu_leT, pu_leF, pu_ltT, pu_ltF, pu_eqT, pu_eqF, pu_x1, pu_x2, pu_x3, pu_x4, pu_x5, pu_x6, pu_x7, pu_x8, Nat.zero_add, pu_m31I, pu_m31, pu_shlI, eq_self, Bool.false_eq_true, Bool.true_eq_false]
theorem c_allCopies (hF : wF fd) (h7 : ∀ k, 1 ≤ k → k ≤ 6 → w.1 18 k = nI (fd 4 k)) : f_X5_allCopies w = some (nI (dC fd 6), w) := by
  obtain ⟨c1, c2, c3⟩ := dC_le hF
  unfold f_X5_allCopies f_X5_allCopies_4
  refine pu_tr (fun i => (nI (dC fd i), nI (i + 1), w)) 6 rfl (by omega) (fun i hi => ?_) ?_
  · have h1 := h7 (i + 1) (by omega) (by omega)
    have h2 := hF.2.2.2.2.2.2.1 (i + 1)
    have h3 := kw_le hF (k := i) hi
    have h4 := c3 i (by omega)
    unfold f_X5_allCopies_4b
    simp (disch := omega) only [pv_v, pv_b2, pv_b1, pv_x, pv_lit, pv_ofN, pu_chk, pu_cl, nI_add, pk_mul, nI_leI, nI_ltI, nI_eq, pu_nar0, pu_nar1, pu_narb, bI_0, bI_1, ↓reduceIte, pu_leT, pu_leF, pu_ltT, pu_ltF, pu_eqT, pu_eqF, pu_x1, pu_x2, pu_x3, pu_x4, pu_x5, pu_x6, pu_x7, pu_x8, Nat.zero_add, pu_m31I, pu_m31, pu_shlI, eq_self, Bool.false_eq_true, Bool.true_eq_false, h1]
    rfl
  · unfold f_X5_allCopies_4b
    simp (disch := omega) only [pv_v, pv_b2, pv_b1, pv_x, pv_lit, pv_ofN, pu_chk, pu_cl, nI_add, pk_mul, nI_leI, nI_ltI, nI_eq, pu_nar0, pu_nar1, pu_narb, bI_0, bI_1, ↓reduceIte, pu_leT, pu_leF, pu_ltT, pu_ltF, pu_eqT, pu_eqF, pu_x1, pu_x2, pu_x3, pu_x4, pu_x5, pu_x6, pu_x7, pu_x8, Nat.zero_add, pu_m31I, pu_m31, pu_shlI, eq_self, Bool.false_eq_true, Bool.true_eq_false]
theorem r_timesOfAll (hF : wF fd) (h7 : ∀ k, 1 ≤ k → k ≤ 6 → w.1 278 k = nI (fd 4 k)) : f_X12_timesOfAll w = some (nI (dC fd 6), w) := by
  obtain ⟨c1, c2, c3⟩ := dC_le hF
  unfold f_X12_timesOfAll f_X12_timesOfAll_4
  refine pu_tr (fun i => (nI (dC fd i), nI (i + 1), w)) 6 rfl (by omega) (fun i hi => ?_) ?_
  · have h1 := h7 (i + 1) (by omega) (by omega)
    have h2 := hF.2.2.2.2.2.2.1 (i + 1)
    have h3 := kw_le hF (k := i) hi
    have h4 := c3 i (by omega)
    unfold f_X12_timesOfAll_4b
    simp (disch := omega) only [pv_v, pv_b2, pv_b1, pv_x, pv_lit, pv_ofN, pu_chk, pu_cl, nI_add, pk_mul, nI_leI, nI_ltI, nI_eq, pu_nar0, pu_nar1, pu_narb, bI_0, bI_1, ↓reduceIte, pu_leT, pu_leF, pu_ltT, pu_ltF, pu_eqT, pu_eqF, pu_x1, pu_x2, pu_x3, pu_x4, pu_x5, pu_x6, pu_x7, pu_x8, Nat.zero_add, pu_m31I, pu_m31, pu_shlI, eq_self, Bool.false_eq_true, Bool.true_eq_false, h1]
    rfl
  · unfold f_X12_timesOfAll_4b
    simp (disch := omega) only [pv_v, pv_b2, pv_b1, pv_x, pv_lit, pv_ofN, pu_chk, pu_cl, nI_add, pk_mul, nI_leI, nI_ltI, nI_eq, pu_nar0, pu_nar1, pu_narb, bI_0, bI_1, ↓reduceIte, pu_leT, pu_leF, pu_ltT, pu_ltF, pu_eqT, pu_eqF, pu_x1, pu_x2, pu_x3, pu_x4, pu_x5, pu_x6, pu_x7, pu_x8, Nat.zero_add, pu_m31I, pu_m31, pu_shlI, eq_self, Bool.false_eq_true, Bool.true_eq_false]
theorem c_reach (hF : wF fd) (hW : pu_W fd ≠ 0) (h : cF fd w) : f_X5_reach w = some (dR fd, w) := by
  have n0 := W_n hF hW
  have hS := (hF.2.2.2.1 n0).1
  have hS2 := hF.2.1
  have hWl := W_le hF
  have hI := dI_v
  obtain ⟨x1, x2⟩ := dX_ok hF hW
  have h1 : w.1 11 13 = nI (pu_W fd) := h.2.2.2.2.1
  have h2 : w.1 11 7 = nI (fd 0 1) := h.2.1
  have h3 := c_allCopies hF h.2.2.2.2.2.2
  have h4 : (Op.cmpValue (FP.dcmp (dX fd) FP.dconst1) .l ≤ nI 0) = ((dX fd).toNat ≤ 4607182418800017408) := by
    rw [dc_le (by omega) (by rw [ds_c1]; omega), ds_c1]
  have h5 : FP.ddiv (FP.ddiv (FP.i2d (nI (dC fd 6))) (FP.i2d (nI (pu_W fd)))) (FP.i2d (nI (fd 0 1))) = dX fd := rfl
  unfold f_X5_reach f_X5_reach_59 dR
  simp (disch := omega) only [pv_v, pv_b2, pv_b1, pv_x, pv_lit, pv_ofN, pu_chk, pu_cl, nI_add, pk_mul, nI_leI, nI_ltI, nI_eq, pu_nar0, pu_nar1, pu_narb, bI_0, bI_1, ↓reduceIte, pu_leT, pu_leF, pu_ltT, pu_ltF, pu_eqT, pu_eqF, pu_x1, pu_x2, pu_x3, pu_x4, pu_x5, pu_x6, pu_x7, pu_x8, Nat.zero_add, pu_m31I, pu_m31, pu_shlI, eq_self, Bool.false_eq_true, Bool.true_eq_false, h1, h2, h3, dn_ok (show (FP.ddiv (FP.i2d (nI (dC fd 6))) (FP.i2d (nI (pu_W fd)))).toNat < fp_I Jvm.FP.Core.b64 by omega), h5, dn_ok (show (dX fd).toNat < fp_I Jvm.FP.Core.b64 by omega), h4]
  split
  · rfl
  · rfl
theorem c_sbh (hF : wF fd) (hW : pu_W fd ≠ 0) (h : cF fd w) {hd : UInt64} (hh : hd.toNat ≤ 4607182418800017408) (hq : (FP.ddiv (dsm fd hd 6) (FP.i2d (nI (dC fd 6)))).toNat < fp_I Jvm.FP.Core.b64) : f_X5_shareByHold hd w = some (FP.ddiv (dsm fd hd 6) (FP.i2d (nI (dC fd 6))), w) := by
  obtain ⟨c1, c2, c3⟩ := dC_le hF
  have c2 := c2 hW
  unfold f_X5_shareByHold f_X5_shareByHold_11
  simp (disch := omega) only [pv_v, pv_b2, pv_b1, pv_x, pv_lit, pv_ofN, pu_chk, pu_cl, nI_add, pk_mul, nI_leI, nI_ltI, nI_eq, pu_nar0, pu_nar1, pu_narb, bI_0, bI_1, ↓reduceIte, pu_leT, pu_leF, pu_ltT, pu_ltF, pu_eqT, pu_eqF, pu_x1, pu_x2, pu_x3, pu_x4, pu_x5, pu_x6, pu_x7, pu_x8, Nat.zero_add, pu_m31I, pu_m31, pu_shlI, eq_self, Bool.false_eq_true, Bool.true_eq_false, c_allCopies hF h.2.2.2.2.2.2]
  refine pu_tr (fun i => (dsm fd hd i, nI (i + 1), w)) 6 rfl (by omega) (fun i hi => ?_) ?_
  · have h1 := h.2.2.2.2.2.2 (i + 1) (by omega) (by omega)
    have h2 := hF.2.2.2.2.2.2.1 (i + 1)
    have h3 := kw_le hF (k := i) hi
    have hs : (dsm fd hd (i + 1)).toNat < fp_I Jvm.FP.Core.b64 := Nat.lt_of_le_of_lt (dsm_le hF hh (i + 1) (by omega)) (id_v (by have := c3 (i + 1) (by omega); omega)).2
    have e0 : dsm fd hd (i + 1) = if fd 4 (i + 1) = 0 then dsm fd hd i else FP.dadd (dsm fd hd i) (dpw (FP.i2d (nI ((i + 1) * fd 4 (i + 1)))) hd i) := rfl
    unfold f_X5_shareByHold_11b f_X5_shareByHold_58
    by_cases c : fd 4 (i + 1) = 0
    · rw [if_pos c] at e0
      rw [c] at h1
      rw [e0]
      simp (disch := omega) only [pv_v, pv_b2, pv_b1, pv_x, pv_lit, pv_ofN, pu_chk, pu_cl, nI_add, pk_mul, nI_leI, nI_ltI, nI_eq, pu_nar0, pu_nar1, pu_narb, bI_0, bI_1, ↓reduceIte, pu_leT, pu_leF, pu_ltT, pu_ltF, pu_eqT, pu_eqF, pu_x1, pu_x2, pu_x3, pu_x4, pu_x5, pu_x6, pu_x7, pu_x8, Nat.zero_add, pu_m31I, pu_m31, pu_shlI, eq_self, Bool.false_eq_true, Bool.true_eq_false, h1]
    · rw [if_neg c] at e0
      rw [e0] at hs
      rw [e0]
      simp (disch := omega) only [pv_v, pv_b2, pv_b1, pv_x, pv_lit, pv_ofN, pu_chk, pu_cl, nI_add, pk_mul, nI_leI, nI_ltI, nI_eq, pu_nar0, pu_nar1, pu_narb, bI_0, bI_1, ↓reduceIte, pu_leT, pu_leF, pu_ltT, pu_ltF, pu_eqT, pu_eqF, pu_x1, pu_x2, pu_x3, pu_x4, pu_x5, pu_x6, pu_x7, pu_x8, Nat.zero_add, pu_m31I, pu_m31, pu_shlI, eq_self, Bool.false_eq_true, Bool.true_eq_false, h1, pk_sub, Nat.add_sub_cancel, c_mult (w := w) (a := FP.i2d (nI ((i + 1) * fd 4 (i + 1)))) (b := hd) (t := i) (by omega) hh (id_v (by omega)).2, dn_ok hs]
  · unfold f_X5_shareByHold_11b f_X5_shareByHold_77
    simp (disch := omega) only [pv_v, pv_b2, pv_b1, pv_x, pv_lit, pv_ofN, pu_chk, pu_cl, nI_add, pk_mul, nI_leI, nI_ltI, nI_eq, pu_nar0, pu_nar1, pu_narb, bI_0, bI_1, ↓reduceIte, pu_leT, pu_leF, pu_ltT, pu_ltF, pu_eqT, pu_eqF, pu_x1, pu_x2, pu_x3, pu_x4, pu_x5, pu_x6, pu_x7, pu_x8, Nat.zero_add, pu_m31I, pu_m31, pu_shlI, eq_self, Bool.false_eq_true, Bool.true_eq_false, dn_ok hq]
theorem c_shareOf (hF : wF fd) (hW : pu_W fd ≠ 0) (h : cF fd w) {m l : Nat} (hm : 1 ≤ m) (hm2 : m ≤ 60) (hl : l ≤ 40) : f_X5_shareOf (nI m) (nI l) w = some (dSh fd m l, w) := by
  have hI := dI_v
  apply Wp.eq
  unfold f_X5_shareOf f_X5_shareOf_11
  conv => arg 1; simp (disch := omega) only [pv_v, pv_b2, pv_b1, pv_x, pv_lit, pv_ofN, pu_chk, pu_cl, nI_add, pk_mul, nI_leI, nI_ltI, nI_eq, pu_nar0, pu_nar1, pu_narb, bI_0, bI_1, ↓reduceIte, pu_leT, pu_leF, pu_ltT, pu_ltF, pu_eqT, pu_eqF, pu_x1, pu_x2, pu_x3, pu_x4, pu_x5, pu_x6, pu_x7, pu_x8, Nat.zero_add, pu_m31I, pu_m31, pu_shlI, eq_self, Bool.false_eq_true, Bool.true_eq_false, c_reach hF hW h]
  refine Wp.loop (fun i s => s = (dSh fd m i, nI i, w)) l (by omega) rfl (fun i s hi hs => ?_)
  subst hs
  by_cases hN : i = l
  · subst hN
    refine ⟨.inl (dSh fd m i, w), ?_, rfl⟩
    unfold f_X5_shareOf_11b
    simp (disch := omega) only [pv_v, pv_b2, pv_b1, pv_x, pv_lit, pv_ofN, pu_chk, pu_cl, nI_add, pk_mul, nI_leI, nI_ltI, nI_eq, pu_nar0, pu_nar1, pu_narb, bI_0, bI_1, ↓reduceIte, pu_leT, pu_leF, pu_ltT, pu_ltF, pu_eqT, pu_eqF, pu_x1, pu_x2, pu_x3, pu_x4, pu_x5, pu_x6, pu_x7, pu_x8, Nat.zero_add, pu_m31I, pu_m31, pu_shlI, eq_self, Bool.false_eq_true, Bool.true_eq_false]
  · have s1 := dSh_ok hF hW m i
    have s2 := dSh_ok hF hW m (i + 1)
    obtain ⟨f1, f2⟩ := dF_le (fd := fd) s1.1
    obtain ⟨g1, g2, g3⟩ := dH_le (fd := fd) s1.1 m
    have e1 := c_mult (w := w) (a := FP.dconst1) (b := dF fd (dSh fd m i)) (t := m - 1) (by omega) f2 (by rw [ds_c1]; omega)
    have e2 := c_sbh hF hW h (hd := dH fd m (dSh fd m i)) g2 (dI_lt s2.1)
    have e2 : f_X5_shareByHold (dH fd m (dSh fd m i)) w = some (dSh fd m (i + 1), w) := e2
    have e3 := dc_e (a := dSh fd m (i + 1)) (b := dSh fd m i) (dI_lt s2.1) (dI_lt s1.1)
    have hdF : FP.dsub FP.dconst1 (FP.dmul (dR fd) (dSh fd m i)) = dF fd (dSh fd m i) := rfl
    have hdH : FP.dsub FP.dconst1 (dpw FP.dconst1 (dF fd (dSh fd m i)) (m - 1)) = dH fd m (dSh fd m i) := rfl
    by_cases c : (dSh fd m (i + 1)).toNat = (dSh fd m i).toNat
    · have hfx : dSh fd m (i + 1) = dSh fd m i := UInt64.toNat_inj.mp c
      have hfin : dSh fd m l = dSh fd m i := by
        have := dSh_fix hfx (l - i)
        rwa [show i + (l - i) = l by omega] at this
      refine ⟨.inl (dSh fd m i, w), ?_, by rw [hfin]; rfl⟩
      unfold f_X5_shareOf_11b
      simp (disch := omega) only [pv_v, pv_b2, pv_b1, pv_x, pv_lit, pv_ofN, pu_chk, pu_cl, nI_add, pk_mul, nI_leI, nI_ltI, nI_eq, pu_nar0, pu_nar1, pu_narb, bI_0, bI_1, ↓reduceIte, pu_leT, pu_leF, pu_ltT, pu_ltF, pu_eqT, pu_eqF, pu_x1, pu_x2, pu_x3, pu_x4, pu_x5, pu_x6, pu_x7, pu_x8, Nat.zero_add, pu_m31I, pu_m31, pu_shlI, eq_self, Bool.false_eq_true, Bool.true_eq_false, dn_ok (dI_lt f1), hdF, dn_ok (dI_lt f2), pk_sub, e1, hdH, dn_ok (dI_lt g2), e2, e3, c]
    · refine ⟨.inr (dSh fd m (i + 1), nI (i + 1), w), ?_, by omega, rfl⟩
      unfold f_X5_shareOf_11b
      simp (disch := omega) only [pv_v, pv_b2, pv_b1, pv_x, pv_lit, pv_ofN, pu_chk, pu_cl, nI_add, pk_mul, nI_leI, nI_ltI, nI_eq, pu_nar0, pu_nar1, pu_narb, bI_0, bI_1, ↓reduceIte, pu_leT, pu_leF, pu_ltT, pu_ltF, pu_eqT, pu_eqF, pu_x1, pu_x2, pu_x3, pu_x4, pu_x5, pu_x6, pu_x7, pu_x8, Nat.zero_add, pu_m31I, pu_m31, pu_shlI, eq_self, Bool.false_eq_true, Bool.true_eq_false, dn_ok (dI_lt f1), hdF, dn_ok (dI_lt f2), pk_sub, e1, hdH, dn_ok (dI_lt g2), e2, e3, c]
theorem pick_R {x : UInt64} (hx : x.toNat < 9218868437227405312) : Native.java_lang_Math.nans.pick64 false FP.dconst1 x = if x.toNat ≤ 4607182418800017408 then x else FP.dconst1 := by
  have hI := dI_v
  unfold Native.java_lang_Math.nans.pick64
  rw [dc_v (a := FP.dconst1) (b := x) (by rw [ds_c1]; omega) (by omega), ds_c1]
  rcases Nat.lt_trichotomy 4607182418800017408 x.toNat with c | c | c
  · rw [Nat.compare_eq_lt.mpr c]
    exact (if_neg (show ¬ x.toNat ≤ 4607182418800017408 by omega)).symm
  · rw [Nat.compare_eq_eq.mpr c]
    refine Eq.trans ?_ (if_pos (show x.toNat ≤ 4607182418800017408 by omega)).symm
    show (if ((FP.dconst1 >>> 63 == 1) == false) = true then x else FP.dconst1) = x
    rw [if_pos (by decide)]
  · rw [Nat.compare_eq_gt.mpr c]
    exact (if_pos (show x.toNat ≤ 4607182418800017408 by omega)).symm
theorem dnan {x : UInt64} (h : x.toNat < fp_I Jvm.FP.Core.b64) : FP.dIsNaN x = false := by
  obtain ⟨c, q, e, _⟩ := fp_dec fp_ok64 h
  show decide (Jvm.FP.Core.decode Jvm.FP.Core.b64 x.toNat = .nan) = false
  rw [e]
  exact decide_eq_false (fun h => by cases h)
theorem r_108 (hF : wF fd) (h7 : ∀ k, 1 ≤ k → k ≤ 6 → w.1 278 k = nI (fd 4 k)) {hd x5 : UInt64} (hh : hd.toNat ≤ 4607182418800017408) {a1 a2 x9 : Int32} {i : Nat} (hi : i < 6) : f_X12_shareOf_108 a1 a2 x5 x9 hd (dsm fd hd i) (nI (i + 1)) (FP.i2d (nI ((i + 1) * fd 4 (i + 1)))) (nI 1) w = some (.inr (dsm fd hd (i + 1), nI (i + 1 + 1), w)) := by
  obtain ⟨c1, c2, c3⟩ := dC_le hF
  have h1 := h7 (i + 1) (by omega) (by omega)
  have h2 := hF.2.2.2.2.2.2.1 (i + 1)
  have h3 := kw_le hF (k := i) hi
  have hid := (id_v (n := (i + 1) * fd 4 (i + 1)) (by omega)).2
  unfold f_X12_shareOf_108
  refine pu_tr (fun e => (dpw (FP.i2d (nI ((i + 1) * fd 4 (i + 1)))) hd e, nI (e + 1), w)) i rfl (by omega) (fun e he => ?_) ?_
  · have h4 : (FP.dmul (dpw (FP.i2d (nI ((i + 1) * fd 4 (i + 1)))) hd e) hd).toNat < fp_I Jvm.FP.Core.b64 := Nat.lt_of_le_of_lt (dpw_le hid hh (e + 1)) hid
    unfold f_X12_shareOf_108b
    simp (disch := omega) only [pv_v, pv_b2, pv_b1, pv_x, pv_lit, pv_ofN, pu_chk, pu_cl, nI_add, pk_mul, nI_leI, nI_ltI, nI_eq, pu_nar0, pu_nar1, pu_narb, bI_0, bI_1, ↓reduceIte, pu_leT, pu_leF, pu_ltT, pu_ltF, pu_eqT, pu_eqF, pu_x1, pu_x2, pu_x3, pu_x4, pu_x5, pu_x6, pu_x7, pu_x8, Nat.zero_add, pu_m31I, pu_m31, pu_shlI, eq_self, Bool.false_eq_true, Bool.true_eq_false, dn_ok h4]
    rfl
  · have hs : (dsm fd hd (i + 1)).toNat < fp_I Jvm.FP.Core.b64 := Nat.lt_of_le_of_lt (dsm_le hF hh (i + 1) (by omega)) (id_v (by have := c3 (i + 1) (by omega); omega)).2
    have e0 : dsm fd hd (i + 1) = if fd 4 (i + 1) = 0 then dsm fd hd i else FP.dadd (dsm fd hd i) (dpw (FP.i2d (nI ((i + 1) * fd 4 (i + 1)))) hd i) := rfl
    unfold f_X12_shareOf_108b f_X12_shareOf_148
    by_cases c : fd 4 (i + 1) = 0
    · rw [if_pos c] at e0
      rw [c] at h1
      rw [e0]
      simp (disch := omega) only [pv_v, pv_b2, pv_b1, pv_x, pv_lit, pv_ofN, pu_chk, pu_cl, nI_add, pk_mul, nI_leI, nI_ltI, nI_eq, pu_nar0, pu_nar1, pu_narb, bI_0, bI_1, ↓reduceIte, pu_leT, pu_leF, pu_ltT, pu_ltF, pu_eqT, pu_eqF, pu_x1, pu_x2, pu_x3, pu_x4, pu_x5, pu_x6, pu_x7, pu_x8, Nat.zero_add, pu_m31I, pu_m31, pu_shlI, eq_self, Bool.false_eq_true, Bool.true_eq_false, h1]
    · rw [if_neg c] at e0
      rw [e0] at hs
      rw [e0]
      simp (disch := omega) only [pv_v, pv_b2, pv_b1, pv_x, pv_lit, pv_ofN, pu_chk, pu_cl, nI_add, pk_mul, nI_leI, nI_ltI, nI_eq, pu_nar0, pu_nar1, pu_narb, bI_0, bI_1, ↓reduceIte, pu_leT, pu_leF, pu_ltT, pu_ltF, pu_eqT, pu_eqF, pu_x1, pu_x2, pu_x3, pu_x4, pu_x5, pu_x6, pu_x7, pu_x8, Nat.zero_add, pu_m31I, pu_m31, pu_shlI, eq_self, Bool.false_eq_true, Bool.true_eq_false, h1, dn_ok hs]
theorem r_85 (hF : wF fd) (h7 : ∀ k, 1 ≤ k → k ≤ 6 → w.1 278 k = nI (fd 4 k)) {hd x5 : UInt64} (hh : hd.toNat ≤ 4607182418800017408) (hq : (FP.ddiv (dsm fd hd 6) (FP.i2d (nI (dC fd 6)))).toNat < fp_I Jvm.FP.Core.b64) {a1 a2 x9 : Int32} : f_X12_shareOf_85 a1 a2 x5 x9 hd FP.dconst0 (nI 1) w = some (.inr (FP.ddiv (dsm fd hd 6) (FP.i2d (nI (dC fd 6))), x9 + nI 1, w)) := by
  unfold f_X12_shareOf_85
  refine pu_tr (fun i => (dsm fd hd i, nI (i + 1), w)) 6 rfl (by omega) (fun i hi => ?_) ?_
  · have h1 := h7 (i + 1) (by omega) (by omega)
    have h2 := hF.2.2.2.2.2.2.1 (i + 1)
    have h3 := kw_le hF (k := i) hi
    unfold f_X12_shareOf_85b
    simp (disch := omega) only [pv_v, pv_b2, pv_b1, pv_x, pv_lit, pv_ofN, pu_chk, pu_cl, nI_add, pk_mul, nI_leI, nI_ltI, nI_eq, pu_nar0, pu_nar1, pu_narb, bI_0, bI_1, ↓reduceIte, pu_leT, pu_leF, pu_ltT, pu_ltF, pu_eqT, pu_eqF, pu_x1, pu_x2, pu_x3, pu_x4, pu_x5, pu_x6, pu_x7, pu_x8, Nat.zero_add, pu_m31I, pu_m31, pu_shlI, eq_self, Bool.false_eq_true, Bool.true_eq_false, h1, r_108 hF h7 hh hi]
  · unfold f_X12_shareOf_85b
    simp (disch := omega) only [pv_v, pv_b2, pv_b1, pv_x, pv_lit, pv_ofN, pu_chk, pu_cl, nI_add, pk_mul, nI_leI, nI_ltI, nI_eq, pu_nar0, pu_nar1, pu_narb, bI_0, bI_1, ↓reduceIte, pu_leT, pu_leF, pu_ltT, pu_ltF, pu_eqT, pu_eqF, pu_x1, pu_x2, pu_x3, pu_x4, pu_x5, pu_x6, pu_x7, pu_x8, Nat.zero_add, pu_m31I, pu_m31, pu_shlI, eq_self, Bool.false_eq_true, Bool.true_eq_false, r_timesOfAll hF h7, dn_ok hq]
theorem r_54 (hF : wF fd) (h7 : ∀ k, 1 ≤ k → k ≤ 6 → w.1 278 k = nI (fd 4 k)) {s x5 : UInt64} (hs : s.toNat ≤ 4607182418800017408) {m : Nat} (hm : 1 ≤ m) (hm2 : m ≤ 60) (hq : (dN fd m s).toNat < fp_I Jvm.FP.Core.b64) {a2 x9 : Int32} : f_X12_shareOf_54 (nI m) a2 x5 x9 (dF fd s) FP.dconst1 (nI 1) w = some (.inr (dN fd m s, x9 + nI 1, w)) := by
  have hI := dI_v
  obtain ⟨f1, f2⟩ := dF_le (fd := fd) hs
  obtain ⟨g1, g2, g3⟩ := dH_le (fd := fd) hs m
  unfold f_X12_shareOf_54
  refine pu_tr (fun i => (dpw FP.dconst1 (dF fd s) i, nI (i + 1), w)) (m - 1) rfl (by omega) (fun i hi => ?_) ?_
  · have h4 : (FP.dmul (dpw FP.dconst1 (dF fd s) i) (dF fd s)).toNat < fp_I Jvm.FP.Core.b64 := Nat.lt_of_le_of_lt (dpw_le (by rw [ds_c1]; omega) f2 (i + 1)) (by rw [ds_c1]; omega)
    unfold f_X12_shareOf_54b
    simp (disch := omega) only [pv_v, pv_b2, pv_b1, pv_x, pv_lit, pv_ofN, pu_chk, pu_cl, nI_add, pk_mul, nI_leI, nI_ltI, nI_eq, pu_nar0, pu_nar1, pu_narb, bI_0, bI_1, ↓reduceIte, pu_leT, pu_leF, pu_ltT, pu_ltF, pu_eqT, pu_eqF, pu_x1, pu_x2, pu_x3, pu_x4, pu_x5, pu_x6, pu_x7, pu_x8, Nat.zero_add, pu_m31I, pu_m31, pu_shlI, eq_self, Bool.false_eq_true, Bool.true_eq_false, dn_ok h4]
    rfl
  · have hdH : FP.dsub FP.dconst1 (dpw FP.dconst1 (dF fd s) (m - 1)) = dH fd m s := rfl
    have e1 := r_85 (w := w) hF h7 (hd := dH fd m s) (x5 := x5) g2 hq (a1 := nI m) (a2 := a2) (x9 := x9)
    unfold f_X12_shareOf_54b
    rw [show m - 1 + 1 = m by omega]
    simp (disch := omega) only [pv_v, pv_b2, pv_b1, pv_x, pv_lit, pv_ofN, pu_chk, pu_cl, nI_add, pk_mul, nI_leI, nI_ltI, nI_eq, pu_nar0, pu_nar1, pu_narb, bI_0, bI_1, ↓reduceIte, pu_leT, pu_leF, pu_ltT, pu_ltF, pu_eqT, pu_eqF, pu_x1, pu_x2, pu_x3, pu_x4, pu_x5, pu_x6, pu_x7, pu_x8, Nat.zero_add, pu_m31I, pu_m31, pu_shlI, eq_self, Bool.false_eq_true, Bool.true_eq_false, hdH, dn_ok (dI_lt g2), e1]
    rfl
theorem r_shareOf (hF : wF fd) (hW : pu_W fd ≠ 0) (h : rF fd w) {m l : Nat} (hm : 1 ≤ m) (hm2 : m ≤ 60) (hl : l ≤ 40) : f_X12_shareOf (nI m) (nI l) w = some (dSh fd m l, w) := by
  have hI := dI_v
  have n0 := W_n hF hW
  have hWl := W_le hF
  obtain ⟨x1, x2⟩ := dX_ok hF hW
  have h7 := h.2.2.2.2.2.1
  have h2 : w.1 276 0 = nI (fd 0 1) := h.2.1
  have h5 : FP.ddiv (FP.ddiv (FP.i2d (nI (dC fd 6))) (FP.i2d (nI (pu_W fd)))) (FP.i2d (nI (fd 0 1))) = dX fd := rfl
  have hmin : f_J9_min_eb370 FP.dconst1 (dX fd) w = some (dR fd, w) := by
    unfold f_J9_min_eb370
    rw [dnan (x := FP.dconst1) (by rw [ds_c1]; omega), dnan (x := dX fd) (by omega), if_neg Bool.false_ne_true, if_neg Bool.false_ne_true, pick_R x2]
    rfl
  have hout : f_X12_shareOf_33 (nI m) (nI l) (dR fd) FP.dconst1 (nI 0) w = some (dSh fd m l, w) := by
    unfold f_X12_shareOf_33
    refine pu_tr (fun i => (dSh fd m i, nI i, w)) l rfl (by omega) (fun i hi => ?_) ?_
    · have s1 := dSh_ok hF hW m i
      have s2 := dSh_ok hF hW m (i + 1)
      obtain ⟨f1, f2⟩ := dF_le (fd := fd) s1.1
      have hdF : FP.dsub FP.dconst1 (FP.dmul (dR fd) (dSh fd m i)) = dF fd (dSh fd m i) := rfl
      have e1 := r_54 (w := w) hF h7 (s := dSh fd m i) (x5 := dR fd) s1.1 hm hm2 (dI_lt s2.1) (a2 := nI l) (x9 := nI i)
      unfold f_X12_shareOf_33b
      simp (disch := omega) only [pv_v, pv_b2, pv_b1, pv_x, pv_lit, pv_ofN, pu_chk, pu_cl, nI_add, pk_mul, nI_leI, nI_ltI, nI_eq, pu_nar0, pu_nar1, pu_narb, bI_0, bI_1, ↓reduceIte, pu_leT, pu_leF, pu_ltT, pu_ltF, pu_eqT, pu_eqF, pu_x1, pu_x2, pu_x3, pu_x4, pu_x5, pu_x6, pu_x7, pu_x8, Nat.zero_add, pu_m31I, pu_m31, pu_shlI, eq_self, Bool.false_eq_true, Bool.true_eq_false, dn_ok (dI_lt f1), hdF, dn_ok (dI_lt f2), e1]
      rfl
    · unfold f_X12_shareOf_33b
      simp (disch := omega) only [pv_v, pv_b2, pv_b1, pv_x, pv_lit, pv_ofN, pu_chk, pu_cl, nI_add, pk_mul, nI_leI, nI_ltI, nI_eq, pu_nar0, pu_nar1, pu_narb, bI_0, bI_1, ↓reduceIte, pu_leT, pu_leF, pu_ltT, pu_ltF, pu_eqT, pu_eqF, pu_x1, pu_x2, pu_x3, pu_x4, pu_x5, pu_x6, pu_x7, pu_x8, Nat.zero_add, pu_m31I, pu_m31, pu_shlI, eq_self, Bool.false_eq_true, Bool.true_eq_false]
  unfold f_X12_shareOf
  simp (disch := omega) only [pv_v, pv_b2, pv_b1, pv_x, pv_lit, pv_ofN, pu_chk, pu_cl, nI_add, pk_mul, nI_leI, nI_ltI, nI_eq, pu_nar0, pu_nar1, pu_narb, bI_0, bI_1, ↓reduceIte, pu_leT, pu_leF, pu_ltT, pu_ltF, pu_eqT, pu_eqF, pu_x1, pu_x2, pu_x3, pu_x4, pu_x5, pu_x6, pu_x7, pu_x8, Nat.zero_add, pu_m31I, pu_m31, pu_shlI, eq_self, Bool.false_eq_true, Bool.true_eq_false, r_timesOfAll hF h7, r_degreesOfAll hF h, h2, dn_ok (show (FP.ddiv (FP.i2d (nI (dC fd 6))) (FP.i2d (nI (pu_W fd)))).toNat < fp_I Jvm.FP.Core.b64 by omega), h5, dn_ok (show (dX fd).toNat < fp_I Jvm.FP.Core.b64 by omega), hmin, hout]
theorem both_share (a b : Int32) : Both j fd z o (fun a b => lg_cmp a b = 0) (f_X11_share a b) (f_X12_share a b) := by
  intro w hc hr hb hnf
  have hF := hc.wF
  have hWl := W_le hF
  have hI := dI_v
  by_cases c : pu_W fd = 0
  · refine Both.val (-1 : Int64) (lc_r _) (fun w h => ?_) (fun w h => ?_) w hc hr hb hnf
    · have h1 := h.nd
      rw [decide_eq_true c] at h1
      unfold f_X11_share f_X11_share_28
      simp (disch := omega) only [pv_v, pv_b2, pv_b1, pv_x, pv_lit, pv_ofN, pu_chk, pu_cl, nI_add, pk_mul, nI_leI, nI_ltI, nI_eq, pu_nar0, pu_nar1, pu_narb, bI_0, bI_1, ↓reduceIte, pu_leT, pu_leF, pu_ltT, pu_ltF, pu_eqT, pu_eqF, pu_x1, pu_x2, pu_x3, pu_x4, pu_x5, pu_x6, pu_x7, pu_x8, Nat.zero_add, pu_m31I, pu_m31, pu_shlI, eq_self, Bool.false_eq_true, Bool.true_eq_false, h1]
    · have h1 := r_degreesOfAll h.wF h.F
      rw [c] at h1
      unfold f_X12_share f_X12_share_46 f_X12_share_49
      rcases Nat.eq_zero_or_pos (fd 0 0) with n0 | n0
      · simp (disch := omega) only [pv_v, pv_b2, pv_b1, pv_x, pv_lit, pv_ofN, pu_chk, pu_cl, nI_add, pk_mul, nI_leI, nI_ltI, nI_eq, pu_nar0, pu_nar1, pu_narb, bI_0, bI_1, ↓reduceIte, pu_leT, pu_leF, pu_ltT, pu_ltF, pu_eqT, pu_eqF, pu_x1, pu_x2, pu_x3, pu_x4, pu_x5, pu_x6, pu_x7, pu_x8, Nat.zero_add, pu_m31I, pu_m31, pu_shlI, eq_self, Bool.false_eq_true, Bool.true_eq_false, h.n0 n0]
      · simp (disch := omega) only [pv_v, pv_b2, pv_b1, pv_x, pv_lit, pv_ofN, pu_chk, pu_cl, nI_add, pk_mul, nI_leI, nI_ltI, nI_eq, pu_nar0, pu_nar1, pu_narb, bI_0, bI_1, ↓reduceIte, pu_leT, pu_leF, pu_ltT, pu_ltF, pu_eqT, pu_eqF, pu_x1, pu_x2, pu_x3, pu_x4, pu_x5, pu_x6, pu_x7, pu_x8, Nat.zero_add, pu_m31I, pu_m31, pu_shlI, eq_self, Bool.false_eq_true, Bool.true_eq_false, h.n1 n0, h1]
  · have n0 := W_n hF c
    have hnd : ∀ w, CI fd z o w → f_X11_noDegrees w = some (nI 0, w) := fun w h => by
      rw [h.nd, decide_eq_false c]; rfl
    have hda : ∀ w, RI fd z o w → f_X12_degreesOfAll w = some (nI (pu_W fd), w) := fun w h => r_degreesOfAll h.wF h.F
    have hle : (nI (pu_W fd) ≤ nI 0) = False := by rw [nI_leI (by omega) (by omega)]; exact eq_false (by omega)
    rcases rng a 1 60 (by omega) (by omega) with ⟨s, s1, s2, s3⟩ | ⟨s1, s2, s3⟩ | ⟨s1, s2, s3, s4, s5, s6, s7⟩
    · subst s3
      rcases rng b 0 40 (by omega) (by omega) with ⟨t, t1, t2, t3⟩ | ⟨t1, t2, t3⟩ | ⟨t1, t2, t3, t4, t5, t6, t7⟩
      · subst t3
        have hk := dSh_ok hF c s t
        refine Both.val (lN (dSh fd s t).toNat) (lc_r _) (fun w h => ?_) (fun w h => ?_) w hc hr hb hnf
        · have e1 := c_shareOf hF c h.F s1 s2 t2
          have e2 := c_double (w := w) hk.2 hk.1
          unfold f_X11_share
          simp (disch := omega) only [pv_v, pv_b2, pv_b1, pv_x, pv_lit, pv_ofN, pu_chk, pu_cl, nI_add, pk_mul, nI_leI, nI_ltI, nI_eq, pu_nar0, pu_nar1, pu_narb, bI_0, bI_1, ↓reduceIte, pu_leT, pu_leF, pu_ltT, pu_ltF, pu_eqT, pu_eqF, pu_x1, pu_x2, pu_x3, pu_x4, pu_x5, pu_x6, pu_x7, pu_x8, Nat.zero_add, pu_m31I, pu_m31, pu_shlI, eq_self, Bool.false_eq_true, Bool.true_eq_false, hnd w h, e1, e2]
        · have e1 := r_shareOf hF c h.F s1 s2 t2
          have e2 := r_double (w := w) (a := dSh fd s t) (by omega)
          unfold f_X12_share f_X12_share_49
          simp (disch := omega) only [pv_v, pv_b2, pv_b1, pv_x, pv_lit, pv_ofN, pu_chk, pu_cl, nI_add, pk_mul, nI_leI, nI_ltI, nI_eq, pu_nar0, pu_nar1, pu_narb, bI_0, bI_1, ↓reduceIte, pu_leT, pu_leF, pu_ltT, pu_ltF, pu_eqT, pu_eqF, pu_x1, pu_x2, pu_x3, pu_x4, pu_x5, pu_x6, pu_x7, pu_x8, Nat.zero_add, pu_m31I, pu_m31, pu_shlI, eq_self, Bool.false_eq_true, Bool.true_eq_false, h.n1 n0, hda w h, hle, r_inY, e1, e2]
      · refine Both.val (-1 : Int64) (lc_r _) (fun w h => ?_) (fun w h => ?_) w hc hr hb hnf
        · unfold f_X11_share f_X11_share_28
          simp (disch := omega) only [pv_v, pv_b2, pv_b1, pv_x, pv_lit, pv_ofN, pu_chk, pu_cl, nI_add, pk_mul, nI_leI, nI_ltI, nI_eq, pu_nar0, pu_nar1, pu_narb, bI_0, bI_1, ↓reduceIte, pu_leT, pu_leF, pu_ltT, pu_ltF, pu_eqT, pu_eqF, pu_x1, pu_x2, pu_x3, pu_x4, pu_x5, pu_x6, pu_x7, pu_x8, Nat.zero_add, pu_m31I, pu_m31, pu_shlI, eq_self, Bool.false_eq_true, Bool.true_eq_false, hnd w h, t1]
        · unfold f_X12_share f_X12_share_46 f_X12_share_49
          simp (disch := omega) only [pv_v, pv_b2, pv_b1, pv_x, pv_lit, pv_ofN, pu_chk, pu_cl, nI_add, pk_mul, nI_leI, nI_ltI, nI_eq, pu_nar0, pu_nar1, pu_narb, bI_0, bI_1, ↓reduceIte, pu_leT, pu_leF, pu_ltT, pu_ltF, pu_eqT, pu_eqF, pu_x1, pu_x2, pu_x3, pu_x4, pu_x5, pu_x6, pu_x7, pu_x8, Nat.zero_add, pu_m31I, pu_m31, pu_shlI, eq_self, Bool.false_eq_true, Bool.true_eq_false, h.n1 n0, hda w h, hle, r_inY, r_inL t1]
      · refine Both.val (-1 : Int64) (lc_r _) (fun w h => ?_) (fun w h => ?_) w hc hr hb hnf
        · unfold f_X11_share f_X11_share_28
          simp (disch := omega) only [pv_v, pv_b2, pv_b1, pv_x, pv_lit, pv_ofN, pu_chk, pu_cl, nI_add, pk_mul, nI_leI, nI_ltI, nI_eq, pu_nar0, pu_nar1, pu_narb, bI_0, bI_1, ↓reduceIte, pu_leT, pu_leF, pu_ltT, pu_ltF, pu_eqT, pu_eqF, pu_x1, pu_x2, pu_x3, pu_x4, pu_x5, pu_x6, pu_x7, pu_x8, Nat.zero_add, pu_m31I, pu_m31, pu_shlI, eq_self, Bool.false_eq_true, Bool.true_eq_false, hnd w h, t1, t3]
        · unfold f_X12_share f_X12_share_46 f_X12_share_49
          simp (disch := omega) only [pv_v, pv_b2, pv_b1, pv_x, pv_lit, pv_ofN, pu_chk, pu_cl, nI_add, pk_mul, nI_leI, nI_ltI, nI_eq, pu_nar0, pu_nar1, pu_narb, bI_0, bI_1, ↓reduceIte, pu_leT, pu_leF, pu_ltT, pu_ltF, pu_eqT, pu_eqF, pu_x1, pu_x2, pu_x3, pu_x4, pu_x5, pu_x6, pu_x7, pu_x8, Nat.zero_add, pu_m31I, pu_m31, pu_shlI, eq_self, Bool.false_eq_true, Bool.true_eq_false, h.n1 n0, hda w h, hle, r_inY, r_inH t1 t4]
    · refine Both.val (-1 : Int64) (lc_r _) (fun w h => ?_) (fun w h => ?_) w hc hr hb hnf
      · unfold f_X11_share f_X11_share_28
        simp (disch := omega) only [pv_v, pv_b2, pv_b1, pv_x, pv_lit, pv_ofN, pu_chk, pu_cl, nI_add, pk_mul, nI_leI, nI_ltI, nI_eq, pu_nar0, pu_nar1, pu_narb, bI_0, bI_1, ↓reduceIte, pu_leT, pu_leF, pu_ltT, pu_ltF, pu_eqT, pu_eqF, pu_x1, pu_x2, pu_x3, pu_x4, pu_x5, pu_x6, pu_x7, pu_x8, Nat.zero_add, pu_m31I, pu_m31, pu_shlI, eq_self, Bool.false_eq_true, Bool.true_eq_false, hnd w h, s1]
      · unfold f_X12_share f_X12_share_46 f_X12_share_49
        simp (disch := omega) only [pv_v, pv_b2, pv_b1, pv_x, pv_lit, pv_ofN, pu_chk, pu_cl, nI_add, pk_mul, nI_leI, nI_ltI, nI_eq, pu_nar0, pu_nar1, pu_narb, bI_0, bI_1, ↓reduceIte, pu_leT, pu_leF, pu_ltT, pu_ltF, pu_eqT, pu_eqF, pu_x1, pu_x2, pu_x3, pu_x4, pu_x5, pu_x6, pu_x7, pu_x8, Nat.zero_add, pu_m31I, pu_m31, pu_shlI, eq_self, Bool.false_eq_true, Bool.true_eq_false, h.n1 n0, hda w h, hle, r_inL s1]
    · refine Both.val (-1 : Int64) (lc_r _) (fun w h => ?_) (fun w h => ?_) w hc hr hb hnf
      · unfold f_X11_share f_X11_share_28
        simp (disch := omega) only [pv_v, pv_b2, pv_b1, pv_x, pv_lit, pv_ofN, pu_chk, pu_cl, nI_add, pk_mul, nI_leI, nI_ltI, nI_eq, pu_nar0, pu_nar1, pu_narb, bI_0, bI_1, ↓reduceIte, pu_leT, pu_leF, pu_ltT, pu_ltF, pu_eqT, pu_eqF, pu_x1, pu_x2, pu_x3, pu_x4, pu_x5, pu_x6, pu_x7, pu_x8, Nat.zero_add, pu_m31I, pu_m31, pu_shlI, eq_self, Bool.false_eq_true, Bool.true_eq_false, hnd w h, s1, s4]
      · unfold f_X12_share f_X12_share_46 f_X12_share_49
        simp (disch := omega) only [pv_v, pv_b2, pv_b1, pv_x, pv_lit, pv_ofN, pu_chk, pu_cl, nI_add, pk_mul, nI_leI, nI_ltI, nI_eq, pu_nar0, pu_nar1, pu_narb, bI_0, bI_1, ↓reduceIte, pu_leT, pu_leF, pu_ltT, pu_ltF, pu_eqT, pu_eqF, pu_x1, pu_x2, pu_x3, pu_x4, pu_x5, pu_x6, pu_x7, pu_x8, Nat.zero_add, pu_m31I, pu_m31, pu_shlI, eq_self, Bool.false_eq_true, Bool.true_eq_false, h.n1 n0, hda w h, hle, r_inH s1 s4]
/-- the greatest number of USERS, from m down -/
def dL (fd : Nat → Nat → Nat) : Nat → Int32
  | 0 => -nI 1
  | m + 1 => if 0 ≤ (Op.cmpValue (FP.dcmp (dSh fd (m + 1) 40) (4562254508917369340 : UInt64)) .g) then dL fd m else nI (m + 1)
theorem dL_s {m : Nat} : dL fd (m + 1) = if nI 0 ≤ (Op.cmpValue (FP.dcmp (dSh fd (m + 1) 40) (4562254508917369340 : UInt64)) .g) then dL fd m else nI (m + 1) := rfl
theorem c_limit (hF : wF fd) (hW : pu_W fd ≠ 0) (h : cF fd w) : f_X11_limit_12 (nI 60) w = some (dL fd 60, w) := by
  apply Wp.eq
  unfold f_X11_limit_12
  refine Wp.loop (fun i s => s = (nI (60 - i), w) ∧ dL fd (60 - i) = dL fd 60) 60 (by omega) ⟨rfl, rfl⟩ (fun i s hi hs => ?_)
  obtain ⟨rfl, h2⟩ := hs
  by_cases hN : i = 60
  · subst hN
    refine ⟨.inl (-nI 1, w), ?_, by rw [← h2]; rfl⟩
    unfold f_X11_limit_12b
    simp (disch := omega) only [pv_v, pv_b2, pv_b1, pv_x, pv_lit, pv_ofN, pu_chk, pu_cl, nI_add, pk_mul, nI_leI, nI_ltI, nI_eq, pu_nar0, pu_nar1, pu_narb, bI_0, bI_1, ↓reduceIte, pu_leT, pu_leF, pu_ltT, pu_ltF, pu_eqT, pu_eqF, pu_x1, pu_x2, pu_x3, pu_x4, pu_x5, pu_x6, pu_x7, pu_x8, Nat.zero_add, pu_m31I, pu_m31, pu_shlI, eq_self, Bool.false_eq_true, Bool.true_eq_false, Nat.sub_self]
  · obtain ⟨m, hm⟩ : ∃ m, 60 - i = m + 1 := ⟨59 - i, by omega⟩
    rw [hm] at h2 ⊢
    have e1 := c_shareOf hF hW h (m := m + 1) (l := 40) (by omega) (by omega) (by omega)
    rw [dL_s] at h2
    by_cases c : nI 0 ≤ Op.cmpValue (FP.dcmp (dSh fd (m + 1) 40) (4562254508917369340 : UInt64)) .g
    · rw [if_pos c] at h2
      refine ⟨.inr (nI m, w), ?_, by omega, ?_⟩
      · unfold f_X11_limit_12b
        simp (disch := omega) only [pv_v, pv_b2, pv_b1, pv_x, pv_lit, pv_ofN, pu_chk, pu_cl, nI_add, pk_mul, nI_leI, nI_ltI, nI_eq, pu_nar0, pu_nar1, pu_narb, bI_0, bI_1, ↓reduceIte, pu_leT, pu_leF, pu_ltT, pu_ltF, pu_eqT, pu_eqF, pu_x1, pu_x2, pu_x3, pu_x4, pu_x5, pu_x6, pu_x7, pu_x8, Nat.zero_add, pu_m31I, pu_m31, pu_shlI, eq_self, Bool.false_eq_true, Bool.true_eq_false, e1, eq_true c, pu_m1s]
      · rw [show 60 - (i + 1) = m by omega]; exact ⟨rfl, h2⟩
    · rw [if_neg c] at h2
      refine ⟨.inl (nI (m + 1), w), ?_, by rw [← h2]; rfl⟩
      unfold f_X11_limit_12b
      simp (disch := omega) only [pv_v, pv_b2, pv_b1, pv_x, pv_lit, pv_ofN, pu_chk, pu_cl, nI_add, pk_mul, nI_leI, nI_ltI, nI_eq, pu_nar0, pu_nar1, pu_narb, bI_0, bI_1, ↓reduceIte, pu_leT, pu_leF, pu_ltT, pu_ltF, pu_eqT, pu_eqF, pu_x1, pu_x2, pu_x3, pu_x4, pu_x5, pu_x6, pu_x7, pu_x8, Nat.zero_add, pu_m31I, pu_m31, pu_shlI, eq_self, Bool.false_eq_true, Bool.true_eq_false, e1, eq_false c]
theorem r_limit (hF : wF fd) (hW : pu_W fd ≠ 0) (h : rF fd w) : f_X12_limit_19 (nI 60) w = some (dL fd 60, w) := by
  apply Wp.eq
  unfold f_X12_limit_19
  refine Wp.loop (fun i s => s = (nI (60 - i), w) ∧ dL fd (60 - i) = dL fd 60) 60 (by omega) ⟨rfl, rfl⟩ (fun i s hi hs => ?_)
  obtain ⟨rfl, h2⟩ := hs
  by_cases hN : i = 60
  · subst hN
    refine ⟨.inl (-nI 1, w), ?_, by rw [← h2]; rfl⟩
    unfold f_X12_limit_19b
    simp (disch := omega) only [pv_v, pv_b2, pv_b1, pv_x, pv_lit, pv_ofN, pu_chk, pu_cl, nI_add, pk_mul, nI_leI, nI_ltI, nI_eq, pu_nar0, pu_nar1, pu_narb, bI_0, bI_1, ↓reduceIte, pu_leT, pu_leF, pu_ltT, pu_ltF, pu_eqT, pu_eqF, pu_x1, pu_x2, pu_x3, pu_x4, pu_x5, pu_x6, pu_x7, pu_x8, Nat.zero_add, pu_m31I, pu_m31, pu_shlI, eq_self, Bool.false_eq_true, Bool.true_eq_false, Nat.sub_self]
  · obtain ⟨m, hm⟩ : ∃ m, 60 - i = m + 1 := ⟨59 - i, by omega⟩
    rw [hm] at h2 ⊢
    have e1 := r_shareOf hF hW h (m := m + 1) (l := 40) (by omega) (by omega) (by omega)
    rw [dL_s] at h2
    by_cases c : nI 0 ≤ Op.cmpValue (FP.dcmp (dSh fd (m + 1) 40) (4562254508917369340 : UInt64)) .g
    · rw [if_pos c] at h2
      refine ⟨.inr (nI m, w), ?_, by omega, ?_⟩
      · unfold f_X12_limit_19b
        simp (disch := omega) only [pv_v, pv_b2, pv_b1, pv_x, pv_lit, pv_ofN, pu_chk, pu_cl, nI_add, pk_mul, nI_leI, nI_ltI, nI_eq, pu_nar0, pu_nar1, pu_narb, bI_0, bI_1, ↓reduceIte, pu_leT, pu_leF, pu_ltT, pu_ltF, pu_eqT, pu_eqF, pu_x1, pu_x2, pu_x3, pu_x4, pu_x5, pu_x6, pu_x7, pu_x8, Nat.zero_add, pu_m31I, pu_m31, pu_shlI, eq_self, Bool.false_eq_true, Bool.true_eq_false, e1, eq_true c, pu_m1s]
      · rw [show 60 - (i + 1) = m by omega]; exact ⟨rfl, h2⟩
    · rw [if_neg c] at h2
      refine ⟨.inl (nI (m + 1), w), ?_, by rw [← h2]; rfl⟩
      unfold f_X12_limit_19b
      simp (disch := omega) only [pv_v, pv_b2, pv_b1, pv_x, pv_lit, pv_ofN, pu_chk, pu_cl, nI_add, pk_mul, nI_leI, nI_ltI, nI_eq, pu_nar0, pu_nar1, pu_narb, bI_0, bI_1, ↓reduceIte, pu_leT, pu_leF, pu_ltT, pu_ltF, pu_eqT, pu_eqF, pu_x1, pu_x2, pu_x3, pu_x4, pu_x5, pu_x6, pu_x7, pu_x8, Nat.zero_add, pu_m31I, pu_m31, pu_shlI, eq_self, Bool.false_eq_true, Bool.true_eq_false, e1, eq_false c]
theorem both_limit : Both j fd z o (fun a b => a = b) f_X11_limit f_X12_limit := by
  intro w hc hr hb hnf
  have hF := hc.wF
  have hWl := W_le hF
  by_cases c : pu_W fd = 0
  · refine Both.val (-nI 1) rfl (fun w h => ?_) (fun w h => ?_) w hc hr hb hnf
    · have h1 := h.nd
      rw [decide_eq_true c] at h1
      unfold f_X11_limit
      simp (disch := omega) only [pv_v, pv_b2, pv_b1, pv_x, pv_lit, pv_ofN, pu_chk, pu_cl, nI_add, pk_mul, nI_leI, nI_ltI, nI_eq, pu_nar0, pu_nar1, pu_narb, bI_0, bI_1, ↓reduceIte, pu_leT, pu_leF, pu_ltT, pu_ltF, pu_eqT, pu_eqF, pu_x1, pu_x2, pu_x3, pu_x4, pu_x5, pu_x6, pu_x7, pu_x8, Nat.zero_add, pu_m31I, pu_m31, pu_shlI, eq_self, Bool.false_eq_true, Bool.true_eq_false, h1]
    · have h1 := r_degreesOfAll h.wF h.F
      rw [c] at h1
      unfold f_X12_limit f_X12_limit_14
      rcases Nat.eq_zero_or_pos (fd 0 0) with n0 | n0
      · simp (disch := omega) only [pv_v, pv_b2, pv_b1, pv_x, pv_lit, pv_ofN, pu_chk, pu_cl, nI_add, pk_mul, nI_leI, nI_ltI, nI_eq, pu_nar0, pu_nar1, pu_narb, bI_0, bI_1, ↓reduceIte, pu_leT, pu_leF, pu_ltT, pu_ltF, pu_eqT, pu_eqF, pu_x1, pu_x2, pu_x3, pu_x4, pu_x5, pu_x6, pu_x7, pu_x8, Nat.zero_add, pu_m31I, pu_m31, pu_shlI, eq_self, Bool.false_eq_true, Bool.true_eq_false, h.n0 n0]
      · simp (disch := omega) only [pv_v, pv_b2, pv_b1, pv_x, pv_lit, pv_ofN, pu_chk, pu_cl, nI_add, pk_mul, nI_leI, nI_ltI, nI_eq, pu_nar0, pu_nar1, pu_narb, bI_0, bI_1, ↓reduceIte, pu_leT, pu_leF, pu_ltT, pu_ltF, pu_eqT, pu_eqF, pu_x1, pu_x2, pu_x3, pu_x4, pu_x5, pu_x6, pu_x7, pu_x8, Nat.zero_add, pu_m31I, pu_m31, pu_shlI, eq_self, Bool.false_eq_true, Bool.true_eq_false, h.n1 n0, h1]
  · have n0 := W_n hF c
    refine Both.val (dL fd 60) rfl (fun w h => ?_) (fun w h => ?_) w hc hr hb hnf
    · have h1 := h.nd
      rw [decide_eq_false c] at h1
      unfold f_X11_limit
      simp (disch := omega) only [pv_v, pv_b2, pv_b1, pv_x, pv_lit, pv_ofN, pu_chk, pu_cl, nI_add, pk_mul, nI_leI, nI_ltI, nI_eq, pu_nar0, pu_nar1, pu_narb, bI_0, bI_1, ↓reduceIte, pu_leT, pu_leF, pu_ltT, pu_ltF, pu_eqT, pu_eqF, pu_x1, pu_x2, pu_x3, pu_x4, pu_x5, pu_x6, pu_x7, pu_x8, Nat.zero_add, pu_m31I, pu_m31, pu_shlI, eq_self, Bool.false_eq_true, Bool.true_eq_false, h1, c_limit hF c h.F]
    · have h1 := r_degreesOfAll h.wF h.F
      unfold f_X12_limit
      simp (disch := omega) only [pv_v, pv_b2, pv_b1, pv_x, pv_lit, pv_ofN, pu_chk, pu_cl, nI_add, pk_mul, nI_leI, nI_ltI, nI_eq, pu_nar0, pu_nar1, pu_narb, bI_0, bI_1, ↓reduceIte, pu_leT, pu_leF, pu_ltT, pu_ltF, pu_eqT, pu_eqF, pu_x1, pu_x2, pu_x3, pu_x4, pu_x5, pu_x6, pu_x7, pu_x8, Nat.zero_add, pu_m31I, pu_m31, pu_shlI, eq_self, Bool.false_eq_true, Bool.true_eq_false, h.n1 n0, h1, r_limit hF c h.F]
end SHARE2
