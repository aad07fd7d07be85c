/-! pure part: the bits of a number in single precision (wip/whole/pure/21.b.single.src) -/
section SINGLE
variable {w : am_S}
theorem fs_t : Jvm.FP.Core.b32.tails = 8388608 := by decide +kernel
theorem fs_q : (-Jvm.FP.Core.b32.qmin).toNat = 149 := by decide +kernel
theorem fs_two : fp_V Jvm.FP.Core.b32 1073741824 = 2 * 2 ^ (-Jvm.FP.Core.b32.qmin).toNat := by decide +kernel
theorem fs_big : fp_V Jvm.FP.Core.b32 1258291200 = Jvm.FP.Core.b32.tails * 2 ^ (-Jvm.FP.Core.b32.qmin).toNat := by decide +kernel
theorem fs_Q : Jvm.FP.Core.b32.tails * 2 ^ 126 = 2 ^ (-Jvm.FP.Core.b32.qmin).toNat := by decide +kernel
theorem fs_c0 : FP.fconst0.toNat = 0 := by decide
theorem fs_c1 : FP.fconst1.toNat = 1065353216 := by decide
theorem fs_c2 : FP.fconst2.toNat = 1073741824 := by decide
theorem fs_half {a : UInt32} (h1 : 16777216 ≤ a.toNat) (h2 : a.toNat < 2139095040) : (FP.fdiv a FP.fconst2).toNat = a.toNat - 8388608 := by
  show (UInt32.ofNat (Jvm.FP.Core.div Jvm.FP.Core.b32 a.toNat FP.fconst2.toNat)).toNat = _
  have := fq_half fp_ok32 (x := a.toNat - 8388608) fs_two (by rw [fI_v]; decide) (by rw [fI_v, fs_t]; omega) (by rw [fs_t]; omega)
  rw [fs_t, show a.toNat - 8388608 + 8388608 = a.toNat by omega] at this
  rw [fs_c2, this, fo_nat (by rw [fI_v]; omega)]
theorem fs_twice {a : UInt32} (h1 : 8388608 ≤ a.toNat) (h2 : a.toNat + 8388608 < 2139095040) : (FP.fmul a FP.fconst2).toNat = a.toNat + 8388608 := by
  show (UInt32.ofNat (Jvm.FP.Core.mul Jvm.FP.Core.b32 a.toNat FP.fconst2.toNat)).toNat = _
  have := fq_twice fp_ok32 (x := a.toNat) fs_two (by rw [fI_v]; decide) (by rw [fI_v, fs_t]; omega) (by rw [fs_t]; omega)
  rw [fs_t] at this
  rw [fs_c2, this, fo_nat (by rw [fI_v]; omega)]
theorem fs_tail {a : UInt32} {m : Nat} (ha : a.toNat = 1065353216 + m) (hm : m < 8388608) : (FP.fsub a FP.fconst1).toNat < 2139095040 ∧ (FP.fmul (FP.fsub a FP.fconst1) (1258291200 : UInt32)).toNat < 2139095040 ∧ FP.f2i (FP.fmul (FP.fsub a FP.fconst1) (1258291200 : UInt32)) = nI m := by
  have hI := fI_v
  obtain ⟨s1, z, z1, z2, z3⟩ := fq_tail fp_ok32 (m := m) (one := 1065353216) (big := 1258291200) (e := 126) (by rw [fs_t]; exact hm) (by rw [fs_t]) (by rw [fs_t, hI]; decide) fs_Q fs_big (by rw [hI]; decide) (by rw [fs_q, fs_t, hI]; decide)
  have e1 : (FP.fsub a FP.fconst1).toNat = Jvm.FP.Core.sub Jvm.FP.Core.b32 (1065353216 + m) 1065353216 := by
    show (UInt32.ofNat (Jvm.FP.Core.sub Jvm.FP.Core.b32 a.toNat FP.fconst1.toNat)).toNat = _
    rw [ha, fs_c1, fo_nat (by omega)]
  have e2 : (FP.fmul (FP.fsub a FP.fconst1) (1258291200 : UInt32)).toNat = z := by
    show (UInt32.ofNat (Jvm.FP.Core.mul Jvm.FP.Core.b32 (FP.fsub a FP.fconst1).toNat (1258291200 : UInt32).toNat)).toNat = _
    rw [e1, show (1258291200 : UInt32).toNat = 1258291200 from rfl, z1, fo_nat (by omega)]
  refine ⟨by rw [e1]; omega, by rw [e2]; omega, ?_⟩
  show Int32.ofInt (Jvm.FP.Core.toInt (-2 ^ 31) (2 ^ 31 - 1) (Jvm.FP.Core.decode Jvm.FP.Core.b32 (FP.fmul (FP.fsub a FP.fconst1) (1258291200 : UInt32)).toNat)) = _
  rw [e2, fq_cut fp_ok32 z2 z3 (by omega) (by omega)]
  rfl
theorem fc_g {a b : UInt32} (ha : a.toNat < fp_I Jvm.FP.Core.b32) (hb : b.toNat < fp_I Jvm.FP.Core.b32) : (nI 0 ≤ Op.cmpValue (FP.fcmp a b) .g) = (b.toNat ≤ a.toNat) := by
  show (nI 0 ≤ Op.cmpValue (Jvm.FP.Core.cmp Jvm.FP.Core.b32 a.toNat b.toNat) .g) = _
  rw [fp_cmp fp_ok32 ha hb]
  rcases Nat.lt_trichotomy a.toNat b.toNat with z | z | z
  · rw [Nat.compare_eq_lt.mpr z]
    exact propext ⟨fun h => absurd h (by decide), fun h => by omega⟩
  · rw [Nat.compare_eq_eq.mpr z]
    exact propext ⟨fun _ => by omega, fun _ => by decide⟩
  · rw [Nat.compare_eq_gt.mpr z]
    exact propext ⟨fun _ => by omega, fun _ => by decide⟩
theorem fc_e {a b : UInt32} (ha : a.toNat < fp_I Jvm.FP.Core.b32) (hb : b.toNat < fp_I Jvm.FP.Core.b32) : (Op.cmpValue (FP.fcmp a b) .l = nI 0) = (a.toNat = b.toNat) := by
  show (Op.cmpValue (Jvm.FP.Core.cmp Jvm.FP.Core.b32 a.toNat b.toNat) .l = nI 0) = _
  rw [fp_cmp fp_ok32 ha hb]
  rcases Nat.lt_trichotomy a.toNat b.toNat with z | z | z
  · rw [Nat.compare_eq_lt.mpr z]
    exact propext ⟨fun h => absurd h (by decide), fun h => by omega⟩
  · rw [Nat.compare_eq_eq.mpr z]
    exact propext ⟨fun _ => z, fun _ => by decide⟩
  · rw [Nat.compare_eq_gt.mpr z]
    exact propext ⟨fun h => absurd h (by decide), fun h => by omega⟩
theorem or_nI (a b : Nat) : nI a ||| nI b = nI (a ||| b) := by
  apply Int32.toBitVec_inj.mp
  rw [Int32.toBitVec_or]
  show BitVec.ofNat 32 a ||| BitVec.ofNat 32 b = BitVec.ofNat 32 (a ||| b)
  exact (BitVec.ofNat_or ..).symm
theorem shl_23 {E : Nat} (h : E < 256) : nI E <<< nI 23 = nI (E * 8388608) := by
  have : ∀ E, E < 256 → nI E <<< nI 23 = nI (E * 8388608) := by decide +kernel
  exact this E h
theorem join_23 {x : Nat} : x / 8388608 * 8388608 ||| x % 8388608 = x := by
  have h := Nat.two_pow_add_eq_or_of_lt (i := 23) (b := x % 8388608) (Nat.mod_lt _ (by decide)) (x / 8388608)
  rw [show (2 : Nat) ^ 23 = 8388608 by decide] at h
  rw [Nat.mul_comm, ← h]
  exact Nat.div_add_mod x 8388608
/-- the sign put on -/
def sgn (a : UInt32) (x : Nat) : Int32 := if nI 0 ≤ Op.cmpValue (FP.fcmp a FP.fconst0) .g then nI x else nI x ||| -nI 2147483648
theorem c_s80 {a b : UInt32} {x : Nat} (hx2 : x < 2139095040) (hb : b.toNat = 1065353216 + x % 8388608) : f_X11_singleBits_80 a b (nI (x / 8388608)) w = some (sgn a x, w) := by
  obtain ⟨t1, t2, t3⟩ := fs_tail hb (Nat.mod_lt _ (by decide))
  have hI := fI_v
  have hE : x / 8388608 < 256 := by omega
  unfold f_X11_singleBits_80 f_X11_singleBits_109 sgn
  simp (disch := omega) only [pv_v, pv_b2, pv_b1, pv_x, pv_lit, pv_ofN, pu_chk, pu_cl, nI_add, pk_mul, nI_leI, nI_ltI, nI_eq, pu_nar0, pu_nar1, pu_narb, bI_0, bI_1, ↓reduceIte, pu_leT, pu_leF, pu_ltT, pu_ltF, pu_eqT, pu_eqF, pu_x1, pu_x2, pu_x3, pu_x4, pu_x5, pu_x6, pu_x7, pu_x8, Nat.zero_add, pu_m31I, pu_m31, pu_shlI, eq_self, Bool.false_eq_true, Bool.true_eq_false, fn_ok (show (FP.fsub b FP.fconst1).toNat < fp_I Jvm.FP.Core.b32 by omega), fn_ok (show (FP.fmul (FP.fsub b FP.fconst1) (1258291200 : UInt32)).toNat < fp_I Jvm.FP.Core.b32 by omega), t3, shl_23 hE, or_nI, join_23]
  split
  · rfl
  · rfl
theorem s52_N {B x E m e : Nat} (h1 : 8388608 * E + m = x) (h2 : m < 8388608) (he : 127 ≤ e) (hb : B + (e - 127) * 8388608 = x) (hb2 : B < 1073741824) (hE : e = 127 ∨ e = E) : ∃ N, N ≤ 127 ∧ B + N * 8388608 = 1065353216 + m ∧ e = E + N := by
  obtain ⟨d, rfl⟩ : ∃ d, e = 127 + d := ⟨e - 127, by omega⟩
  rw [Nat.add_sub_cancel_left] at hb
  rcases hE with z | z
  · have d0 : d = 0 := by omega
    subst d0
    have hE : E ≤ 127 := by omega
    obtain ⟨N, hN⟩ : ∃ N, 127 = E + N := ⟨127 - E, by omega⟩
    have k1 : 8388608 * E + N * 8388608 = 1065353216 := by
      rw [Nat.mul_comm N, ← Nat.mul_add, ← hN]
    refine ⟨N, by omega, ?_, by omega⟩
    rw [Nat.zero_mul, Nat.add_zero] at hb
    rw [hb, ← h1, Nat.add_right_comm, k1]
  · have k1 : 8388608 * E = 1065353216 + d * 8388608 := by
      rw [← z, Nat.mul_add, Nat.mul_comm d]
    refine ⟨0, Nat.zero_le _, ?_, by omega⟩
    rw [Nat.zero_mul, Nat.add_zero]
    have k2 : B + d * 8388608 = 1065353216 + m + d * 8388608 := by
      rw [hb, ← h1, k1, Nat.add_right_comm]
    exact Nat.add_right_cancel k2
set_option maxRecDepth 16384 in
theorem c_s52 {a b : UInt32} {x : Nat} {e : Nat} (hx1 : 8388608 ≤ x) (hx2 : x < 2139095040) (he : 127 ≤ e) (hb : b.toNat + (e - 127) * 8388608 = x) (hb2 : b.toNat < 1073741824) (hE : e = 127 ∨ e = x / 8388608) : f_X11_singleBits_52 a b (nI e) w = some (sgn a x, w) := by
  have hI := fI_v
  apply Wp.eq
  unfold f_X11_singleBits_52 f_X11_singleBits_54
  obtain ⟨N, n1, n2, n3⟩ := s52_N (Nat.div_add_mod x 8388608) (Nat.mod_lt x (show 0 < 8388608 by decide)) he hb hb2 hE
  refine Wp.loop (fun i s => ∃ c : UInt32, s = (c, nI (e - i), nI i, w) ∧ c.toNat = b.toNat + i * 8388608) N (by omega) ⟨b, rfl, by omega⟩ (fun i s hi hs => ?_)
  obtain ⟨c, rfl, hc⟩ := hs
  have hcI : c.toNat < fp_I Jvm.FP.Core.b32 := by omega
  have h2 := Nat.mod_lt x (show 0 < 8388608 by decide)
  have h3 : (nI 0 ≤ Op.cmpValue (FP.fcmp c FP.fconst1) .g) = (1065353216 ≤ c.toNat) := by
    rw [fc_g hcI (by rw [fs_c1]; omega), fs_c1]
  by_cases hN : i = N
  · subst hN
    have hc2 : c.toNat = 1065353216 + x % 8388608 := by omega
    refine ⟨.inl (sgn a x, w), ?_, rfl⟩
    unfold f_X11_singleBits_54b
    have e1 := c_s80 (w := w) (a := a) (b := c) hx2 hc2
    simp (disch := omega) only [pv_v, pv_b2, pv_b1, pv_x, pv_lit, pv_ofN, pu_chk, pu_cl, nI_add, pk_mul, nI_leI, nI_ltI, nI_eq, pu_nar0, pu_nar1, pu_narb, bI_0, bI_1, ↓reduceIte, pu_leT, pu_leF, pu_ltT, pu_ltF, pu_eqT, pu_eqF, pu_x1, pu_x2, pu_x3, pu_x4, pu_x5, pu_x6, pu_x7, pu_x8, Nat.zero_add, pu_m31I, pu_m31, pu_shlI, eq_self, Bool.false_eq_true, Bool.true_eq_false, h3, show e - i = x / 8388608 by omega, e1]
  · have hlt : c.toNat < 1065353216 := by omega
    have hge : 8388608 ≤ c.toNat := by
      have : x / 8388608 ≠ 0 := by
        intro z
        have := Nat.div_add_mod x 8388608
        omega
      have h1 := Nat.div_add_mod x 8388608
      rcases hE with z | z <;> omega
    have ht := fs_twice hge (by omega)
    refine ⟨.inr (FP.fmul c FP.fconst2, nI (e - (i + 1)), nI (i + 1), w), ?_, by omega, _, rfl, ?_⟩
    · unfold f_X11_singleBits_54b
      have hm : nI (e - i) + -nI 1 = nI (e - (i + 1)) := by
        rw [show e - i = (e - (i + 1)) + 1 by omega]; exact pu_m1s _
      simp (disch := omega) only [pv_v, pv_b2, pv_b1, pv_x, pv_lit, pv_ofN, pu_chk, pu_cl, nI_add, pk_mul, nI_leI, nI_ltI, nI_eq, pu_nar0, pu_nar1, pu_narb, bI_0, bI_1, ↓reduceIte, pu_leT, pu_leF, pu_ltT, pu_ltF, pu_eqT, pu_eqF, pu_x1, pu_x2, pu_x3, pu_x4, pu_x5, pu_x6, pu_x7, pu_x8, Nat.zero_add, pu_m31I, pu_m31, pu_shlI, eq_self, Bool.false_eq_true, Bool.true_eq_false, h3, fn_ok (show (FP.fmul c FP.fconst2).toNat < fp_I Jvm.FP.Core.b32 by omega), hm]
    · rw [ht]; omega
set_option maxRecDepth 16384 in
theorem c_s20 {a b : UInt32} (hx1 : 8388608 ≤ b.toNat) (hx2 : b.toNat < 2139095040) : f_X11_singleBits_20 a b w = some (sgn a b.toNat, w) := by
  have hI := fI_v
  apply Wp.eq
  unfold f_X11_singleBits_20 f_X11_singleBits_26
  have h1 := Nat.div_add_mod b.toNat 8388608
  have h2 := Nat.mod_lt b.toNat (show 0 < 8388608 by decide)
  refine Wp.loop (fun i s => ∃ c : UInt32, s = (c, nI (127 + i), nI i, w) ∧ c.toNat + i * 8388608 = b.toNat) (b.toNat / 8388608 - 127) (by omega) ⟨b, rfl, by omega⟩ (fun i s hi hs => ?_)
  obtain ⟨c, rfl, hc⟩ := hs
  have hcI : c.toNat < fp_I Jvm.FP.Core.b32 := by omega
  have h3 : (Op.cmpValue (FP.fcmp c FP.fconst2) .l < nI 0) = (c.toNat < 1073741824) := by
    rw [fc_lt hcI (by rw [fs_c2]; omega), fs_c2]
  by_cases hN : i = b.toNat / 8388608 - 127
  · have hlt : c.toNat < 1073741824 := by omega
    have e1 := c_s52 (w := w) (a := a) (b := c) (x := b.toNat) (e := 127 + i) hx1 hx2 (by omega) (by rw [Nat.add_sub_cancel_left]; exact hc) hlt (by omega)
    refine ⟨.inl (sgn a b.toNat, w), ?_, rfl⟩
    unfold f_X11_singleBits_26b
    simp (disch := omega) only [pv_v, pv_b2, pv_b1, pv_x, pv_lit, pv_ofN, pu_chk, pu_cl, nI_add, pk_mul, nI_leI, nI_ltI, nI_eq, pu_nar0, pu_nar1, pu_narb, bI_0, bI_1, ↓reduceIte, pu_leT, pu_leF, pu_ltT, pu_ltF, pu_eqT, pu_eqF, pu_x1, pu_x2, pu_x3, pu_x4, pu_x5, pu_x6, pu_x7, pu_x8, Nat.zero_add, pu_m31I, pu_m31, pu_shlI, eq_self, Bool.false_eq_true, Bool.true_eq_false, h3, e1]
  · have hge : 1073741824 ≤ c.toNat := by omega
    have ht := fs_half (a := c) (by omega) (by omega)
    refine ⟨.inr (FP.fdiv c FP.fconst2, nI (127 + (i + 1)), nI (i + 1), w), ?_, by omega, _, rfl, ?_⟩
    · unfold f_X11_singleBits_26b
      simp (disch := omega) only [pv_v, pv_b2, pv_b1, pv_x, pv_lit, pv_ofN, pu_chk, pu_cl, nI_add, pk_mul, nI_leI, nI_ltI, nI_eq, pu_nar0, pu_nar1, pu_narb, bI_0, bI_1, ↓reduceIte, pu_leT, pu_leF, pu_ltT, pu_ltF, pu_eqT, pu_eqF, pu_x1, pu_x2, pu_x3, pu_x4, pu_x5, pu_x6, pu_x7, pu_x8, Nat.zero_add, pu_m31I, pu_m31, pu_shlI, eq_self, Bool.false_eq_true, Bool.true_eq_false, h3, fn_ok (show (FP.fdiv c FP.fconst2).toNat < fp_I Jvm.FP.Core.b32 by omega), Nat.add_assoc]
    · rw [ht]; omega
theorem u2i (a : UInt32) : a.toInt32 = nI a.toNat := by
  apply Int32.toBitVec_inj.mp
  show a.toBitVec = BitVec.ofNat 32 a.toBitVec.toNat
  rw [BitVec.ofNat_toNat]; rfl
theorem c_single {a : UInt32} (h : a.toNat = 0 ∨ 8388608 ≤ a.toNat) (h2 : a.toNat < 2139095040) : f_X11_singleBits a w = some (nI a.toNat, w) := by
  have hI := fI_v
  have e1 := fc_e (a := a) (b := FP.fconst0) (by omega) (by rw [fs_c0]; omega)
  have e2 := fc_g (a := a) (b := FP.fconst0) (by omega) (by rw [fs_c0]; omega)
  rw [fs_c0] at e1 e2
  unfold f_X11_singleBits
  rcases h with h | h
  · simp (disch := omega) only [pv_v, pv_b2, pv_b1, pv_x, pv_lit, pv_ofN, pu_chk, pu_cl, nI_add, pk_mul, nI_leI, nI_ltI, nI_eq, pu_nar0, pu_nar1, pu_narb, bI_0, bI_1, ↓reduceIte, pu_leT, pu_leF, pu_ltT, pu_ltF, pu_eqT, pu_eqF, pu_x1, pu_x2, pu_x3, pu_x4, pu_x5, pu_x6, pu_x7, pu_x8, Nat.zero_add, pu_m31I, pu_m31, pu_shlI, eq_self, Bool.false_eq_true, Bool.true_eq_false, e1, h]
  · have e3 := c_s20 (w := w) (a := a) (b := a) h h2
    simp (disch := omega) only [pv_v, pv_b2, pv_b1, pv_x, pv_lit, pv_ofN, pu_chk, pu_cl, nI_add, pk_mul, nI_leI, nI_ltI, nI_eq, pu_nar0, pu_nar1, pu_narb, bI_0, bI_1, ↓reduceIte, pu_leT, pu_leF, pu_ltT, pu_ltF, pu_eqT, pu_eqF, pu_x1, pu_x2, pu_x3, pu_x4, pu_x5, pu_x6, pu_x7, pu_x8, Nat.zero_add, pu_m31I, pu_m31, pu_shlI, eq_self, Bool.false_eq_true, Bool.true_eq_false, e1, e2, Nat.zero_le, e3]
    unfold sgn
    rw [if_pos (by rw [e2]; omega)]
theorem r_single {a : UInt32} (h2 : a.toNat < 2139095040) : f_Jxf58ca_floatToIntBits_5c35a a w = some (nI a.toNat, w) := by
  have hI := fI_v
  have e1 := fc_e (a := a) (b := a) (by omega) (by omega)
  unfold f_Jxf58ca_floatToIntBits_5c35a f_Jxf58ca_isNaN_12338 f_Jxf58ca_isNaN_12338_11
  simp (disch := omega) only [pv_v, pv_b2, pv_b1, pv_x, pv_lit, pv_ofN, pu_chk, pu_cl, nI_add, pk_mul, nI_leI, nI_ltI, nI_eq, pu_nar0, pu_nar1, pu_narb, bI_0, bI_1, ↓reduceIte, pu_leT, pu_leF, pu_ltT, pu_ltF, pu_eqT, pu_eqF, pu_x1, pu_x2, pu_x3, pu_x4, pu_x5, pu_x6, pu_x7, pu_x8, Nat.zero_add, pu_m31I, pu_m31, pu_shlI, eq_self, Bool.false_eq_true, Bool.true_eq_false, e1, u2i]
end SINGLE
