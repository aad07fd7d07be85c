/-! pure part: the bits of a number in double precision (wip/whole/pure/21.e.double.src) -/
section DOUBLE
variable {w : am_S}
theorem dI_v : fp_I Jvm.FP.Core.b64 = 9218868437227405312 := by decide +kernel
theorem ds_t : Jvm.FP.Core.b64.tails = 4503599627370496 := by decide +kernel
theorem ds_q : (-Jvm.FP.Core.b64.qmin).toNat = 1074 := by decide +kernel
theorem do_nat {a : Nat} (h : a ≤ fp_I Jvm.FP.Core.b64) : (UInt64.ofNat a).toNat = a := by
  rw [dI_v] at h
  exact UInt64.toNat_ofNat_of_lt' (show a < 18446744073709551616 by omega)
theorem da_nat {a b : UInt64} (ha : a.toNat < fp_I Jvm.FP.Core.b64) (hb : b.toNat < fp_I Jvm.FP.Core.b64) : (FP.dadd a b).toNat = min (fp_P Jvm.FP.Core.b64 0 (fp_V Jvm.FP.Core.b64 a.toNat + fp_V Jvm.FP.Core.b64 b.toNat) 1) (fp_I Jvm.FP.Core.b64) := by
  show (UInt64.ofNat (Jvm.FP.Core.add Jvm.FP.Core.b64 a.toNat b.toNat)).toNat = _
  rw [fp_add fp_ok64 ha hb, do_nat (by omega)]
theorem dm_nat {a b : UInt64} (ha : a.toNat < fp_I Jvm.FP.Core.b64) (hb : b.toNat < fp_I Jvm.FP.Core.b64) : (FP.dmul a b).toNat = min (fp_P Jvm.FP.Core.b64 (-Jvm.FP.Core.b64.qmin).toNat (fp_V Jvm.FP.Core.b64 a.toNat * fp_V Jvm.FP.Core.b64 b.toNat) 1) (fp_I Jvm.FP.Core.b64) := by
  show (UInt64.ofNat (Jvm.FP.Core.mul Jvm.FP.Core.b64 a.toNat b.toNat)).toNat = _
  rw [fp_mul fp_ok64 ha hb, do_nat (by omega)]
theorem dp_mono1 {M a b : Nat} (h : a ≤ b) : fp_P Jvm.FP.Core.b64 M a 1 ≤ fp_P Jvm.FP.Core.b64 M b 1 := fp_mono fp_ok64 (by decide) (by decide) (by omega) (by omega) (by omega)
theorem da_mono {a b a' b' : UInt64} (ha : a.toNat ≤ a'.toNat) (hb : b.toNat ≤ b'.toNat) (ha' : a'.toNat < fp_I Jvm.FP.Core.b64) (hb' : b'.toNat < fp_I Jvm.FP.Core.b64) : (FP.dadd a b).toNat ≤ (FP.dadd a' b').toNat := by
  rw [da_nat (by omega) (by omega), da_nat ha' hb']
  exact fp_minm (dp_mono1 (Nat.add_le_add ((fp_V_le fp_ok64).mpr ha) ((fp_V_le fp_ok64).mpr hb)))
theorem dm_mono {a b a' b' : UInt64} (ha : a.toNat ≤ a'.toNat) (hb : b.toNat ≤ b'.toNat) (ha' : a'.toNat < fp_I Jvm.FP.Core.b64) (hb' : b'.toNat < fp_I Jvm.FP.Core.b64) : (FP.dmul a b).toNat ≤ (FP.dmul a' b').toNat := by
  rw [dm_nat (by omega) (by omega), dm_nat ha' hb']
  exact fp_minm (dp_mono1 (Nat.mul_le_mul ((fp_V_le fp_ok64).mpr ha) ((fp_V_le fp_ok64).mpr hb)))
theorem ds_nat {a b : UInt64} (ha : a.toNat < fp_I Jvm.FP.Core.b64) (hb : b.toNat ≤ a.toNat) : (FP.dsub a b).toNat = fp_P Jvm.FP.Core.b64 0 (fp_V Jvm.FP.Core.b64 a.toNat - fp_V Jvm.FP.Core.b64 b.toNat) 1 ∧ (FP.dsub a b).toNat ≤ a.toNat := by
  have h1 := fp_m0 fp_ok64 (show fp_V Jvm.FP.Core.b64 a.toNat - fp_V Jvm.FP.Core.b64 b.toNat ≤ fp_V Jvm.FP.Core.b64 a.toNat by omega)
  rw [fp_ex0 fp_ok64] at h1
  have e : (FP.dsub a b).toNat = fp_P Jvm.FP.Core.b64 0 (fp_V Jvm.FP.Core.b64 a.toNat - fp_V Jvm.FP.Core.b64 b.toNat) 1 := by
    show (UInt64.ofNat (Jvm.FP.Core.sub Jvm.FP.Core.b64 a.toNat b.toNat)).toNat = _
    rw [fp_sub fp_ok64 ha hb, do_nat (by omega)]
  exact ⟨e, by omega⟩
theorem ds_anti {a b b' : UInt64} (ha : a.toNat < fp_I Jvm.FP.Core.b64) (hb : b.toNat ≤ b'.toNat) (hb' : b'.toNat ≤ a.toNat) : (FP.dsub a b').toNat ≤ (FP.dsub a b).toNat := by
  rw [(ds_nat ha hb').1, (ds_nat ha (by omega)).1]
  have := (fp_V_le fp_ok64).mpr hb
  exact dp_mono1 (by omega)
theorem dd_mono {a b a' b' : UInt64} (ha : a.toNat ≤ a'.toNat) (hb : b'.toNat ≤ b.toNat) (ha' : a'.toNat < fp_I Jvm.FP.Core.b64) (h0 : 0 < b'.toNat) (hbI : b.toNat < fp_I Jvm.FP.Core.b64) : (FP.ddiv a b).toNat ≤ (FP.ddiv a' b').toNat := by
  show (UInt64.ofNat (Jvm.FP.Core.div Jvm.FP.Core.b64 a.toNat b.toNat)).toNat ≤ (UInt64.ofNat (Jvm.FP.Core.div Jvm.FP.Core.b64 a'.toNat b'.toNat)).toNat
  have h1 := fq_div_mono fp_ok64 ha' h0 hbI ha hb
  rw [do_nat (by rw [fq_div fp_ok64 (by omega) (by omega) hbI]; omega), do_nat (by rw [fq_div fp_ok64 ha' h0 (by omega)]; omega)]
  exact h1
theorem dn_ok {α : Type} {x : UInt64} {k : Option α} (h : x.toNat < fp_I Jvm.FP.Core.b64) : am_n64 x k = k := by
  rw [dI_v] at h
  unfold am_n64
  rw [if_pos]
  rw [UInt64.le_iff_toNat_le, UInt64.toNat_and]
  refine Nat.le_trans Nat.and_le_left ?_
  rw [show (0x7ff0000000000000 : UInt64).toNat = 9218868437227405312 by decide]
  omega
theorem dc_v {a b : UInt64} (ha : a.toNat < fp_I Jvm.FP.Core.b64) (hb : b.toNat < fp_I Jvm.FP.Core.b64) : FP.dcmp a b = some (compare a.toNat b.toNat) := fp_cmp fp_ok64 ha hb
theorem dc_lt {a b : UInt64} (ha : a.toNat < fp_I Jvm.FP.Core.b64) (hb : b.toNat < fp_I Jvm.FP.Core.b64) : (Op.cmpValue (FP.dcmp a b) .l < nI 0) = (a.toNat < b.toNat) := by
  rw [dc_v ha hb]
  rcases Nat.lt_trichotomy a.toNat b.toNat with z | z | z
  · rw [Nat.compare_eq_lt.mpr z]
    exact propext ⟨fun _ => z, fun _ => by decide⟩
  · rw [Nat.compare_eq_eq.mpr z]
    exact propext ⟨fun h => absurd h (by decide), fun h => by omega⟩
  · rw [Nat.compare_eq_gt.mpr z]
    exact propext ⟨fun h => absurd h (by decide), fun h => by omega⟩
theorem dc_le {a b : UInt64} (ha : a.toNat < fp_I Jvm.FP.Core.b64) (hb : b.toNat < fp_I Jvm.FP.Core.b64) : (Op.cmpValue (FP.dcmp a b) .l ≤ nI 0) = (a.toNat ≤ b.toNat) := by
  rw [dc_v ha hb]
  rcases Nat.lt_trichotomy a.toNat b.toNat with z | z | z
  · rw [Nat.compare_eq_lt.mpr z]
    exact propext ⟨fun _ => by omega, fun _ => by decide⟩
  · rw [Nat.compare_eq_eq.mpr z]
    exact propext ⟨fun _ => by omega, fun _ => by decide⟩
  · rw [Nat.compare_eq_gt.mpr z]
    exact propext ⟨fun h => absurd h (by decide), fun h => by omega⟩
theorem dc_g {a b : UInt64} (ha : a.toNat < fp_I Jvm.FP.Core.b64) (hb : b.toNat < fp_I Jvm.FP.Core.b64) : (nI 0 ≤ Op.cmpValue (FP.dcmp a b) .g) = (b.toNat ≤ a.toNat) := by
  rw [dc_v ha hb]
  rcases Nat.lt_trichotomy a.toNat b.toNat with z | z | z
  · rw [Nat.compare_eq_lt.mpr z]
    exact propext ⟨fun h => absurd h (by decide), fun h => by omega⟩
  · rw [Nat.compare_eq_eq.mpr z]
    exact propext ⟨fun _ => by omega, fun _ => by decide⟩
  · rw [Nat.compare_eq_gt.mpr z]
    exact propext ⟨fun _ => by omega, fun _ => by decide⟩
theorem dc_e {a b : UInt64} (ha : a.toNat < fp_I Jvm.FP.Core.b64) (hb : b.toNat < fp_I Jvm.FP.Core.b64) : (Op.cmpValue (FP.dcmp a b) .l = nI 0) = (a.toNat = b.toNat) := by
  rw [dc_v ha hb]
  rcases Nat.lt_trichotomy a.toNat b.toNat with z | z | z
  · rw [Nat.compare_eq_lt.mpr z]
    exact propext ⟨fun h => absurd h (by decide), fun h => by omega⟩
  · rw [Nat.compare_eq_eq.mpr z]
    exact propext ⟨fun _ => z, fun _ => by decide⟩
  · rw [Nat.compare_eq_gt.mpr z]
    exact propext ⟨fun h => absurd h (by decide), fun h => by omega⟩
theorem ds_two : fp_V Jvm.FP.Core.b64 4611686018427387904 = 2 * 2 ^ (-Jvm.FP.Core.b64.qmin).toNat := by decide +kernel
theorem ds_big : fp_V Jvm.FP.Core.b64 4841369599423283200 = Jvm.FP.Core.b64.tails * 2 ^ (-Jvm.FP.Core.b64.qmin).toNat := by decide +kernel
theorem ds_Q : Jvm.FP.Core.b64.tails * 2 ^ 1022 = 2 ^ (-Jvm.FP.Core.b64.qmin).toNat := by decide +kernel
theorem ds_one : fp_V Jvm.FP.Core.b64 4607182418800017408 = 2 ^ (-Jvm.FP.Core.b64.qmin).toNat := by decide +kernel
theorem ds_c0 : FP.dconst0.toNat = 0 := by decide
theorem ds_c1 : FP.dconst1.toNat = 4607182418800017408 := by decide
theorem ds_c2 : (4611686018427387904 : UInt64).toNat = 4611686018427387904 := by decide
theorem ds_cb : (4841369599423283200 : UInt64).toNat = 4841369599423283200 := by decide
theorem ds_twice {a : UInt64} (h1 : 4503599627370496 ≤ a.toNat) (h2 : a.toNat + 4503599627370496 < 9218868437227405312) : (FP.dmul a (4611686018427387904 : UInt64)).toNat = a.toNat + 4503599627370496 := by
  show (UInt64.ofNat (Jvm.FP.Core.mul Jvm.FP.Core.b64 a.toNat (4611686018427387904 : UInt64).toNat)).toNat = _
  have := fq_twice fp_ok64 (x := a.toNat) ds_two (by rw [dI_v]; decide) (by rw [dI_v, ds_t]; omega) (by rw [ds_t]; omega)
  rw [ds_t] at this
  rw [ds_c2, this, do_nat (by rw [dI_v]; omega)]
theorem ds_tail {a : UInt64} {m : Nat} (ha : a.toNat = 4607182418800017408 + m) (hm : m < 4503599627370496) : (FP.dsub a FP.dconst1).toNat < 9218868437227405312 ∧ (FP.dmul (FP.dsub a FP.dconst1) (4841369599423283200 : UInt64)).toNat < 9218868437227405312 ∧ FP.d2l (FP.dmul (FP.dsub a FP.dconst1) (4841369599423283200 : UInt64)) = lN m := by
  have hI := dI_v
  obtain ⟨s1, z, z1, z2, z3⟩ := fq_tail fp_ok64 (m := m) (one := 4607182418800017408) (big := 4841369599423283200) (e := 1022) (by rw [ds_t]; exact hm) (by rw [ds_t]) (by rw [ds_t, hI]; decide) ds_Q ds_big (by rw [hI]; decide) (by rw [ds_q, ds_t, hI]; decide)
  have e1 : (FP.dsub a FP.dconst1).toNat = Jvm.FP.Core.sub Jvm.FP.Core.b64 (4607182418800017408 + m) 4607182418800017408 := by
    show (UInt64.ofNat (Jvm.FP.Core.sub Jvm.FP.Core.b64 a.toNat FP.dconst1.toNat)).toNat = _
    rw [ha, ds_c1, do_nat (by omega)]
  have e2 : (FP.dmul (FP.dsub a FP.dconst1) (4841369599423283200 : UInt64)).toNat = z := by
    show (UInt64.ofNat (Jvm.FP.Core.mul Jvm.FP.Core.b64 (FP.dsub a FP.dconst1).toNat (4841369599423283200 : UInt64).toNat)).toNat = _
    rw [e1, ds_cb, z1, do_nat (by omega)]
  refine ⟨by rw [e1]; omega, by rw [e2]; omega, ?_⟩
  show Int64.ofInt (Jvm.FP.Core.toInt (-2 ^ 63) (2 ^ 63 - 1) (Jvm.FP.Core.decode Jvm.FP.Core.b64 (FP.dmul (FP.dsub a FP.dconst1) (4841369599423283200 : UInt64)).toNat)) = _
  rw [e2, fq_cut fp_ok64 z2 z3 (by omega) (by omega)]
  rfl
theorem join_52 {x : Nat} : x / 4503599627370496 * 4503599627370496 ||| x % 4503599627370496 = x := by
  have h := Nat.two_pow_add_eq_or_of_lt (i := 52) (b := x % 4503599627370496) (Nat.mod_lt _ (by decide)) (x / 4503599627370496)
  rw [show (2 : Nat) ^ 52 = 4503599627370496 by decide] at h
  rw [Nat.mul_comm, ← h]
  exact Nat.div_add_mod x 4503599627370496
theorem lN_m1 (n : Nat) : lN (n + 1) - (1 : Int64) = lN n := by
  apply Int64.toBitVec_inj.mp
  rw [Int64.toBitVec_sub]
  show BitVec.ofNat 64 (n + 1) - 1#64 = BitVec.ofNat 64 n
  rw [BitVec.ofNat_add, BitVec.add_sub_cancel]
theorem dc_p {a b : UInt64} (ha : a.toNat < fp_I Jvm.FP.Core.b64) (hb : b.toNat < fp_I Jvm.FP.Core.b64) : (nI 0 < Op.cmpValue (FP.dcmp a b) .g) = (b.toNat < a.toNat) := by
  rw [dc_v ha hb]
  rcases Nat.lt_trichotomy a.toNat b.toNat with z | z | z
  · rw [Nat.compare_eq_lt.mpr z]
    exact propext ⟨fun h => absurd h (by decide), fun h => by omega⟩
  · rw [Nat.compare_eq_eq.mpr z]
    exact propext ⟨fun h => absurd h (by decide), fun h => by omega⟩
  · rw [Nat.compare_eq_gt.mpr z]
    exact propext ⟨fun _ => z, fun _ => by decide⟩
theorem c_d50 {a b : UInt64} {x : Nat} (hx2 : x < 9218868437227405312) (hb : b.toNat = 4607182418800017408 + x % 4503599627370496) : f_X11_doubleBits_50 a b (lN (x / 4503599627370496)) w = some (lN x, w) := by
  have hI := dI_v
  obtain ⟨t1, t2, t3⟩ := ds_tail hb (Nat.mod_lt _ (by decide))
  have hj : am_lshl (lN (x / 4503599627370496)) (nI 52) ||| lN (x % 4503599627370496) = lN x := by
    unfold am_lshl
    rw [wb_shl _ (by omega), show (2 : Nat) ^ 52 = 4503599627370496 by decide, wb_or (by omega) (by omega), join_52]
  unfold f_X11_doubleBits_50
  simp (disch := omega) only [pv_v, pv_b2, pv_b1, pv_x, pv_lit, pv_ofN, pu_chk, pu_cl, nI_add, pk_mul, nI_leI, nI_ltI, nI_eq, pu_nar0, pu_nar1, pu_narb, bI_0, bI_1, ↓reduceIte, pu_leT, pu_leF, pu_ltT, pu_ltF, pu_eqT, pu_eqF, pu_x1, pu_x2, pu_x3, pu_x4, pu_x5, pu_x6, pu_x7, pu_x8, Nat.zero_add, pu_m31I, pu_m31, pu_shlI, eq_self, Bool.false_eq_true, Bool.true_eq_false, dn_ok (show (FP.dsub b FP.dconst1).toNat < fp_I Jvm.FP.Core.b64 by omega), dn_ok (show (FP.dmul (FP.dsub b FP.dconst1) (4841369599423283200 : UInt64)).toNat < fp_I Jvm.FP.Core.b64 by omega), t3, hj]
theorem d66_N {x E m : Nat} (h1 : 4503599627370496 * E + m = x) (h2 : m < 4503599627370496) (hx : x ≤ 4607182418800017408) : ∃ N, N ≤ 1023 ∧ x + N * 4503599627370496 = 4607182418800017408 + m ∧ 1023 = E + N := by
  have hE : E ≤ 1023 := by
    rcases Nat.lt_or_ge 1023 E with z | z
    · have : 4503599627370496 * 1024 ≤ 4503599627370496 * E := Nat.mul_le_mul_left _ z
      omega
    · exact z
  obtain ⟨N, hN⟩ : ∃ N, 1023 = E + N := ⟨1023 - E, by omega⟩
  have k1 : 4503599627370496 * E + N * 4503599627370496 = 4607182418800017408 := by
    rw [Nat.mul_comm N, ← Nat.mul_add, ← hN]
  refine ⟨N, by omega, ?_, hN⟩
  rw [← h1, Nat.add_right_comm, k1]
theorem d66_lt {N i x m : Nat} (hi : i < N) (h : x + N * 4503599627370496 = 4607182418800017408 + m) (hm : m < 4503599627370496) : x + i * 4503599627370496 < 4607182418800017408 := by
  have : (i + 1) * 4503599627370496 ≤ N * 4503599627370496 := Nat.mul_le_mul_right _ hi
  rw [Nat.add_mul, Nat.one_mul] at this
  omega
theorem c_d18 {a b : UInt64} (hx1 : 4503599627370496 ≤ b.toNat) (hx2 : b.toNat ≤ 4607182418800017408) : f_X11_doubleBits_18 a b (lN 1023) (nI 0) w = some (lN b.toNat, w) := by
  have hI := dI_v
  apply Wp.eq
  unfold f_X11_doubleBits_18
  have h2 := Nat.mod_lt b.toNat (show 0 < 4503599627370496 by decide)
  obtain ⟨N, n1, n2, n3⟩ := d66_N (Nat.div_add_mod b.toNat 4503599627370496) h2 hx2
  refine Wp.loop (fun i s => ∃ c : UInt64, s = (c, lN (1023 - i), nI i, w) ∧ c.toNat = b.toNat + i * 4503599627370496) N (by omega) ⟨b, rfl, by rw [Nat.zero_mul]; rfl⟩ (fun i s hi hs => ?_)
  obtain ⟨c, rfl, hc⟩ := hs
  by_cases hN : i = N
  · subst hN
    have hc2 : c.toNat = 4607182418800017408 + b.toNat % 4503599627370496 := by rw [hc, n2]
    have h3 : (nI 0 ≤ Op.cmpValue (FP.dcmp c FP.dconst1) .g) = (4607182418800017408 ≤ c.toNat) := by
      rw [dc_g (by omega) (by rw [ds_c1]; omega), ds_c1]
    have e1 := c_d50 (w := w) (a := a) (b := c) (x := b.toNat) (by omega) hc2
    have hge : 4607182418800017408 ≤ c.toNat := by omega
    refine ⟨.inl (lN b.toNat, w), ?_, rfl⟩
    unfold f_X11_doubleBits_18b
    rw [show 1023 - i = b.toNat / 4503599627370496 by omega]
    simp (disch := omega) only [pv_v, pv_b2, pv_b1, pv_x, pv_lit, pv_ofN, pu_chk, pu_cl, nI_add, pk_mul, nI_leI, nI_ltI, nI_eq, pu_nar0, pu_nar1, pu_narb, bI_0, bI_1, ↓reduceIte, pu_leT, pu_leF, pu_ltT, pu_ltF, pu_eqT, pu_eqF, pu_x1, pu_x2, pu_x3, pu_x4, pu_x5, pu_x6, pu_x7, pu_x8, Nat.zero_add, pu_m31I, pu_m31, pu_shlI, eq_self, Bool.false_eq_true, Bool.true_eq_false, h3, hge, e1]
  · have hlt : c.toNat < 4607182418800017408 := by rw [hc]; exact d66_lt (by omega) n2 h2
    have hge : 4503599627370496 ≤ c.toNat := by rw [hc]; exact Nat.le_trans hx1 (Nat.le_add_right _ _)
    have h3 : (nI 0 ≤ Op.cmpValue (FP.dcmp c FP.dconst1) .g) = False := by
      rw [dc_g (by omega) (by rw [ds_c1]; omega), ds_c1]; exact eq_false (by omega)
    have ht := ds_twice hge (by omega)
    have hm : lN (1023 - i) - (1 : Int64) = lN (1023 - (i + 1)) := by
      rw [show 1023 - i = (1023 - (i + 1)) + 1 by omega]; exact lN_m1 _
    refine ⟨.inr (FP.dmul c (4611686018427387904 : UInt64), lN (1023 - (i + 1)), nI (i + 1), w), ?_, by omega, _, rfl, ?_⟩
    · unfold f_X11_doubleBits_18b
      simp (disch := omega) only [pv_v, pv_b2, pv_b1, pv_x, pv_lit, pv_ofN, pu_chk, pu_cl, nI_add, pk_mul, nI_leI, nI_ltI, nI_eq, pu_nar0, pu_nar1, pu_narb, bI_0, bI_1, ↓reduceIte, pu_leT, pu_leF, pu_ltT, pu_ltF, pu_eqT, pu_eqF, pu_x1, pu_x2, pu_x3, pu_x4, pu_x5, pu_x6, pu_x7, pu_x8, Nat.zero_add, pu_m31I, pu_m31, pu_shlI, eq_self, Bool.false_eq_true, Bool.true_eq_false, h3, dn_ok (show (FP.dmul c (4611686018427387904 : UInt64)).toNat < fp_I Jvm.FP.Core.b64 by omega), hm]
    · rw [ht, hc, Nat.add_mul, Nat.one_mul]; omega
theorem c_double {a : UInt64} (h : a.toNat = 0 ∨ 4503599627370496 ≤ a.toNat) (h2 : a.toNat ≤ 4607182418800017408) : f_X11_doubleBits a w = some (lN a.toNat, w) := by
  have hI := dI_v
  have e1 := dc_p (a := a) (b := FP.dconst0) (by omega) (by rw [ds_c0]; omega)
  rw [ds_c0] at e1
  unfold f_X11_doubleBits
  rcases h with h | h
  · have e2 : ¬ (0 : Int32) < Op.cmpValue (FP.dcmp a FP.dconst0) .g := by
      show ¬ nI 0 < _
      rw [e1]; omega
    rw [if_neg e2, h]; rfl
  · have e2 : (0 : Int32) < Op.cmpValue (FP.dcmp a FP.dconst0) .g := by
      show nI 0 < _
      rw [e1]; omega
    rw [if_pos e2]
    exact c_d18 (w := w) (a := a) (b := a) h h2
theorem u2l (a : UInt64) : a.toInt64 = lN a.toNat := by
  apply Int64.toBitVec_inj.mp
  show a.toBitVec = BitVec.ofNat 64 a.toBitVec.toNat
  rw [BitVec.ofNat_toNat]; rfl
theorem r_double {a : UInt64} (h2 : a.toNat < 9218868437227405312) : f_Jxe99ae_doubleToLongBits_ccdee a w = some (lN a.toNat, w) := by
  have hI := dI_v
  have e1 := dc_e (a := a) (b := a) (by omega) (by omega)
  unfold f_Jxe99ae_doubleToLongBits_ccdee f_Jxe99ae_isNaN_b9ae7 f_Jxe99ae_isNaN_b9ae7_11
  simp (disch := omega) only [pv_v, pv_b2, pv_b1, pv_x, pv_lit, pv_ofN, pu_chk, pu_cl, nI_add, pk_mul, nI_leI, nI_ltI, nI_eq, pu_nar0, pu_nar1, pu_narb, bI_0, bI_1, ↓reduceIte, pu_leT, pu_leF, pu_ltT, pu_ltF, pu_eqT, pu_eqF, pu_x1, pu_x2, pu_x3, pu_x4, pu_x5, pu_x6, pu_x7, pu_x8, Nat.zero_add, pu_m31I, pu_m31, pu_shlI, eq_self, Bool.false_eq_true, Bool.true_eq_false, e1, u2l]
end DOUBLE
