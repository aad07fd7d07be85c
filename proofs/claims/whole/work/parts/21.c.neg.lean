/-! pure part: numbers below 0 in single precision (wip/whole/pure/21.c.neg.src) -/
section FPN
variable {f : Jvm.FP.Core.Fmt}
theorem fn_bnd {s : Bool} {c : Nat} {q : Int} : Jvm.FP.Core.bound f true c q = Jvm.FP.Core.negate (Jvm.FP.Core.bound f false c q) := by
  unfold Jvm.FP.Core.bound
  split <;> rfl
theorem fn_rr {n d : Nat} {e : Int} : Jvm.FP.Core.roundRatio f true n d e = Jvm.FP.Core.negate (Jvm.FP.Core.roundRatio f false n d e) := by
  unfold Jvm.FP.Core.roundRatio Jvm.FP.Core.roundAt Jvm.FP.Core.settle
  split
  · rfl
  · split
    · exact fn_bnd (s := true)
    · exact fn_bnd (s := true)
theorem fn_rrs {n d : Nat} {e : Int} : (∃ c q, Jvm.FP.Core.roundRatio f false n d e = .fin false c q) ∨ Jvm.FP.Core.roundRatio f false n d e = .inf false := by
  unfold Jvm.FP.Core.roundRatio Jvm.FP.Core.roundAt Jvm.FP.Core.settle Jvm.FP.Core.bound
  split
  · exact .inl ⟨_, _, rfl⟩
  · split
    · split
      · exact .inl ⟨_, _, rfl⟩
      · exact .inr rfl
    · split
      · exact .inl ⟨_, _, rfl⟩
      · exact .inr rfl
theorem fn_as {e t : Nat} : Jvm.FP.Core.assemble f true e t = f.exps * f.tails + Jvm.FP.Core.assemble f false e t := by
  unfold Jvm.FP.Core.assemble
  simp only [Bool.toNat_true, Bool.toNat_false, Nat.one_mul, Nat.zero_mul, Nat.zero_add, Nat.add_mul]
  omega
theorem fn_enc {n d : Nat} {e : Int} : Jvm.FP.Core.encode f (Jvm.FP.Core.roundRatio f true n d e) = f.exps * f.tails + Jvm.FP.Core.encode f (Jvm.FP.Core.roundRatio f false n d e) := by
  rw [fn_rr]
  rcases fn_rrs (f := f) (n := n) (d := d) (e := e) with ⟨c, q, h⟩ | h
  · rw [h]
    show (if c < f.tails then Jvm.FP.Core.assemble f true 0 c else Jvm.FP.Core.assemble f true ((q - f.qmin).toNat + 1) (c - f.tails)) = _ + (if c < f.tails then Jvm.FP.Core.assemble f false 0 c else Jvm.FP.Core.assemble f false ((q - f.qmin).toNat + 1) (c - f.tails))
    split
    · exact fn_as
    · exact fn_as
  · rw [h]; exact fn_as
theorem fn_sub (hf : fp_ok f) {x y : Nat} (hy : y < fp_I f) (hxy : x < y) : Jvm.FP.Core.sub f x y = f.exps * f.tails + fp_P f 0 (fp_V f y - fp_V f x) 1 := by
  have hV := (fp_V_lt hf).mpr hxy
  obtain ⟨c, q, e1, e2, e3⟩ := fp_dec hf (Nat.lt_trans hxy hy)
  obtain ⟨d, r, g1, g2, g3⟩ := fp_dec hf hy
  unfold Jvm.FP.Core.sub
  rw [e1, g1]
  have hm : f.qmin ≤ min q r := by omega
  have u1 := fp_units (c := c) hm (show min q r ≤ q by omega)
  have u2 := fp_units (c := d) hm (show min q r ≤ r by omega)
  show Jvm.FP.Core.encode f (Jvm.FP.Core.roundRatio f (Jvm.FP.Core.sumSign false true ((Jvm.FP.Core.inUnits c q (min q r) : Int) + -(Jvm.FP.Core.inUnits d r (min q r) : Int))) ((Jvm.FP.Core.inUnits c q (min q r) : Int) + -(Jvm.FP.Core.inUnits d r (min q r) : Int)).natAbs 1 (min q r)) = _
  generalize hA : Jvm.FP.Core.inUnits c q (min q r) = A at *
  generalize hB : Jvm.FP.Core.inUnits d r (min q r) = B at *
  have hBA : A < B := by
    rw [← e3, ← g3, ← u1, ← u2] at hV
    exact Nat.lt_of_mul_lt_mul_right hV
  have hs : Jvm.FP.Core.sumSign false true ((A : Int) + -(B : Int)) = true := by
    unfold Jvm.FP.Core.sumSign
    rw [if_neg (by omega)]
    exact decide_eq_true (by omega)
  rw [hs, show ((A : Int) + -(B : Int)).natAbs = B - A by omega, fn_enc, fp_R0 hf hm, Nat.sub_mul, u1, u2, e3, g3]
  have h1 := fp_m0 hf (show fp_V f y - fp_V f x ≤ fp_V f y by omega)
  rw [fp_ex0 hf] at h1
  omega
theorem fn_dec (hf : fp_ok f) {x : Nat} (h : x < fp_I f) : Jvm.FP.Core.decode f (f.exps * f.tails + x) = Jvm.FP.Core.negate (Jvm.FP.Core.decode f x) := by
  obtain ⟨h1, h2, h3, h4, h5⟩ := hf
  have ht := fp_tp f
  have hd : x / f.tails < f.exps - 1 := by
    rw [Nat.div_lt_iff_lt_mul ht]; exact h
  have hq : (f.exps * f.tails + x) / f.tails = f.exps + x / f.tails := by
    rw [Nat.add_comm, Nat.add_mul_div_right _ _ ht, Nat.add_comm]
  have hE : Jvm.FP.Core.fieldE f (f.exps * f.tails + x) = x / f.tails := by
    unfold Jvm.FP.Core.fieldE
    rw [hq, Nat.add_mod_left, Nat.mod_eq_of_lt (by omega)]
  have hE0 : Jvm.FP.Core.fieldE f x = x / f.tails := Nat.mod_eq_of_lt (by omega)
  have hS : Jvm.FP.Core.fieldS f (f.exps * f.tails + x) = true := by
    unfold Jvm.FP.Core.fieldS
    rw [hq, Nat.add_div_left _ (by omega), Nat.div_eq_of_lt (by omega)]
    rfl
  have hS0 : Jvm.FP.Core.fieldS f x = false := by
    unfold Jvm.FP.Core.fieldS
    rw [Nat.div_eq_of_lt (by omega : x / f.tails < f.exps)]
    rfl
  have hT : Jvm.FP.Core.fieldT f (f.exps * f.tails + x) = Jvm.FP.Core.fieldT f x := by
    unfold Jvm.FP.Core.fieldT
    rw [Nat.add_comm, Nat.add_mul_mod_self_right]
  unfold Jvm.FP.Core.decode
  have hne : ¬ x / f.tails = f.exps - 1 := by omega
  rw [hE, hE0, hS, hS0, hT, if_neg hne, if_neg hne]
  split
  · rfl
  · rfl
theorem fn_cmp0 (hf : fp_ok f) {x : Nat} (h : x < fp_I f) (h0 : 0 < x) : Jvm.FP.Core.cmp f (f.exps * f.tails + x) 0 = some .lt := by
  obtain ⟨c, q, e1, e2, e3⟩ := fp_dec hf h
  obtain ⟨d, r, g1, g2, g3⟩ := fp_dec hf (x := 0) (by omega)
  have hV := fp_V_pos (f := f) h0
  have hc : 0 < c := by
    rcases Nat.eq_zero_or_pos c with z | z
    · rw [z, Nat.zero_mul] at e3; omega
    · exact z
  have hd : d = 0 := by
    rw [fp_V_0] at g3
    rcases Nat.eq_zero_or_pos d with z | z
    · exact z
    · have := Nat.mul_pos z (Nat.two_pow_pos (r - f.qmin).toNat)
      omega
  unfold Jvm.FP.Core.cmp
  rw [fn_dec hf h, e1, g1, hd]
  show some (compare (-((c * 2 ^ (q - min q r).toNat : Nat) : Int)) ((0 * 2 ^ (r - min q r).toNat : Nat) : Int)) = some .lt
  have hp : 0 < c * 2 ^ (q - min q r).toNat := Nat.mul_pos hc (Nat.two_pow_pos _)
  rw [Nat.zero_mul]
  congr 1
  rw [Int.compare_eq_lt]
  omega
theorem fn_cmps (hf : fp_ok f) {x : Nat} (h : x < fp_I f) : Jvm.FP.Core.cmp f (f.exps * f.tails + x) (f.exps * f.tails + x) = some .eq := by
  obtain ⟨c, q, e1, e2, e3⟩ := fp_dec hf h
  unfold Jvm.FP.Core.cmp
  rw [fn_dec hf h, e1]
  show some (compare _ _) = _
  congr 1
  rw [Int.compare_eq_eq]
theorem fn_mult {x k : Nat} (h : (k + 1) * f.tails ≤ x) : 2 ^ k ∣ fp_V f x := by
  have ht := fp_tp f
  have hd : k + 1 ≤ x / f.tails := by rw [Nat.le_div_iff_mul_le ht]; exact h
  have hge : f.tails ≤ x := Nat.le_trans (Nat.le_mul_of_pos_left _ (by omega)) h
  unfold fp_V
  rw [if_neg (by omega)]
  exact Nat.dvd_trans (Nat.pow_dvd_pow 2 (by omega)) (Nat.dvd_mul_left _ _)
end FPN
section NEG
variable {w : am_S}
theorem fs_sg : Jvm.FP.Core.b32.exps * Jvm.FP.Core.b32.tails = 2147483648 := by decide +kernel
theorem xor_31 {x : Nat} (h : x < 2 ^ 31) : (2147483648 + x) ^^^ 2147483648 = x := by
  have e : 2147483648 + x = x ^^^ 2147483648 := by
    have h1 := Nat.two_pow_add_eq_or_of_lt (i := 31) (b := x) h 1
    rw [Nat.mul_one, show (2 : Nat) ^ 31 = 2147483648 by decide] at h1
    rw [h1]
    apply Nat.eq_of_testBit_eq
    intro i
    rw [Nat.testBit_or, Nat.testBit_xor, show (2147483648 : Nat) = 2 ^ 31 by decide, Nat.testBit_two_pow]
    by_cases c : 31 = i
    · subst c
      rw [Nat.testBit_lt_two_pow h]; rfl
    · rw [decide_eq_false c]
      cases x.testBit i <;> rfl
  rw [e, Nat.xor_assoc, Nat.xor_self, Nat.xor_zero]
theorem and_31 {x : Nat} (h : x < 2 ^ 31) : (2147483648 + x) &&& 2147483647 = x := by
  rw [show (2147483647 : Nat) = 2 ^ 31 - 1 by decide, Nat.and_two_pow_sub_one_eq_mod]
  omega
theorem fneg_n {a : UInt32} {x : Nat} (ha : a.toNat = 2147483648 + x) (h : x < 2 ^ 31) : (FP.fneg a).toNat = x := by
  show (a ^^^ 0x80000000).toNat = x
  rw [UInt32.toNat_xor, ha, show (0x80000000 : UInt32).toNat = 2147483648 from rfl, xor_31 h]
theorem fn_okn {α : Type} {a : UInt32} {x : Nat} {k : Option α} (ha : a.toNat = 2147483648 + x) (h : x < 2139095040) : am_n32 a k = k := by
  unfold am_n32
  rw [if_pos]
  rw [UInt32.le_iff_toNat_le, UInt32.toNat_and, ha, show (0x7fffffff : UInt32).toNat = 2147483647 from rfl, and_31 (by omega), show (0x7f800000 : UInt32).toNat = 2139095040 by decide]
  omega
theorem or_31 {x : Nat} (h : x < 2 ^ 31) : nI x ||| -nI 2147483648 = nI (2147483648 + x) := by
  rw [show -nI 2147483648 = nI 2147483648 by decide, or_nI]
  have h1 := Nat.two_pow_add_eq_or_of_lt (i := 31) (b := x) h 1
  rw [Nat.mul_one, show (2 : Nat) ^ 31 = 2147483648 by decide] at h1
  rw [h1, Nat.or_comm]
theorem c_singleN {a : UInt32} {x : Nat} (ha : a.toNat = 2147483648 + x) (h1 : 8388608 ≤ x) (h2 : x < 2139095040) : f_X11_singleBits a w = some (nI a.toNat, w) := by
  have hI := fI_v
  have hc : FP.fcmp a FP.fconst0 = some .lt := by
    show Jvm.FP.Core.cmp Jvm.FP.Core.b32 a.toNat FP.fconst0.toNat = _
    rw [ha, fs_c0, ← fs_sg]
    exact fn_cmp0 fp_ok32 (by omega) (by omega)
  have e1 : (Op.cmpValue (FP.fcmp a FP.fconst0) .l = nI 0) = False := by
    rw [hc]; exact eq_false (by decide)
  have e2 : (nI 0 ≤ Op.cmpValue (FP.fcmp a FP.fconst0) .g) = False := by
    rw [hc]; exact eq_false (by decide)
  have hn := fneg_n ha (by omega)
  have e3 := c_s20 (w := w) (a := a) (b := FP.fneg a) (by omega) (by omega)
  unfold f_X11_singleBits
  simp (disch := omega) only [pv_v, pv_b2, pv_b1, pv_x, pv_lit, pv_ofN, pu_chk, pu_cl, nI_add, pk_mul, nI_leI, nI_ltI, nI_eq, pu_nar0, pu_nar1, pu_narb, bI_0, bI_1, ↓reduceIte, pu_leT, pu_leF, pu_ltT, pu_ltF, pu_eqT, pu_eqF, pu_x1, pu_x2, pu_x3, pu_x4, pu_x5, pu_x6, pu_x7, pu_x8, Nat.zero_add, pu_m31I, pu_m31, pu_shlI, eq_self, Bool.false_eq_true, Bool.true_eq_false, e1, e2, e3]
  unfold sgn
  rw [if_neg (by rw [e2]; exact id), hn, or_31 (by omega), ha]
theorem r_singleN {a : UInt32} {x : Nat} (ha : a.toNat = 2147483648 + x) (h2 : x < 2139095040) : f_Jxf58ca_floatToIntBits_5c35a a w = some (nI a.toNat, w) := by
  have hI := fI_v
  have hc : FP.fcmp a a = some .eq := by
    show Jvm.FP.Core.cmp Jvm.FP.Core.b32 a.toNat a.toNat = _
    rw [ha, ← fs_sg]
    exact fn_cmps fp_ok32 (by omega)
  have e1 : (Op.cmpValue (FP.fcmp a a) .l = nI 0) = True := by
    rw [hc]; exact eq_true (by decide)
  unfold f_Jxf58ca_floatToIntBits_5c35a f_Jxf58ca_isNaN_12338 f_Jxf58ca_isNaN_12338_11
  simp (disch := omega) only [pv_v, pv_b2, pv_b1, pv_x, pv_lit, pv_ofN, pu_chk, pu_cl, nI_add, pk_mul, nI_leI, nI_ltI, nI_eq, pu_nar0, pu_nar1, pu_narb, bI_0, bI_1, ↓reduceIte, pu_leT, pu_leF, pu_ltT, pu_ltF, pu_eqT, pu_eqF, pu_x1, pu_x2, pu_x3, pu_x4, pu_x5, pu_x6, pu_x7, pu_x8, Nat.zero_add, pu_m31I, pu_m31, pu_shlI, eq_self, Bool.false_eq_true, Bool.true_eq_false, e1, u2i]
end NEG
