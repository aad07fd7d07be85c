/-! pure part: numbers in single and double precision, on (wip/whole/pure/21.a.fp.src) -/
section FPA
variable {f : Jvm.FP.Core.Fmt}
theorem fq_dbl {x : Nat} (h : f.tails ≤ x) : fp_V f (x + f.tails) = 2 * fp_V f x := by
  have ht := fp_tp f
  unfold fp_V
  have hd : 1 ≤ x / f.tails := by rw [Nat.le_div_iff_mul_le ht]; omega
  rw [if_neg (by omega), if_neg (by omega), Nat.add_mod_right, Nat.add_div_right _ ht, show (x / f.tails).succ - 1 = (x / f.tails - 1) + 1 by omega, Nat.pow_succ]
  ac_rfl
theorem fq_sml {x : Nat} (h : x < 2 * f.tails) : fp_V f x = x := by
  have ht := fp_tp f
  unfold fp_V
  rcases Nat.lt_or_ge x f.tails with c | c
  · rw [if_pos c]
  · rw [if_neg (by omega)]
    have hd : x / f.tails = 1 := Nat.div_eq_of_lt_le (by omega) (by omega)
    have := Nat.div_add_mod x f.tails
    rw [hd] at this ⊢
    rw [show 1 - 1 = 0 from rfl, Nat.pow_zero]
    omega
theorem fq_rep (m : Nat) (hm : m < 2 * f.tails) : ∀ s, ∃ y, fp_V f y = m * 2 ^ s ∧ y < (s + 2) * f.tails
  | 0 => ⟨m, by rw [fq_sml hm]; omega, by omega⟩
  | s + 1 => by
    have ht := fp_tp f
    obtain ⟨y, h1, h2⟩ := fq_rep m hm s
    rcases Nat.lt_or_ge y f.tails with c | c
    · refine ⟨2 * y, ?_, ?_⟩
      · rw [fq_sml (by omega), Nat.pow_succ, ← Nat.mul_assoc, ← h1, fq_sml (by omega)]; omega
      · have : 2 * f.tails ≤ (s + 1 + 2) * f.tails := Nat.mul_le_mul_right _ (by omega)
        omega
    · refine ⟨y + f.tails, ?_, ?_⟩
      · rw [fq_dbl c, h1, Nat.pow_succ]; ac_rfl
      · rw [show s + 1 + 2 = (s + 2) + 1 by omega, Nat.add_mul (s + 2) 1, Nat.one_mul]; omega
/-- units that hold all quotients -/
def fq_D (f : Jvm.FP.Core.Fmt) : Nat := 2 * fp_V f (fp_I f)
theorem fq_div (hf : fp_ok f) {x y : Nat} (hx : x < fp_I f) (hy0 : 0 < y) (hy : y < fp_I f) : Jvm.FP.Core.div f x y = min (fp_P f (fq_D f) (fp_V f x * 2 ^ (fq_D f + (-f.qmin).toNat)) (fp_V f y)) (fp_I f) := by
  obtain ⟨c, q, e1, e2, e3⟩ := fp_dec hf hx
  obtain ⟨d, r, g1, g2, g3⟩ := fp_dec hf hy
  have hq0 := hf.2.2.2.2
  have hVy := fp_V_pos (f := f) hy0
  have hVI := (fp_V_lt hf).mpr hy
  have hd : 0 < d := by
    rcases Nat.eq_zero_or_pos d with z | z
    · rw [z, Nat.zero_mul] at g3; omega
    · exact z
  have hdV : d ≤ fp_V f y := by rw [← g3]; exact Nat.le_mul_of_pos_right _ (Nat.two_pow_pos _)
  have hrV : (r - f.qmin).toNat < fp_V f y := by
    refine Nat.lt_of_lt_of_le Nat.lt_two_pow_self ?_
    rw [← g3]; exact Nat.le_mul_of_pos_left _ hd
  unfold Jvm.FP.Core.div
  rw [e1, g1]
  show Jvm.FP.Core.encode f (if d = 0 then _ else Jvm.FP.Core.roundRatio f false c d (q - r)) = _
  rw [if_neg (by omega)]
  by_cases hc : c = 0
  · rw [← e3, hc, Nat.zero_mul, Nat.zero_mul]
    show Jvm.FP.Core.encode f (.fin false 0 f.qmin) = _
    unfold fp_P
    rw [if_pos rfl, Nat.zero_min]
    show (if 0 < f.tails then Jvm.FP.Core.assemble f false 0 0 else _) = 0
    rw [if_pos (fp_tp f)]
    unfold Jvm.FP.Core.assemble
    simp
  · have hDv : fq_D f = 2 * fp_V f (fp_I f) := rfl
    have hb : d ≤ c * 2 ^ (q - r + ((fq_D f + (-f.qmin).toNat : Nat) : Int)).toNat := by
      refine Nat.le_trans ?_ (Nat.le_mul_of_pos_left _ (by omega))
      refine Nat.le_trans hdV (Nat.le_trans (Nat.le_of_lt Nat.lt_two_pow_self) (Nat.pow_le_pow_right (by decide) ?_))
      omega
    rw [fp_round hf (K := fq_D f + (-f.qmin).toNat) (M := fq_D f) (by omega) hd (by omega) (by omega) hb]
    congr 1
    have hk : c * 2 ^ (q - r + ((fq_D f + (-f.qmin).toNat : Nat) : Int)).toNat * fp_V f y = fp_V f x * 2 ^ (fq_D f + (-f.qmin).toNat) * d := by
      rw [← e3, ← g3]
      have : 2 ^ (q - r + ((fq_D f + (-f.qmin).toNat : Nat) : Int)).toNat * 2 ^ (r - f.qmin).toNat = 2 ^ (q - f.qmin).toNat * 2 ^ (fq_D f + (-f.qmin).toNat) := by
        rw [← Nat.pow_add, ← Nat.pow_add]
        congr 1
        omega
      calc c * 2 ^ (q - r + ((fq_D f + (-f.qmin).toNat : Nat) : Int)).toNat * (d * 2 ^ (r - f.qmin).toNat) = c * d * (2 ^ (q - r + ((fq_D f + (-f.qmin).toNat : Nat) : Int)).toNat * 2 ^ (r - f.qmin).toNat) := by ac_rfl
        _ = c * d * (2 ^ (q - f.qmin).toNat * 2 ^ (fq_D f + (-f.qmin).toNat)) := by rw [this]
        _ = _ := by ac_rfl
    have hVx : 0 < fp_V f x := by rw [← e3]; exact Nat.mul_pos (by omega) (Nat.two_pow_pos _)
    have hb2 : fp_V f y ≤ fp_V f x * 2 ^ (fq_D f + (-f.qmin).toNat) := by
      refine Nat.le_trans ?_ (Nat.le_mul_of_pos_left _ hVx)
      refine Nat.le_trans (Nat.le_of_lt Nat.lt_two_pow_self) (Nat.pow_le_pow_right (by decide) ?_)
      omega
    exact Nat.le_antisymm (fp_mono hf hd hVy (.inr hb) (.inr hb2) (Nat.le_of_eq hk)) (fp_mono hf hVy hd (.inr hb2) (.inr hb) (Nat.le_of_eq hk.symm))
theorem fq_le2 (hf : fp_ok f) {x y : Nat} (hx0 : 0 < x) (hy : y < fp_I f) : fp_V f y ≤ fp_V f x * 2 ^ (fq_D f + (-f.qmin).toNat) := by
  have hVI := (fp_V_lt hf).mpr hy
  have hDv : fq_D f = 2 * fp_V f (fp_I f) := rfl
  refine Nat.le_trans ?_ (Nat.le_mul_of_pos_left _ (fp_V_pos hx0))
  refine Nat.le_trans (Nat.le_of_lt Nat.lt_two_pow_self) (Nat.pow_le_pow_right (by decide) ?_)
  omega
theorem fq_div_mono (hf : fp_ok f) {x x' y y' : Nat} (hx' : x' < fp_I f) (hy0' : 0 < y') (hy : y < fp_I f) (h1 : x ≤ x') (h2 : y' ≤ y) : Jvm.FP.Core.div f x y ≤ Jvm.FP.Core.div f x' y' := by
  rw [fq_div hf (by omega) (by omega) hy, fq_div hf hx' hy0' (by omega)]
  have h3 := (fp_V_le hf).mpr h1
  have h4 := (fp_V_le hf).mpr h2
  have : fp_P f (fq_D f) (fp_V f x * 2 ^ (fq_D f + (-f.qmin).toNat)) (fp_V f y) ≤ fp_P f (fq_D f) (fp_V f x' * 2 ^ (fq_D f + (-f.qmin).toNat)) (fp_V f y') := by
    refine fp_mono hf (fp_V_pos (by omega)) (fp_V_pos hy0') ?_ ?_ (Nat.mul_le_mul (Nat.mul_le_mul_right _ h3) h4)
    · rcases Nat.eq_zero_or_pos x with z | z
      · left; rw [z, fp_V_0, Nat.zero_mul]
      · right; exact fq_le2 hf z hy
    · rcases Nat.eq_zero_or_pos x' with z | z
      · left; rw [z, fp_V_0, Nat.zero_mul]
      · right; exact fq_le2 hf z (by omega)
  omega
theorem fq_div_ex (hf : fp_ok f) {x y z : Nat} (hx : x < fp_I f) (hy0 : 0 < y) (hy : y < fp_I f) (hz : z < fp_I f) (h : fp_V f x * 2 ^ (-f.qmin).toNat = fp_V f z * fp_V f y) : Jvm.FP.Core.div f x y = z := by
  rw [fq_div hf hx hy0 hy, Nat.pow_add, Nat.mul_comm (2 ^ fq_D f), ← Nat.mul_assoc, h, show fp_V f z * fp_V f y * 2 ^ fq_D f = fp_V f z * 2 ^ fq_D f * fp_V f y by ac_rfl, fp_exact hf _ (fp_V_pos hy0)]
  omega
theorem fq_mul_ex (hf : fp_ok f) {x y z : Nat} (hx : x < fp_I f) (hy : y < fp_I f) (hz : z < fp_I f) (h : fp_V f x * fp_V f y = fp_V f z * 2 ^ (-f.qmin).toNat) : Jvm.FP.Core.mul f x y = z := by
  rw [fp_mul hf hx hy, h, show fp_V f z * 2 ^ (-f.qmin).toNat = fp_V f z * 2 ^ (-f.qmin).toNat * 1 by omega, fp_exact hf _ (by decide)]
  omega
/-- twice, half -/
theorem fq_half (hf : fp_ok f) {x two : Nat} (h2 : fp_V f two = 2 * 2 ^ (-f.qmin).toNat) (h2I : two < fp_I f) (hx : x + f.tails < fp_I f) (hl : f.tails ≤ x) : Jvm.FP.Core.div f (x + f.tails) two = x := by
  refine fq_div_ex hf hx ?_ h2I (by omega) ?_
  · rcases Nat.eq_zero_or_pos two with z | z
    · rw [z, fp_V_0] at h2
      have := Nat.two_pow_pos (-f.qmin).toNat
      omega
    · exact z
  · rw [fq_dbl hl, h2]; ac_rfl
theorem fq_twice (hf : fp_ok f) {x two : Nat} (h2 : fp_V f two = 2 * 2 ^ (-f.qmin).toNat) (h2I : two < fp_I f) (hx : x + f.tails < fp_I f) (hl : f.tails ≤ x) : Jvm.FP.Core.mul f x two = x + f.tails := by
  refine fq_mul_ex hf (by omega) h2I hx ?_
  rw [fq_dbl hl, h2]; ac_rfl
/-- what stands behind the leading digit -/
theorem fq_tail (hf : fp_ok f) {m one big e : Nat} (hm : m < f.tails) (h1 : one = (e + 1) * f.tails) (he : (e + 3) * f.tails ≤ fp_I f) (hQ : f.tails * 2 ^ e = 2 ^ (-f.qmin).toNat) (hB : fp_V f big = f.tails * 2 ^ (-f.qmin).toNat) (hbI : big < fp_I f) (hQI : ((-f.qmin).toNat + 2) * f.tails ≤ fp_I f) : Jvm.FP.Core.sub f (one + m) one < fp_I f ∧ ∃ z, Jvm.FP.Core.mul f (Jvm.FP.Core.sub f (one + m) one) big = z ∧ z < fp_I f ∧ fp_V f z = m * 2 ^ (-f.qmin).toNat := by
  have ht := fp_tp f
  have hV : ∀ k, k < f.tails → fp_V f (one + k) = (f.tails + k) * 2 ^ e := fun k hk => by
    unfold fp_V
    have hge : f.tails ≤ one := by rw [h1]; exact Nat.le_mul_of_pos_left _ (by omega)
    rw [if_neg (by omega), h1, Nat.add_comm _ k, Nat.add_mul_mod_self_right, Nat.mod_eq_of_lt hk, Nat.add_mul_div_right _ _ ht, Nat.div_eq_of_lt hk]
    congr 2
    omega
  have h1I : one + m < fp_I f := by
    rw [h1]
    have : (e + 3) * f.tails = (e + 1) * f.tails + 2 * f.tails := by rw [← Nat.add_mul]
    omega
  obtain ⟨y, y1, y2⟩ := fq_rep (f := f) m (by omega) e
  have hyI : y < fp_I f := by
    have : (e + 2) * f.tails ≤ (e + 3) * f.tails := Nat.mul_le_mul_right _ (by omega)
    omega
  have hs : Jvm.FP.Core.sub f (one + m) one = y := by
    rw [fp_sub hf h1I (by omega), hV m hm, show one = one + 0 from rfl, hV 0 ht, ← Nat.sub_mul, show f.tails + m - (f.tails + 0) = m by omega, ← y1, fp_ex0 hf]
  rw [hs]
  refine ⟨hyI, ?_⟩
  obtain ⟨z, z1, z2⟩ := fq_rep (f := f) m (by omega) (-f.qmin).toNat
  refine ⟨z, fq_mul_ex hf hyI hbI (by omega) ?_, by omega, z1⟩
  rw [y1, hB, z1, ← hQ]
  ac_rfl
/-- a whole number, cut -/
theorem fq_cut (hf : fp_ok f) {z m : Nat} (hz : z < fp_I f) (h : fp_V f z = m * 2 ^ (-f.qmin).toNat) {lo hi : Int} (h1 : lo ≤ m) (h2 : (m : Int) ≤ hi) : Jvm.FP.Core.toInt lo hi (Jvm.FP.Core.decode f z) = m := by
  obtain ⟨c, q, e1, e2, e3⟩ := fp_dec hf hz
  have hq0 := hf.2.2.2.2
  rw [e1]
  show max lo (min hi (Jvm.FP.Core.truncate false c q)) = m
  have : Jvm.FP.Core.truncate false c q = m := by
    show ((c * 2 ^ q.toNat / 2 ^ (-q).toNat : Nat) : Int) = m
    congr 1
    rw [h] at e3
    rcases Int.lt_or_le q 0 with c0 | c0
    · rw [show q.toNat = 0 by omega, Nat.pow_zero, Nat.mul_one]
      have : (-f.qmin).toNat = (q - f.qmin).toNat + (-q).toNat := by omega
      rw [this, Nat.pow_add, Nat.mul_comm (2 ^ _), ← Nat.mul_assoc] at e3
      have := Nat.eq_of_mul_eq_mul_right (Nat.two_pow_pos _) e3
      rw [this, Nat.mul_div_cancel _ (Nat.two_pow_pos _)]
    · rw [show (-q).toNat = 0 by omega, Nat.pow_zero, Nat.div_one]
      have : (q - f.qmin).toNat = q.toNat + (-f.qmin).toNat := by omega
      rw [this, Nat.pow_add, ← Nat.mul_assoc] at e3
      exact Nat.eq_of_mul_eq_mul_right (Nat.two_pow_pos _) e3
  rw [this]
  omega
end FPA
