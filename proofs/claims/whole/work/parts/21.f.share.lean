/-! pure part: SHARE as numbers (wip/whole/pure/21.f.share.src) -/
def dpw (a b : UInt64) : Nat → UInt64
  | 0 => a
  | n + 1 => FP.dmul (dpw a b n) b
/-- COPIES of the first DEGREES, in all -/
def dC (fd : Nat → Nat → Nat) : Nat → Nat
  | 0 => 0
  | k + 1 => dC fd k + (k + 1) * fd 4 (k + 1)
def dsm (fd : Nat → Nat → Nat) (h : UInt64) : Nat → UInt64
  | 0 => FP.dconst0
  | k + 1 => if fd 4 (k + 1) = 0 then dsm fd h k else FP.dadd (dsm fd h k) (dpw (FP.i2d (nI ((k + 1) * fd 4 (k + 1)))) h k)
def dX (fd : Nat → Nat → Nat) : UInt64 := FP.ddiv (FP.ddiv (FP.i2d (nI (dC fd 6))) (FP.i2d (nI (pu_W fd)))) (FP.i2d (nI (fd 0 1)))
def dR (fd : Nat → Nat → Nat) : UInt64 := if (dX fd).toNat ≤ 4607182418800017408 then dX fd else FP.dconst1
def dF (fd : Nat → Nat → Nat) (s : UInt64) : UInt64 := FP.dsub FP.dconst1 (FP.dmul (dR fd) s)
def dH (fd : Nat → Nat → Nat) (m : Nat) (s : UInt64) : UInt64 := FP.dsub FP.dconst1 (dpw FP.dconst1 (dF fd s) (m - 1))
def dN (fd : Nat → Nat → Nat) (m : Nat) (s : UInt64) : UInt64 := FP.ddiv (dsm fd (dH fd m s) 6) (FP.i2d (nI (dC fd 6)))
def dSh (fd : Nat → Nat → Nat) (m : Nat) : Nat → UInt64
  | 0 => FP.dconst1
  | l + 1 => dN fd m (dSh fd m l)
section SHARE
variable {fd : Nat → Nat → Nat}
/-- whole numbers -/
theorem id_v {n : Nat} (h : n < 2 ^ 31) : fp_V Jvm.FP.Core.b64 (FP.i2d (nI n)).toNat = n * 2 ^ (-Jvm.FP.Core.b64.qmin).toNat ∧ (FP.i2d (nI n)).toNat < fp_I Jvm.FP.Core.b64 := by
  obtain ⟨y, y1, y2⟩ := fq_rep (f := Jvm.FP.Core.b64) n (by rw [ds_t]; omega) (-Jvm.FP.Core.b64.qmin).toNat
  have hI := dI_v
  have hyI : y < fp_I Jvm.FP.Core.b64 := by
    refine Nat.lt_of_lt_of_le y2 ?_
    rw [ds_q, ds_t, hI]; decide
  have hq := fp_ok64.2.2.2.2
  have e : (FP.i2d (nI n)).toNat = y := by
    show (UInt64.ofNat (Jvm.FP.Core.encode Jvm.FP.Core.b64 (Jvm.FP.Core.roundRatio Jvm.FP.Core.b64 (decide ((nI n).toInt < 0)) (nI n).toInt.natAbs 1 0))).toNat = _
    rw [nI_toInt h, decide_eq_false (by omega), show ((n : Int)).natAbs = n by omega, fp_R0 fp_ok64 hq, show ((0 : Int) - Jvm.FP.Core.b64.qmin).toNat = (-Jvm.FP.Core.b64.qmin).toNat by omega, ← y1, fp_ex0 fp_ok64, do_nat (by omega)]
    omega
  rw [e]
  exact ⟨y1, hyI⟩
theorem id_le {n m : Nat} (h : n ≤ m) (hm : m < 2 ^ 31) : (FP.i2d (nI n)).toNat ≤ (FP.i2d (nI m)).toNat := by
  rw [← fp_V_le fp_ok64, (id_v (n := n) (by omega)).1, (id_v hm).1]
  exact Nat.mul_le_mul_right _ h
theorem id_0 : (FP.i2d (nI 0)).toNat = 0 := by decide +kernel
theorem id_1 : (FP.i2d (nI 1)).toNat = 4607182418800017408 := by decide +kernel
theorem id_add {n m : Nat} (h : n + m < 2 ^ 31) : (FP.dadd (FP.i2d (nI n)) (FP.i2d (nI m))).toNat = (FP.i2d (nI (n + m))).toNat := by
  obtain ⟨a1, a2⟩ := id_v (n := n) (by omega)
  obtain ⟨b1, b2⟩ := id_v (n := m) (by omega)
  obtain ⟨c1, c2⟩ := id_v (n := n + m) h
  rw [da_nat a2 b2, a1, b1, ← Nat.add_mul, ← c1, fp_ex0 fp_ok64]
  omega
theorem dm_11 : (FP.dmul FP.dconst1 FP.dconst1).toNat = 4607182418800017408 := by decide +kernel
/-- times 1 -/
theorem dm_1 {a : UInt64} (ha : a.toNat < fp_I Jvm.FP.Core.b64) : (FP.dmul a FP.dconst1).toNat = a.toNat := by
  show (UInt64.ofNat (Jvm.FP.Core.mul Jvm.FP.Core.b64 a.toNat FP.dconst1.toNat)).toNat = _
  rw [ds_c1, fq_mul_ex fp_ok64 (z := a.toNat) ha (by rw [dI_v]; decide) ha (by rw [ds_one]), do_nat (by omega)]
theorem dm_le {a b : UInt64} (ha : a.toNat < fp_I Jvm.FP.Core.b64) (hb : b.toNat ≤ 4607182418800017408) : (FP.dmul a b).toNat ≤ a.toNat := by
  have hI := dI_v
  have := dm_mono (a := a) (b := b) (a' := a) (b' := FP.dconst1) (Nat.le_refl _) (by rw [ds_c1]; exact hb) ha (by rw [ds_c1]; omega)
  rw [dm_1 ha] at this
  exact this
theorem dm_0 {a b : UInt64} (ha : a.toNat < fp_I Jvm.FP.Core.b64) (hb : b.toNat = 0) : (FP.dmul a b).toNat = 0 := by
  have hI := dI_v
  rw [dm_nat ha (by omega), hb, fp_V_0, Nat.mul_zero]
  unfold fp_P
  rw [if_pos rfl, Nat.zero_min]
theorem dpw_le {a b : UInt64} (ha : a.toNat < fp_I Jvm.FP.Core.b64) (hb : b.toNat ≤ 4607182418800017408) : ∀ n, (dpw a b n).toNat ≤ a.toNat
  | 0 => Nat.le_refl _
  | n + 1 => by
    have ih := dpw_le ha hb n
    exact Nat.le_trans (dm_le (by omega) hb) ih
theorem dpw_0 {a b : UInt64} (ha : a.toNat < fp_I Jvm.FP.Core.b64) (hb : b.toNat = 0) (n : Nat) : (dpw a b (n + 1)).toNat = 0 := dm_0 (by
  have := dpw_le ha (b := b) (by omega) n
  omega) hb
theorem dpw_mono {a b a' b' : UInt64} (h1 : a.toNat ≤ a'.toNat) (h2 : b.toNat ≤ b'.toNat) (ha : a'.toNat < fp_I Jvm.FP.Core.b64) (hb : b'.toNat ≤ 4607182418800017408) : ∀ n, (dpw a b n).toNat ≤ (dpw a' b' n).toNat
  | 0 => h1
  | n + 1 => by
    have hI := dI_v
    have ih := dpw_mono h1 h2 ha hb n
    have hl := dpw_le ha hb n
    exact dm_mono ih h2 (by omega) (by omega)
theorem low5 : ∀ k, k < 6 → 3413728517546835968 ≤ (dpw FP.dconst1 (4368491638549381120 : UInt64) k).toNat := by decide +kernel
theorem hold53 : (FP.dsub FP.dconst1 (4607182418800017407 : UInt64)).toNat = 4368491638549381120 := by decide +kernel
theorem dR_le (fd : Nat → Nat → Nat) : (dR fd).toNat ≤ 4607182418800017408 := by
  unfold dR
  split
  · assumption
  · rw [ds_c1]; omega
theorem dF_le {s : UInt64} (hs : s.toNat ≤ 4607182418800017408) : (FP.dmul (dR fd) s).toNat ≤ 4607182418800017408 ∧ (dF fd s).toNat ≤ 4607182418800017408 := by
  have hI := dI_v
  have h1 := dR_le fd
  have h2 : (FP.dmul (dR fd) s).toNat ≤ 4607182418800017408 := Nat.le_trans (dm_le (by omega) hs) h1
  refine ⟨h2, ?_⟩
  have := (ds_nat (a := FP.dconst1) (b := FP.dmul (dR fd) s) (by rw [ds_c1]; omega) (by rw [ds_c1]; exact h2)).2
  rw [ds_c1] at this
  exact this
theorem dH_le {s : UInt64} (hs : s.toNat ≤ 4607182418800017408) (m : Nat) : (dpw FP.dconst1 (dF fd s) (m - 1)).toNat ≤ 4607182418800017408 ∧ (dH fd m s).toNat ≤ 4607182418800017408 ∧ ((dH fd m s).toNat = 0 ∨ 4368491638549381120 ≤ (dH fd m s).toNat) := by
  have hI := dI_v
  obtain ⟨h1, h2⟩ := dF_le (fd := fd) hs
  have h3 := dpw_le (a := FP.dconst1) (by rw [ds_c1]; omega) h2 (m - 1)
  rw [ds_c1] at h3
  have h4 := ds_nat (a := FP.dconst1) (b := dpw FP.dconst1 (dF fd s) (m - 1)) (by rw [ds_c1]; omega) (by rw [ds_c1]; exact h3)
  refine ⟨h3, ?_, ?_⟩
  · have := h4.2
    rw [ds_c1] at this
    exact this
  · rcases Nat.lt_or_ge (dpw FP.dconst1 (dF fd s) (m - 1)).toNat 4607182418800017408 with c | c
    · right
      rw [← hold53]
      exact ds_anti (by rw [ds_c1]; omega) (by show _ ≤ 4607182418800017407; omega) (by rw [ds_c1]; show 4607182418800017407 ≤ _; omega)
    · left
      have e : (dpw FP.dconst1 (dF fd s) (m - 1)).toNat = 4607182418800017408 := by omega
      show (FP.dsub _ _).toNat = 0
      rw [h4.1, e, ds_c1, Nat.sub_self]
      unfold fp_P
      rw [if_pos rfl]
theorem dC_le (hF : wF fd) : dC fd 6 ≤ 3564 ∧ (pu_W fd ≠ 0 → 1 ≤ dC fd 6) ∧ ∀ i, i ≤ 6 → dC fd i ≤ dC fd 6 := by
  have h := hF.2.2.2.2.2.2.2.2
  have e6 : dC fd 6 = 0 + 1 * fd 4 1 + 2 * fd 4 2 + 3 * fd 4 3 + 4 * fd 4 4 + 5 * fd 4 5 + 6 * fd 4 6 := rfl
  refine ⟨?_, fun hw => ?_, fun i hi => ?_⟩
  · rw [e6]; omega
  · rw [e6]
    unfold pu_W at hw
    omega
  · rcases (show i = 0 ∨ i = 1 ∨ i = 2 ∨ i = 3 ∨ i = 4 ∨ i = 5 ∨ i = 6 by omega) with e | e | e | e | e | e | e <;> subst e
    · exact Nat.zero_le _
    · rw [e6]; show 0 + 1 * fd 4 1 ≤ _; omega
    · rw [e6]; show 0 + 1 * fd 4 1 + 2 * fd 4 2 ≤ _; omega
    · rw [e6]; show 0 + 1 * fd 4 1 + 2 * fd 4 2 + 3 * fd 4 3 ≤ _; omega
    · rw [e6]; show 0 + 1 * fd 4 1 + 2 * fd 4 2 + 3 * fd 4 3 + 4 * fd 4 4 ≤ _; omega
    · rw [e6]; show 0 + 1 * fd 4 1 + 2 * fd 4 2 + 3 * fd 4 3 + 4 * fd 4 4 + 5 * fd 4 5 ≤ _; omega
    · exact Nat.le_refl _
theorem kw_le (hF : wF fd) {k : Nat} (hk : k < 6) : (k + 1) * fd 4 (k + 1) ≤ 3564 := by
  have h1 := (dC_le hF).1
  have h2 := (dC_le hF).2.2 (k + 1) (by omega)
  have : dC fd (k + 1) = dC fd k + (k + 1) * fd 4 (k + 1) := rfl
  omega
/-- a part of the sum -/
theorem dpt_le (hF : wF fd) {h : UInt64} (hh : h.toNat ≤ 4607182418800017408) {k : Nat} (hk : k < 6) (e : Nat) : (dpw (FP.i2d (nI ((k + 1) * fd 4 (k + 1)))) h e).toNat ≤ (FP.i2d (nI ((k + 1) * fd 4 (k + 1)))).toNat := dpw_le (id_v (by have := kw_le hF hk; omega)).2 hh e
theorem dsm_le (hF : wF fd) {h : UInt64} (hh : h.toNat ≤ 4607182418800017408) : ∀ i, i ≤ 6 → (dsm fd h i).toNat ≤ (FP.i2d (nI (dC fd i))).toNat
  | 0, _ => by
    show FP.dconst0.toNat ≤ _
    rw [ds_c0]; exact Nat.zero_le _
  | i + 1, hi => by
    have ih := dsm_le hF hh i (by omega)
    have h1 := (dC_le hF).1
    have h2 := (dC_le hF).2.2 (i + 1) hi
    have e1 : dC fd (i + 1) = dC fd i + (i + 1) * fd 4 (i + 1) := rfl
    have hk := dpt_le hF hh (k := i) (by omega) i
    show (if fd 4 (i + 1) = 0 then dsm fd h i else FP.dadd (dsm fd h i) (dpw (FP.i2d (nI ((i + 1) * fd 4 (i + 1)))) h i)).toNat ≤ _
    split
    · exact Nat.le_trans ih (id_le (by omega) (by omega))
    · rw [e1, ← id_add (by omega)]
      exact da_mono ih hk (id_v (by omega)).2 (id_v (by omega)).2
theorem da_up2 {a b : UInt64} (ha : a.toNat < fp_I Jvm.FP.Core.b64) (hb : b.toNat < fp_I Jvm.FP.Core.b64) : b.toNat ≤ (FP.dadd a b).toNat := by
  rw [da_nat ha hb]
  have h1 := dp_mono1 (M := 0) (show fp_V Jvm.FP.Core.b64 b.toNat ≤ fp_V Jvm.FP.Core.b64 a.toNat + fp_V Jvm.FP.Core.b64 b.toNat by omega)
  rw [fp_ex0 fp_ok64] at h1
  omega
theorem da_0 {a b : UInt64} (ha : a.toNat < fp_I Jvm.FP.Core.b64) (hb : b.toNat = 0) : (FP.dadd a b).toNat = a.toNat := by
  have hI := dI_v
  rw [da_nat ha (by omega), hb, fp_V_0, Nat.add_zero, fp_ex0 fp_ok64]
  omega
theorem dsm_lo (hF : wF fd) {h : UInt64} (hh : h.toNat ≤ 4607182418800017408) (h0 : h.toNat = 0 ∨ 4368491638549381120 ≤ h.toNat) : ∀ i, i ≤ 6 → (dsm fd h i).toNat = 0 ∨ 3413728517546835968 ≤ (dsm fd h i).toNat
  | 0, _ => .inl ds_c0
  | i + 1, hi => by
    have hI := dI_v
    have ih := dsm_lo hF hh h0 i (by omega)
    have h1 := (dC_le hF).1
    have h2 := (dC_le hF).2.2 i (by omega)
    have hs := dsm_le hF hh i (by omega)
    have hsI : (dsm fd h i).toNat < fp_I Jvm.FP.Core.b64 := Nat.lt_of_le_of_lt hs (id_v (by omega)).2
    have hkw := kw_le hF (k := i) (by omega)
    have hk := dpt_le hF hh (k := i) (by omega) i
    have hkI : (dpw (FP.i2d (nI ((i + 1) * fd 4 (i + 1)))) h i).toNat < fp_I Jvm.FP.Core.b64 := Nat.lt_of_le_of_lt hk (id_v (by omega)).2
    show (if fd 4 (i + 1) = 0 then dsm fd h i else FP.dadd (dsm fd h i) (dpw (FP.i2d (nI ((i + 1) * fd 4 (i + 1)))) h i)).toNat = 0 ∨ _ ≤ (if fd 4 (i + 1) = 0 then dsm fd h i else FP.dadd (dsm fd h i) (dpw (FP.i2d (nI ((i + 1) * fd 4 (i + 1)))) h i)).toNat
    split
    · exact ih
    · rename_i hw
      have hp : 1 ≤ (i + 1) * fd 4 (i + 1) := Nat.mul_pos (by omega) (by omega)
      have hid : 4607182418800017408 ≤ (FP.i2d (nI ((i + 1) * fd 4 (i + 1)))).toNat := by rw [← id_1]; exact id_le hp (by omega)
      rcases h0 with z | z
      · cases i with
        | zero =>
          right
          exact Nat.le_trans (Nat.le_trans (by omega) hid) (da_up2 hsI hkI)
        | succ i' =>
          have e := dpw_0 (a := FP.i2d (nI ((i' + 1 + 1) * fd 4 (i' + 1 + 1)))) (id_v (by omega)).2 z i'
          rw [da_0 hsI e]
          exact ih
      · right
        have e1 := dpw_mono (a := FP.dconst1) (b := (4368491638549381120 : UInt64)) (a' := FP.i2d (nI ((i + 1) * fd 4 (i + 1)))) (b' := h) (by rw [ds_c1]; exact hid) z (id_v (by omega)).2 hh i
        exact Nat.le_trans (Nat.le_trans (low5 i (by omega)) e1) (da_up2 hsI hkI)
theorem dq_lo : 4503599627370496 ≤ (FP.ddiv (3413728517546835968 : UInt64) (FP.i2d (nI 3564))).toNat := by decide +kernel
theorem dd_self {a : UInt64} (h0 : 0 < a.toNat) (ha : a.toNat < fp_I Jvm.FP.Core.b64) : (FP.ddiv a a).toNat = 4607182418800017408 := by
  have hI := dI_v
  show (UInt64.ofNat (Jvm.FP.Core.div Jvm.FP.Core.b64 a.toNat a.toNat)).toNat = _
  rw [fq_div_ex fp_ok64 (z := 4607182418800017408) ha h0 ha (by omega) (by rw [ds_one, Nat.mul_comm]), do_nat (by omega)]
theorem dd_0 {a b : UInt64} (h0 : a.toNat = 0) (hb0 : 0 < b.toNat) (hb : b.toNat < fp_I Jvm.FP.Core.b64) : (FP.ddiv a b).toNat = 0 := by
  have hI := dI_v
  show (UInt64.ofNat (Jvm.FP.Core.div Jvm.FP.Core.b64 a.toNat b.toNat)).toNat = _
  rw [fq_div fp_ok64 (by omega) hb0 hb, h0, fp_V_0, Nat.zero_mul]
  unfold fp_P
  rw [if_pos rfl, Nat.zero_min]
  rfl
theorem dN_ok (hF : wF fd) (hW : pu_W fd ≠ 0) {s : UInt64} (hs : s.toNat ≤ 4607182418800017408) (m : Nat) : (dN fd m s).toNat ≤ 4607182418800017408 ∧ ((dN fd m s).toNat = 0 ∨ 4503599627370496 ≤ (dN fd m s).toNat) := by
  have hI := dI_v
  obtain ⟨h1, h2, h3⟩ := dH_le (fd := fd) hs m
  obtain ⟨c1, c2, c3⟩ := dC_le hF
  have c2 := c2 hW
  have s1 := dsm_le hF h2 6 (by omega)
  have s2 := dsm_lo hF h2 h3 6 (by omega)
  obtain ⟨v1, v2⟩ := id_v (n := dC fd 6) (by omega)
  have v3 : 4607182418800017408 ≤ (FP.i2d (nI (dC fd 6))).toNat := by rw [← id_1]; exact id_le c2 (by omega)
  unfold dN
  constructor
  · rw [← dd_self (a := FP.i2d (nI (dC fd 6))) (by omega) v2]
    exact dd_mono s1 (Nat.le_refl _) v2 (by omega) v2
  · rcases s2 with e | e
    · left; exact dd_0 e (by omega) v2
    · right
      refine Nat.le_trans dq_lo (dd_mono (by show 3413728517546835968 ≤ _; exact e) (id_le c1 (by omega)) (Nat.lt_of_le_of_lt s1 v2) (by omega) (id_v (by omega)).2)
theorem dSh_ok (hF : wF fd) (hW : pu_W fd ≠ 0) (m : Nat) : ∀ l, (dSh fd m l).toNat ≤ 4607182418800017408 ∧ ((dSh fd m l).toNat = 0 ∨ 4503599627370496 ≤ (dSh fd m l).toNat)
  | 0 => by
    show FP.dconst1.toNat ≤ _ ∧ (FP.dconst1.toNat = 0 ∨ _ ≤ FP.dconst1.toNat)
    rw [ds_c1]; omega
  | l + 1 => dN_ok hF hW (dSh_ok hF hW m l).1 m
theorem dSh_fix {m i : Nat} (h : dSh fd m (i + 1) = dSh fd m i) : ∀ d, dSh fd m (i + d) = dSh fd m i
  | 0 => rfl
  | d + 1 => by
    show dN fd m (dSh fd m (i + d)) = _
    rw [dSh_fix h d]
    exact h
theorem dX_top1 : (FP.ddiv (FP.i2d (nI 3564)) (FP.i2d (nI 1))).toNat < 9218868437227405312 ∧ (FP.ddiv (FP.ddiv (FP.i2d (nI 3564)) (FP.i2d (nI 1))) (FP.i2d (nI 1))).toNat < 9218868437227405312 := by decide +kernel
theorem dX_ok (hF : wF fd) (hW : pu_W fd ≠ 0) : (FP.ddiv (FP.i2d (nI (dC fd 6))) (FP.i2d (nI (pu_W fd)))).toNat < 9218868437227405312 ∧ (dX fd).toNat < 9218868437227405312 := by
  have hI := dI_v
  have n0 := W_n hF hW
  have hS := (hF.2.2.2.1 n0).1
  have hS2 := hF.2.1
  have hWl := W_le hF
  obtain ⟨c1, c2, c3⟩ := dC_le hF
  have i1 := id_1
  have h1 : (FP.ddiv (FP.i2d (nI (dC fd 6))) (FP.i2d (nI (pu_W fd)))).toNat ≤ (FP.ddiv (FP.i2d (nI 3564)) (FP.i2d (nI 1))).toNat := dd_mono (id_le c1 (by omega)) (id_le (by omega) (by omega)) (id_v (by omega)).2 (by omega) (id_v (by omega)).2
  have t := dX_top1
  refine ⟨by omega, ?_⟩
  have h2 : (dX fd).toNat ≤ (FP.ddiv (FP.ddiv (FP.i2d (nI 3564)) (FP.i2d (nI 1))) (FP.i2d (nI 1))).toNat := dd_mono h1 (id_le (by omega) (by omega)) (by omega) (by omega) (id_v (by omega)).2
  omega
end SHARE
