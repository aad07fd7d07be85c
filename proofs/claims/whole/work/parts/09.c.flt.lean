/-! pure part: the floats of a FIELD; who is CLEAR among a crowd (wip/whole/pure/09.c.flt.src) -/
theorem fI_v : fp_I Jvm.FP.Core.b32 = 2139095040 := by decide +kernel
theorem fo_nat {a : Nat} (h : a ≤ fp_I Jvm.FP.Core.b32) : (UInt32.ofNat a).toNat = a := by
  rw [fI_v] at h
  exact UInt32.toNat_ofNat_of_lt' (by show a < 2 ^ 32; omega)
theorem fa_nat {a b : UInt32} (ha : a.toNat < fp_I Jvm.FP.Core.b32) (hb : b.toNat < fp_I Jvm.FP.Core.b32) : (FP.fadd a b).toNat = min (fp_P Jvm.FP.Core.b32 0 (fp_V Jvm.FP.Core.b32 a.toNat + fp_V Jvm.FP.Core.b32 b.toNat) 1) (fp_I Jvm.FP.Core.b32) := by
  show (UInt32.ofNat (Jvm.FP.Core.add Jvm.FP.Core.b32 a.toNat b.toNat)).toNat = _
  rw [fp_add fp_ok32 ha hb]
  exact fo_nat (Nat.min_le_right _ _)
theorem fm_nat {a b : UInt32} (ha : a.toNat < fp_I Jvm.FP.Core.b32) (hb : b.toNat < fp_I Jvm.FP.Core.b32) : (FP.fmul a b).toNat = min (fp_P Jvm.FP.Core.b32 (-Jvm.FP.Core.b32.qmin).toNat (fp_V Jvm.FP.Core.b32 a.toNat * fp_V Jvm.FP.Core.b32 b.toNat) 1) (fp_I Jvm.FP.Core.b32) := by
  show (UInt32.ofNat (Jvm.FP.Core.mul Jvm.FP.Core.b32 a.toNat b.toNat)).toNat = _
  rw [fp_mul fp_ok32 ha hb]
  exact fo_nat (Nat.min_le_right _ _)
theorem fp_minm {a b c : Nat} (h : a ≤ b) : min a c ≤ min b c := by omega
theorem fp_mono1 {M a b : Nat} (h : a ≤ b) : fp_P Jvm.FP.Core.b32 M a 1 ≤ fp_P Jvm.FP.Core.b32 M b 1 := fp_mono fp_ok32 (by decide) (by decide) (by omega) (by omega) (by omega)
/-- sums and products rise with what they are made of -/
theorem fa_mono {a b a' b' : UInt32} (ha : a.toNat ≤ a'.toNat) (hb : b.toNat ≤ b'.toNat) (ha' : a'.toNat < fp_I Jvm.FP.Core.b32) (hb' : b'.toNat < fp_I Jvm.FP.Core.b32) : (FP.fadd a b).toNat ≤ (FP.fadd a' b').toNat := by
  rw [fa_nat (by omega) (by omega), fa_nat ha' hb']
  exact fp_minm (fp_mono1 (Nat.add_le_add ((fp_V_le fp_ok32).mpr ha) ((fp_V_le fp_ok32).mpr hb)))
theorem fm_mono {a b a' b' : UInt32} (ha : a.toNat ≤ a'.toNat) (hb : b.toNat ≤ b'.toNat) (ha' : a'.toNat < fp_I Jvm.FP.Core.b32) (hb' : b'.toNat < fp_I Jvm.FP.Core.b32) : (FP.fmul a b).toNat ≤ (FP.fmul a' b').toNat := by
  rw [fm_nat (by omega) (by omega), fm_nat ha' hb']
  exact fp_minm (fp_mono1 (Nat.mul_le_mul ((fp_V_le fp_ok32).mpr ha) ((fp_V_le fp_ok32).mpr hb)))
/-- a sum is no less than what it is made of -/
theorem fa_up {a b : UInt32} (ha : a.toNat < fp_I Jvm.FP.Core.b32) (hb : b.toNat < fp_I Jvm.FP.Core.b32) : a.toNat ≤ (FP.fadd a b).toNat := by
  rw [fa_nat ha hb]
  have h1 := fp_mono1 (M := 0) (show fp_V Jvm.FP.Core.b32 a.toNat ≤ fp_V Jvm.FP.Core.b32 a.toNat + fp_V Jvm.FP.Core.b32 b.toNat by omega)
  rw [fp_ex0 fp_ok32] at h1
  omega
theorem fc_lt {a b : UInt32} (ha : a.toNat < fp_I Jvm.FP.Core.b32) (hb : b.toNat < fp_I Jvm.FP.Core.b32) : (Op.cmpValue (FP.fcmp a b) .l < nI 0) = (a.toNat < b.toNat) := by
  show (Op.cmpValue (Jvm.FP.Core.cmp Jvm.FP.Core.b32 a.toNat b.toNat) .l < nI 0) = _
  rw [fp_cmp fp_ok32 ha hb]
  rcases Nat.lt_trichotomy a.toNat b.toNat with z | z | z
  · rw [Nat.compare_eq_lt.mpr z]
    exact propext ⟨fun _ => z, fun _ => by decide⟩
  · rw [Nat.compare_eq_eq.mpr z]
    exact propext ⟨fun h => absurd h (by decide), fun h => by omega⟩
  · rw [Nat.compare_eq_gt.mpr z]
    exact propext ⟨fun h => absurd h (by decide), fun h => by omega⟩
theorem fc_le {a b : UInt32} (ha : a.toNat < fp_I Jvm.FP.Core.b32) (hb : b.toNat < fp_I Jvm.FP.Core.b32) : (Op.cmpValue (FP.fcmp a b) .l ≤ nI 0) = (a.toNat ≤ b.toNat) := by
  show (Op.cmpValue (Jvm.FP.Core.cmp Jvm.FP.Core.b32 a.toNat b.toNat) .l ≤ nI 0) = _
  rw [fp_cmp fp_ok32 ha hb]
  rcases Nat.lt_trichotomy a.toNat b.toNat with z | z | z
  · rw [Nat.compare_eq_lt.mpr z]
    exact propext ⟨fun _ => by omega, fun _ => by decide⟩
  · rw [Nat.compare_eq_eq.mpr z]
    exact propext ⟨fun _ => by omega, fun _ => by decide⟩
  · rw [Nat.compare_eq_gt.mpr z]
    exact propext ⟨fun h => absurd h (by decide), fun h => by omega⟩
theorem fn_ok {α : Type} {x : UInt32} {k : Option α} (h : x.toNat < fp_I Jvm.FP.Core.b32) : am_n32 x k = k := by
  rw [fI_v] at h
  unfold am_n32
  rw [if_pos]
  rw [UInt32.le_iff_toNat_le, UInt32.toNat_and]
  refine Nat.le_trans Nat.and_le_left ?_
  rw [show (0x7f800000 : UInt32).toNat = 2139095040 by decide]
  omega
/-- the FIELD: fd 0: USERS, SLOTS, FRAMES, NOISE; 1 POWER, 2 FAR, 3 FRAME of a USER, 4 WEIGHT of k -/
def wF (fd : Nat → Nat → Nat) : Prop := (fd 0 0) ≤ 10 ∧ (fd 0 1) ≤ 12 ∧ (fd 0 2) ≤ 4 ∧ (0 < (fd 0 0) → 2 ≤ (fd 0 1) ∧ 1 ≤ (fd 0 2)) ∧ (fd 0 3) ≤ 99 ∧ (∀ u, u < (fd 0 0) → 1 ≤ fd 1 u ∧ fd 1 u ≤ 99 ∧ 1 ≤ fd 2 u ∧ fd 2 u ≤ 9 ∧ fd 3 u < (fd 0 2)) ∧ (∀ k, fd 4 k ≤ 594) ∧ ((fd 0 0) = 0 → (fd 0 1) = 0 ∧ (fd 0 2) = 0 ∧ ∀ k, fd 4 k = 0) ∧ fd 4 1 + fd 4 2 + fd 4 3 + fd 4 4 + fd 4 5 + fd 4 6 ≤ 594
/-- STRENGTH -/
def pu_f (fd : Nat → Nat → Nat) (u : Nat) : UInt32 := FP.fdiv (FP.fdiv (FP.fdiv (FP.i2f (nI (fd 1 u))) (1092616192 : UInt32)) (FP.i2f (nI (fd 2 u)))) (FP.i2f (nI (fd 2 u)))
/-- a number of tenths -/
def pu_t (c : Nat) : UInt32 := FP.fdiv (FP.i2f (nI c)) (1092616192 : UInt32)
def pu_fb (p g : Nat) : Bool := decide ((FP.fdiv (FP.i2f (nI p)) (1092616192 : UInt32)).toNat < 2139095040) && (decide ((FP.fdiv (FP.fdiv (FP.i2f (nI p)) (1092616192 : UInt32)) (FP.i2f (nI g))).toNat < 2139095040) && (decide (981467136 ≤ (FP.fdiv (FP.fdiv (FP.fdiv (FP.i2f (nI p)) (1092616192 : UInt32)) (FP.i2f (nI g))) (FP.i2f (nI g))).toNat) && decide ((FP.fdiv (FP.fdiv (FP.fdiv (FP.i2f (nI p)) (1092616192 : UInt32)) (FP.i2f (nI g))) (FP.i2f (nI g))).toNat ≤ 1092616192)))
theorem pu_fb_all : ∀ p, p < 99 → ∀ g, g < 9 → pu_fb (p + 1) (g + 1) = true := by decide +kernel
theorem pu_f_all (p : Nat) (hp : p < 100) (g : Nat) (hg : g < 10) (hp1 : 1 ≤ p) (hg1 : 1 ≤ g) : (FP.fdiv (FP.i2f (nI p)) (1092616192 : UInt32)).toNat < 2139095040 ∧ (FP.fdiv (FP.fdiv (FP.i2f (nI p)) (1092616192 : UInt32)) (FP.i2f (nI g))).toNat < 2139095040 ∧ 981467136 ≤ (FP.fdiv (FP.fdiv (FP.fdiv (FP.i2f (nI p)) (1092616192 : UInt32)) (FP.i2f (nI g))) (FP.i2f (nI g))).toNat ∧ (FP.fdiv (FP.fdiv (FP.fdiv (FP.i2f (nI p)) (1092616192 : UInt32)) (FP.i2f (nI g))) (FP.i2f (nI g))).toNat ≤ 1092616192 := by
  have h := pu_fb_all (p - 1) (by omega) (g - 1) (by omega)
  rw [show p - 1 + 1 = p by omega, show g - 1 + 1 = g by omega] at h
  unfold pu_fb at h
  rw [Bool.and_eq_true, Bool.and_eq_true, Bool.and_eq_true, decide_eq_true_iff, decide_eq_true_iff, decide_eq_true_iff, decide_eq_true_iff] at h
  exact h
theorem pu_t_all : ∀ c, c < 100 → (pu_t c).toNat ≤ 1092616192 ∧ (pu_t c).toNat ≤ (pu_t (c + 1)).toNat := by decide +kernel
theorem pu_t_le {c : Nat} (h : c ≤ 99) : (pu_t c).toNat ≤ 1092616192 := (pu_t_all c (by omega)).1
theorem pu_t_mono {c d : Nat} (h : c ≤ d) (hd : d ≤ 99) : (pu_t c).toNat ≤ (pu_t d).toNat := by
  obtain ⟨k, rfl⟩ : ∃ k, d = c + k := ⟨d - c, by omega⟩
  clear h
  induction k with
  | zero => exact Nat.le_refl _
  | succ k ih => exact Nat.le_trans (ih (by omega)) (pu_t_all (c + k) (by omega)).2
section FLT
variable {fd : Nat → Nat → Nat}
theorem pu_f_ok (h : wF fd) {u : Nat} (hu : u < (fd 0 0)) : (FP.fdiv (FP.i2f (nI (fd 1 u))) (1092616192 : UInt32)).toNat < 2139095040 ∧ (FP.fdiv (FP.fdiv (FP.i2f (nI (fd 1 u))) (1092616192 : UInt32)) (FP.i2f (nI (fd 2 u)))).toNat < 2139095040 ∧ 981467136 ≤ (pu_f fd u).toNat ∧ (pu_f fd u).toNat ≤ 1092616192 := by
  obtain ⟨h1, h2, h3, h4, h5⟩ := h.2.2.2.2.2.1 u hu
  exact pu_f_all _ (by omega) _ (by omega) h1 h3
/-- 10, 20 .. 120 -/
def pu_bd (i : Nat) : UInt32 := [1092616192, 1101004800, 1106247680, 1109393408, 1112014848, 1114636288, 1116471296, 1117782016, 1119092736, 1120403456, 1121714176, 1123024896].getD i 0
theorem pu_bd_ok : ∀ i, i < 11 → (FP.fadd (pu_bd i) (1092616192 : UInt32)).toNat = (pu_bd (i + 1)).toNat ∧ (pu_bd i).toNat ≤ 1123024896 := by decide +kernel
/-- DIN of a set, of its USERS below i -/
def pu_d (fd : Nat → Nat → Nat) (m : Nat) : Nat → UInt32
  | 0 => pu_t (fd 0 3)
  | i + 1 => if m.testBit i then FP.fadd (pu_d fd m i) (pu_f fd i) else pu_d fd m i
theorem pu_d_t {m i : Nat} (h : m.testBit i = true) : pu_d fd m (i + 1) = FP.fadd (pu_d fd m i) (pu_f fd i) := if_pos h
theorem pu_d_f {m i : Nat} (h : m.testBit i = false) : pu_d fd m (i + 1) = pu_d fd m i := if_neg (by rw [h]; decide)
theorem pu_d_le (h : wF fd) {m : Nat} : ∀ i, i ≤ (fd 0 0) → (pu_d fd m i).toNat ≤ (pu_bd i).toNat
  | 0, _ => by
    have := pu_t_le (show (fd 0 3) ≤ 99 from h.2.2.2.2.1)
    exact this
  | i + 1, hi => by
    have h10 := h.1
    have ih := pu_d_le h (m := m) i (by omega)
    have hb := pu_bd_ok i (by omega)
    have hf := (pu_f_ok h (u := i) (by omega)).2.2.2
    have hbi : (pu_bd i).toNat ≤ (pu_bd (i + 1)).toNat := by
      rw [← hb.1]
      exact fa_up (by rw [fI_v]; omega) (by rw [fI_v]; decide)
    cases e : m.testBit i
    · rw [pu_d_f e]; omega
    · rw [pu_d_t e, ← hb.1]
      exact fa_mono ih hf (by rw [fI_v]; omega) (by rw [fI_v]; decide)
theorem pu_d_fin (h : wF fd) {m i : Nat} (hi : i ≤ (fd 0 0)) : (pu_d fd m i).toNat ≤ 1123024896 := by
  have h10 := h.1
  exact Nat.le_trans (pu_d_le h i hi) (pu_bd_ok i (by omega)).2
theorem pu_d_mono (h : wF fd) {m m' : Nat} (hs : sb m m') : ∀ i, i ≤ (fd 0 0) → (pu_d fd m i).toNat ≤ (pu_d fd m' i).toNat
  | 0, _ => Nat.le_refl _
  | i + 1, hi => by
    have ih := pu_d_mono h hs i (by omega)
    have f1 := pu_d_fin h (m := m) (i := i) (by omega)
    have f2 := pu_d_fin h (m := m') (i := i) (by omega)
    have hf := (pu_f_ok h (u := i) (by omega)).2.2.2
    cases e : m.testBit i
    · rw [pu_d_f e]
      cases e' : m'.testBit i
      · rw [pu_d_f e']; exact ih
      · rw [pu_d_t e']
        exact Nat.le_trans ih (fa_up (by rw [fI_v]; omega) (by rw [fI_v]; omega))
    · rw [pu_d_t e, pu_d_t (hs i e)]
      exact fa_mono ih (Nat.le_refl _) (by rw [fI_v]; omega) (by rw [fI_v]; omega)
theorem pu_d_cong {m m' : Nat} : ∀ {i : Nat}, (∀ u, u < i → m.testBit u = m'.testBit u) → pu_d fd m i = pu_d fd m' i
  | 0, _ => rfl
  | i + 1, h => by
    show (if m.testBit i then _ else _) = (if m'.testBit i then _ else _)
    rw [pu_d_cong (i := i) (fun u hu => h u (by omega)), h i (by omega)]
theorem pu_d_ext {m i : Nat} : ∀ d, (∀ u, i ≤ u → m.testBit u = false) → pu_d fd m (i + d) = pu_d fd m i
  | 0, _ => rfl
  | d + 1, h => by rw [← Nat.add_assoc, pu_d_f (h _ (by omega)), pu_d_ext d h]
/-- CAPTURE times DIN -/
def pu_b (fd : Nat → Nat → Nat) (c o : Nat) : UInt32 := FP.fmul (pu_t c) (pu_d fd o (fd 0 0))
theorem pu_b_top : (FP.fmul (1092616192 : UInt32) (1123024896 : UInt32)).toNat ≤ 1150681088 := by decide +kernel
theorem pu_b_fin (h : wF fd) {c o : Nat} (hc : c ≤ 99) : (pu_b fd c o).toNat ≤ 1150681088 := by
  refine Nat.le_trans (fm_mono (a' := (1092616192 : UInt32)) (b' := (1123024896 : UInt32)) (pu_t_le hc) (pu_d_fin h (Nat.le_refl _)) (by rw [fI_v]; decide) (by rw [fI_v]; decide)) pu_b_top
theorem pu_b_mono (h : wF fd) {c c' o o' : Nat} (hc : c ≤ c') (hc' : c' ≤ 99) (ho : sb o o') : (pu_b fd c o).toNat ≤ (pu_b fd c' o').toNat := by
  have h1 := pu_t_le hc'
  have h2 := pu_d_fin h (m := o') (i := (fd 0 0)) (Nat.le_refl _)
  exact fm_mono (pu_t_mono hc hc') (pu_d_mono h ho _ (Nat.le_refl _)) (by rw [fI_v]; omega) (by rw [fI_v]; omega)
/-- whether one is CLEAR by CAPTURE c, others o UNKNOWN in its SLOT -/
def pu_q (fd : Nat → Nat → Nat) (c o u : Nat) : Bool := if c = 0 then o == 0 else !(decide ((pu_f fd u).toNat < (pu_b fd c o).toNat))
/-- who is CLEAR in a SLOT with this crowd -/
def pu_k (fd : Nat → Nat → Nat) (c m : Nat) : Nat := pu_S (fun u => m.testBit u && pu_q fd c (pu_sd m (2 ^ u)) u) (fd 0 0)
theorem pu_q_mono (h : wF fd) {c o o' u : Nat} (hc : c ≤ 99) (ho : sb o o') (hq : pu_q fd c o' u = true) : pu_q fd c o u = true := by
  unfold pu_q at hq ⊢
  by_cases e : c = 0
  · rw [if_pos e] at hq ⊢
    have : o' = 0 := by simpa using hq
    subst this
    rw [sb_z ho]
    rfl
  · rw [if_neg e] at hq ⊢
    have h1 := pu_b_mono h (Nat.le_refl c) hc ho
    simp only [Bool.not_eq_true', decide_eq_false_iff_not] at hq ⊢
    omega
theorem sb_sdm {a b x : Nat} (h : sb a b) : sb (pu_sd a x) (pu_sd b x) := fun i hi => by
  rw [pu_sd_bit, Bool.and_eq_true] at hi ⊢
  exact ⟨h i hi.1, hi.2⟩
theorem pu_k_bit {c m u : Nat} : (pu_k fd c m).testBit u = true ↔ u < (fd 0 0) ∧ m.testBit u = true ∧ pu_q fd c (pu_sd m (2 ^ u)) u = true := by
  unfold pu_k
  rw [pu_S_bit, Bool.and_eq_true, Bool.and_eq_true, decide_eq_true_iff]
theorem pu_k_M (h : wF fd) {c : Nat} (hc : c ≤ 99) : kM (pu_k fd c) := by
  refine ⟨fun m u hu => (pu_k_bit.mp hu).2.1, fun m m' u hs hm hu => ?_⟩
  obtain ⟨h1, h2, h3⟩ := pu_k_bit.mp hu
  exact pu_k_bit.mpr ⟨h1, hm, pu_q_mono h hc (sb_sdm hs) h3⟩
/-- less CAPTURE, more are CLEAR -/
theorem pu_k_c (h : wF fd) {c c' : Nat} (h1 : 1 ≤ c) (hcc : c ≤ c') (hc : c' ≤ 99) (m : Nat) : sb (pu_k fd c' m) (pu_k fd c m) := fun u hu => by
  obtain ⟨a1, a2, a3⟩ := pu_k_bit.mp hu
  refine pu_k_bit.mpr ⟨a1, a2, ?_⟩
  unfold pu_q at a3 ⊢
  rw [if_neg (by omega)] at a3 ⊢
  have := pu_b_mono h hcc hc (sb.rf (a := pu_sd m (2 ^ u)))
  simp only [Bool.not_eq_true', decide_eq_false_iff_not] at a3 ⊢
  omega
theorem pu_k_lt {c m : Nat} : pu_k fd c m < 2 ^ (fd 0 0) := pu_S_lt _ _
end FLT
