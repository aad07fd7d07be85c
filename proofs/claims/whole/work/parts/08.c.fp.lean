/-! pure part: floats and doubles that are not negative (wip/whole/pure/08.c.fp.src) -/
section PUFP
variable {f : Jvm.FP.Core.Fmt}
theorem fp_near_le (n d : Nat) : n / d ≤ Jvm.FP.Core.nearest n d ∧ Jvm.FP.Core.nearest n d ≤ n / d + 1 := by
  unfold Jvm.FP.Core.nearest
  split
  · omega
  · split
    · omega
    · omega
theorem fp_near_mono {n d n' d' : Nat} (hd : 0 < d) (hd' : 0 < d') (h : n * d' ≤ n' * d) : Jvm.FP.Core.nearest n d ≤ Jvm.FP.Core.nearest n' d' := by
  have h1 := fp_near_le n d
  have h2 := fp_near_le n' d'
  have hk : n / d ≤ n' / d' := by
    rw [Nat.le_div_iff_mul_le hd']
    have h3 : n / d * d' * d ≤ n' * d := by
      refine Nat.le_trans ?_ h
      rw [Nat.mul_right_comm]
      exact Nat.mul_le_mul_right d' (Nat.div_mul_le_self n d)
    exact Nat.le_of_mul_le_mul_right h3 hd
  rcases Nat.lt_or_ge (n / d) (n' / d') with hlt | hge
  · omega
  · have hkk : n / d = n' / d' := by omega
    have e1 := Nat.div_add_mod n d
    have e2 := Nat.div_add_mod n' d'
    rw [← hkk] at e2
    generalize hkv : n / d = k at *
    generalize hrv : n % d = r at *
    generalize hrv' : n' % d' = r' at *
    have hr : r * d' ≤ r' * d := by
      have hk2 : d * k * d' = d' * k * d := by ac_rfl
      rw [← e1, ← e2, Nat.add_mul, Nat.add_mul, hk2] at h
      omega
    unfold Jvm.FP.Core.nearest
    rw [hrv, hrv', hkv, ← hkk]
    have hr2 : 2 * r * d' ≤ 2 * r' * d := by rw [Nat.mul_assoc, Nat.mul_assoc]; exact Nat.mul_le_mul_left 2 hr
    by_cases c1 : 2 * r < d
    · rw [if_pos c1]
      split
      · exact Nat.le_refl _
      · split <;> omega
    · rw [if_neg c1]
      have c2 : ¬ 2 * r' < d' := by
        intro c
        have : 2 * r' * d < d' * d := Nat.mul_lt_mul_of_pos_right c hd
        have h5 : d * d' ≤ 2 * r * d' := Nat.mul_le_mul_right d' (by omega)
        rw [Nat.mul_comm d' d] at this
        omega
      rw [if_neg c2]
      by_cases c3 : d < 2 * r
      · have c4 : d' < 2 * r' := by
          have h5 : d * d' < 2 * r * d' := Nat.mul_lt_mul_of_pos_right c3 hd'
          have h6 : d * d' < 2 * r' * d := by omega
          rw [Nat.mul_comm d d'] at h6
          exact Nat.lt_of_mul_lt_mul_right h6
        rw [if_pos c3, if_pos c4]
        exact Nat.le_refl _
      · rw [if_neg c3]
        split <;> omega
theorem fp_near_eq {n d n' d' : Nat} (hd : 0 < d) (hd' : 0 < d') (h : n * d' = n' * d) : Jvm.FP.Core.nearest n d = Jvm.FP.Core.nearest n' d' :=
  Nat.le_antisymm (fp_near_mono hd hd' (Nat.le_of_eq h)) (fp_near_mono hd' hd (Nat.le_of_eq h.symm))
theorem fp_near_one (n : Nat) : Jvm.FP.Core.nearest n 1 = n := by
  unfold Jvm.FP.Core.nearest
  rw [Nat.mod_one, if_pos (by decide), Nat.div_one]
theorem fp_near_exact (n : Nat) {d : Nat} (hd : 0 < d) : Jvm.FP.Core.nearest (n * d) d = n := by
  rw [fp_near_eq (n' := n) (d' := 1) hd (by decide) (by rw [Nat.mul_one])]
  exact fp_near_one n
theorem fp_near_lo {n d k : Nat} (hd : 0 < d) (h : k * d ≤ n) : k ≤ Jvm.FP.Core.nearest n d := by
  have := fp_near_mono (n := k * d) (d := d) (n' := n) (d' := d) hd hd (Nat.mul_le_mul_right d h)
  rwa [fp_near_exact k hd] at this
theorem fp_near_hi {n d k : Nat} (hd : 0 < d) (h : n ≤ k * d) : Jvm.FP.Core.nearest n d ≤ k := by
  have := fp_near_mono (n := n) (d := d) (n' := k * d) (d' := d) hd hd (Nat.mul_le_mul_right d h)
  rwa [fp_near_exact k hd] at this
/-- what is used of a format -/
def fp_ok (f : Jvm.FP.Core.Fmt) : Prop := 2 ^ f.p = 2 * f.tails ∧ 1 ≤ f.p ∧ f.qmax - f.qmin = (f.exps : Int) - 3 ∧ 4 ≤ f.exps ∧ f.qmin ≤ 0
theorem fp_ok32 : fp_ok Jvm.FP.Core.b32 := by unfold fp_ok; decide +kernel
theorem fp_ok64 : fp_ok Jvm.FP.Core.b64 := by unfold fp_ok; decide +kernel
/-- the infinity -/
def fp_I (f : Jvm.FP.Core.Fmt) : Nat := (f.exps - 1) * f.tails
/-- the number that an encoding stands for, in units of the least -/
def fp_V (f : Jvm.FP.Core.Fmt) (x : Nat) : Nat := if x < f.tails then x else (f.tails + x % f.tails) * 2 ^ (x / f.tails - 1)
/-- the place of the last digit -/
def fp_q (f : Jvm.FP.Core.Fmt) (M a b : Nat) : Nat := max M (Nat.log2 (a / b) - (f.p - 1))
/-- a / b, rounded, as an encoding; units 2^-K, M: the least place -/
def fp_P (f : Jvm.FP.Core.Fmt) (M a b : Nat) : Nat := if a = 0 then 0 else (fp_q f M a b - M) * f.tails + Jvm.FP.Core.nearest a (b * 2 ^ fp_q f M a b)
theorem fp_tp (f : Jvm.FP.Core.Fmt) : 0 < f.tails := Nat.two_pow_pos _
theorem fp_log {a b j : Nat} (hb : 0 < b) (h1 : b * 2 ^ j ≤ a) (h2 : a < b * 2 ^ (j + 1)) : Nat.log2 (a / b) = j := by
  have h3 : 2 ^ j ≤ a / b := by rw [Nat.le_div_iff_mul_le hb, Nat.mul_comm]; exact h1
  have hp := Nat.two_pow_pos j
  refine (Nat.log2_eq_iff (by omega)).mpr ⟨h3, ?_⟩
  rw [Nat.div_lt_iff_lt_mul hb, Nat.mul_comm]
  exact h2
theorem fp_log_s {a b : Nat} (hb : 0 < b) (h : b ≤ a) : b * 2 ^ Nat.log2 (a / b) ≤ a ∧ a < b * 2 ^ (Nat.log2 (a / b) + 1) := by
  have h0 : a / b ≠ 0 := by
    have : 1 ≤ a / b := by rw [Nat.le_div_iff_mul_le hb]; omega
    omega
  obtain ⟨h1, h2⟩ := (Nat.log2_eq_iff h0).mp rfl
  constructor
  · rw [Nat.le_div_iff_mul_le hb] at h1
    rw [Nat.mul_comm]; exact h1
  · rw [Nat.div_lt_iff_lt_mul hb] at h2
    rw [Nat.mul_comm]; exact h2
theorem fp_lead {num den : Nat} {e : Int} {K : Nat} (hn : 0 < num) (hd : 0 < den) (hK : 0 ≤ e + K) (hb : den ≤ num * 2 ^ (e + K).toNat) : Jvm.FP.Core.leading num den + e + K = (Nat.log2 (num * 2 ^ (e + K).toNat / den) : Int) := by
  obtain ⟨D, hD⟩ : ∃ D : Nat, e + K = D := ⟨(e + K).toNat, by omega⟩
  rw [hD] at hb ⊢
  rw [Int.toNat_natCast] at hb ⊢
  have s1 := (Nat.log2_eq_iff (Nat.ne_of_gt hn)).mp rfl
  have s2 := (Nat.log2_eq_iff (Nat.ne_of_gt hd)).mp rfl
  unfold Jvm.FP.Core.leading
  generalize hln : num.log2 = ln at *
  generalize hld : den.log2 = ld at *
  have hge : ld ≤ ln + D := by
    have h1 : 2 ^ ld < 2 ^ (ln + 1 + D) := by
      rw [Nat.pow_add]
      exact Nat.lt_of_le_of_lt (Nat.le_trans s2.1 hb) (Nat.mul_lt_mul_of_pos_right s1.2 (Nat.two_pow_pos D))
    have := (Nat.pow_lt_pow_iff_right (by decide : 1 < 2)).mp h1
    omega
  obtain ⟨J, hJ⟩ : ∃ J, ln + D = ld + J := ⟨ln + D - ld, by omega⟩
  have hup : num * 2 ^ D < den * 2 ^ (J + 1) := by
    have h1 : num * 2 ^ D < 2 ^ (ln + 1) * 2 ^ D := Nat.mul_lt_mul_of_pos_right s1.2 (Nat.two_pow_pos D)
    have h2 : 2 ^ ld * 2 ^ (J + 1) ≤ den * 2 ^ (J + 1) := Nat.mul_le_mul_right _ s2.1
    rw [← Nat.pow_add] at h1 h2
    rw [show ln + 1 + D = ld + (J + 1) by omega] at h1
    omega
  have hlo : den * 2 ^ J < 2 * (num * 2 ^ D) := by
    have h1 : den * 2 ^ J < 2 ^ (ld + 1) * 2 ^ J := Nat.mul_lt_mul_of_pos_right s2.2 (Nat.two_pow_pos J)
    have h2 : 2 ^ ln * 2 ^ D ≤ num * 2 ^ D := Nat.mul_le_mul_right _ s1.1
    rw [← Nat.pow_add] at h1 h2
    rw [show ld + 1 + J = ln + D + 1 by omega, Nat.pow_succ] at h1
    omega
  have hcond : (den * 2 ^ ((ln : Int) - (ld : Int)).toNat ≤ num * 2 ^ (-((ln : Int) - (ld : Int))).toNat) ↔ den * 2 ^ J ≤ num * 2 ^ D := by
    rcases Nat.le_total ld ln with hc | hc
    · rw [show ((ln : Int) - (ld : Int)).toNat = ln - ld by omega, show (-((ln : Int) - (ld : Int))).toNat = 0 by omega, Nat.pow_zero, Nat.mul_one, show J = (ln - ld) + D by omega, Nat.pow_add, ← Nat.mul_assoc]
      exact ⟨fun h => Nat.mul_le_mul_right _ h, fun h => Nat.le_of_mul_le_mul_right h (Nat.two_pow_pos D)⟩
    · rw [show ((ln : Int) - (ld : Int)).toNat = 0 by omega, show (-((ln : Int) - (ld : Int))).toNat = ld - ln by omega, Nat.pow_zero, Nat.mul_one, show D = (ld - ln) + J by omega, Nat.pow_add, ← Nat.mul_assoc]
      exact ⟨fun h => Nat.mul_le_mul_right _ h, fun h => Nat.le_of_mul_le_mul_right h (Nat.two_pow_pos J)⟩
  show (if den * 2 ^ ((ln : Int) - (ld : Int)).toNat ≤ num * 2 ^ (-((ln : Int) - (ld : Int))).toNat then (ln : Int) - (ld : Int) else (ln : Int) - (ld : Int) - 1) + e + K = _
  by_cases c : den * 2 ^ J ≤ num * 2 ^ D
  · rw [if_pos (hcond.mpr c), fp_log hd c hup]
    omega
  · rw [if_neg (fun h => c (hcond.mp h))]
    have hJ0 : 0 < J := by
      rcases Nat.eq_zero_or_pos J with z | z
      · rw [z, Nat.pow_zero, Nat.mul_one] at c; exact absurd hb c
      · exact z
    obtain ⟨I, rfl⟩ : ∃ I, J = I + 1 := ⟨J - 1, by omega⟩
    rw [fp_log (j := I) hd (by rw [Nat.pow_succ, ← Nat.mul_assoc] at hlo; omega) (by omega)]
    omega
theorem fp_enc (hf : fp_ok f) {c : Nat} {q : Int} (hc : c ≤ 2 ^ f.p) (hq : f.qmin ≤ q) (hc2 : q = f.qmin ∨ f.tails ≤ c) : Jvm.FP.Core.encode f (Jvm.FP.Core.settle f false c q) = min ((q - f.qmin).toNat * f.tails + c) (fp_I f) := by
  obtain ⟨h1, h2, h3, h4, h5⟩ := hf
  have ht := fp_tp f
  have hI : fp_I f = (f.exps - 3) * f.tails + 2 * f.tails := by
    unfold fp_I
    rw [← Nat.add_mul]
    congr 1
    omega
  have asm : ∀ e t, Jvm.FP.Core.assemble f false e t = e * f.tails + t := by
    intro e t
    unfold Jvm.FP.Core.assemble
    rw [Bool.toNat_false, Nat.zero_mul, Nat.zero_add]
  have fin : ∀ (c : Nat) (q : Int), f.qmin ≤ q → (q = f.qmin ∨ f.tails ≤ c) → Jvm.FP.Core.encode f (.fin false c q) = (q - f.qmin).toNat * f.tails + c := by
    intro c q hq hc2
    show (if c < f.tails then Jvm.FP.Core.assemble f false 0 c else Jvm.FP.Core.assemble f false ((q - f.qmin).toNat + 1) (c - f.tails)) = _
    split
    · rcases hc2 with z | z
      · rw [asm, z, show (f.qmin - f.qmin).toNat = 0 by omega]
      · omega
    · rw [asm, Nat.add_mul]; omega
  have hinf : Jvm.FP.Core.encode f (.inf false) = fp_I f := by
    show Jvm.FP.Core.assemble f false (f.exps - 1) 0 = _
    rw [asm]; rfl
  obtain ⟨k, hk⟩ : ∃ k : Nat, q = f.qmin + k := ⟨(q - f.qmin).toNat, by omega⟩
  have hkk : (q - f.qmin).toNat = k := by omega
  unfold Jvm.FP.Core.settle Jvm.FP.Core.bound
  by_cases c1 : c < 2 ^ f.p
  · rw [if_pos c1]
    by_cases c2 : q ≤ f.qmax
    · rw [if_pos c2, fin c q hq hc2, hI, hkk]
      have h6 : k * f.tails ≤ (f.exps - 3) * f.tails := Nat.mul_le_mul_right _ (by omega)
      omega
    · rw [if_neg c2, hinf, hkk, hI]
      have h6 : (f.exps - 3 + 1) * f.tails ≤ k * f.tails := Nat.mul_le_mul_right _ (by omega)
      rw [Nat.add_mul] at h6
      have h7 : f.tails ≤ c := by rcases hc2 with z | z <;> omega
      omega
  · rw [if_neg c1]
    have hce : c = 2 * f.tails := by omega
    by_cases c2 : q + 1 ≤ f.qmax
    · rw [if_pos c2, fin f.tails (q + 1) (by omega) (.inr (Nat.le_refl _)), hI, hkk, show (q + 1 - f.qmin).toNat = k + 1 by omega, Nat.add_mul]
      have h6 : k * f.tails ≤ (f.exps - 3) * f.tails := Nat.mul_le_mul_right _ (by omega)
      omega
    · rw [if_neg c2, hinf, hkk, hI]
      have h6 : (f.exps - 3) * f.tails ≤ k * f.tails := Nat.mul_le_mul_right _ (by omega)
      omega
theorem fp_c_hi (hf : fp_ok f) {M a b : Nat} (hb : 0 < b) (h : b ≤ a) : Jvm.FP.Core.nearest a (b * 2 ^ fp_q f M a b) ≤ 2 ^ f.p := by
  obtain ⟨h1, h2, -⟩ := hf
  refine fp_near_hi (Nat.mul_pos hb (Nat.two_pow_pos _)) ?_
  have h3 := (fp_log_s hb h).2
  have h4 : Nat.log2 (a / b) + 1 ≤ f.p + fp_q f M a b := by unfold fp_q; omega
  have h5 : 2 ^ (Nat.log2 (a / b) + 1) ≤ 2 ^ (f.p + fp_q f M a b) := Nat.pow_le_pow_right (by decide) h4
  have h6 : b * 2 ^ (Nat.log2 (a / b) + 1) ≤ b * 2 ^ (f.p + fp_q f M a b) := Nat.mul_le_mul_left b h5
  have h7 : b * 2 ^ (f.p + fp_q f M a b) = 2 ^ f.p * (b * 2 ^ fp_q f M a b) := by rw [Nat.pow_add]; ac_rfl
  omega
theorem fp_c_lo {M a b : Nat} (hb : 0 < b) (h : b ≤ a) (hq : M < fp_q f M a b) : f.tails ≤ Jvm.FP.Core.nearest a (b * 2 ^ fp_q f M a b) := by
  refine fp_near_lo (Nat.mul_pos hb (Nat.two_pow_pos _)) ?_
  have h3 := (fp_log_s hb h).1
  have h4 : f.p - 1 + fp_q f M a b = Nat.log2 (a / b) := by
    unfold fp_q at hq ⊢; omega
  rw [← h4, Nat.pow_add, ← Nat.mul_assoc, Nat.mul_comm b, Nat.mul_assoc] at h3
  exact h3
theorem fp_round (hf : fp_ok f) {num den : Nat} {e : Int} {K M : Nat} (hn : 0 < num) (hd : 0 < den) (hK : 0 ≤ e + K) (hM : f.qmin + K = M) (hb : den ≤ num * 2 ^ (e + K).toNat) : Jvm.FP.Core.encode f (Jvm.FP.Core.roundRatio f false num den e) = min (fp_P f M (num * 2 ^ (e + K).toNat) den) (fp_I f) := by
  have hl := fp_lead hn hd hK hb
  unfold Jvm.FP.Core.roundRatio Jvm.FP.Core.roundAt
  rw [if_neg (by omega)]
  generalize ha : num * 2 ^ (e + K).toNat = a at *
  have h1 := hf.2.1
  have hq : Jvm.FP.Core.quantum f num den e = (fp_q f M a den : Int) - K := by
    unfold Jvm.FP.Core.quantum fp_q; omega
  have ha0 : ¬ a = 0 := by omega
  have hnear : Jvm.FP.Core.nearest (Jvm.FP.Core.unitsNum num e ((fp_q f M a den : Int) - K)) (Jvm.FP.Core.unitsDen den e ((fp_q f M a den : Int) - K)) = Jvm.FP.Core.nearest a (den * 2 ^ fp_q f M a den) := by
    unfold Jvm.FP.Core.unitsNum Jvm.FP.Core.unitsDen
    refine fp_near_eq (Nat.mul_pos hd (Nat.two_pow_pos _)) (Nat.mul_pos hd (Nat.two_pow_pos _)) ?_
    generalize fp_q f M a den = Q
    rw [← ha]
    obtain ⟨D, hD⟩ : ∃ D : Nat, e + K = D := ⟨(e + K).toNat, by omega⟩
    rw [hD, Int.toNat_natCast, show e - ((Q : Int) - K) = (D : Int) - Q by omega, show (Q : Int) - K - e = (Q : Int) - D by omega]
    rcases Nat.le_total D Q with hc | hc
    · rw [show ((D : Int) - Q).toNat = 0 by omega, show ((Q : Int) - D).toNat = Q - D by omega, Nat.pow_zero, Nat.mul_one]
      rw [show Q = D + (Q - D) by omega, Nat.pow_add, show D + (Q - D) - D = Q - D by omega]
      ac_rfl
    · rw [show ((D : Int) - Q).toNat = D - Q by omega, show ((Q : Int) - D).toNat = 0 by omega, Nat.pow_zero, Nat.mul_one]
      rw [show D = Q + (D - Q) by omega, Nat.pow_add, show Q + (D - Q) - Q = D - Q by omega]
      ac_rfl
  rw [hq, hnear, fp_enc hf (fp_c_hi hf hd hb) (by unfold fp_q; omega) ?_]
  · unfold fp_P
    rw [if_neg ha0, show ((fp_q f M a den : Int) - K - f.qmin).toNat = fp_q f M a den - M by omega]
  · rcases Nat.lt_or_ge M (fp_q f M a den) with z | z
    · exact .inr (fp_c_lo hd hb z)
    · left
      have : fp_q f M a den = M := by unfold fp_q at z ⊢; omega
      omega
theorem fp_mono (hf : fp_ok f) {M a b a' b' : Nat} (hb : 0 < b) (hb' : 0 < b') (h0 : a = 0 ∨ b ≤ a) (h0' : a' = 0 ∨ b' ≤ a') (h : a * b' ≤ a' * b) : fp_P f M a b ≤ fp_P f M a' b' := by
  unfold fp_P
  by_cases ha : a = 0
  · rw [if_pos ha]; exact Nat.zero_le _
  have ha' : ¬ a' = 0 := by
    intro z
    rw [z, Nat.zero_mul] at h
    have := Nat.mul_pos (Nat.pos_of_ne_zero ha) hb'
    omega
  rw [if_neg ha, if_neg ha']
  have hba : b ≤ a := by omega
  have hba' : b' ≤ a' := by omega
  have hdiv : a / b ≤ a' / b' := by
    rw [Nat.le_div_iff_mul_le hb']
    have h3 : a / b * b' * b ≤ a' * b := by
      refine Nat.le_trans ?_ h
      rw [Nat.mul_right_comm]
      exact Nat.mul_le_mul_right b' (Nat.div_mul_le_self a b)
    exact Nat.le_of_mul_le_mul_right h3 hb
  have hlog : Nat.log2 (a / b) ≤ Nat.log2 (a' / b') := by
    have h0 : a / b ≠ 0 := by
      have : 1 ≤ a / b := by rw [Nat.le_div_iff_mul_le hb]; omega
      omega
    have s1 := ((Nat.log2_eq_iff h0).mp rfl).1
    exact (Nat.le_log2 (Nat.ne_of_gt (Nat.lt_of_lt_of_le (Nat.pos_of_ne_zero h0) hdiv))).mpr (Nat.le_trans s1 hdiv)
  have hq : fp_q f M a b ≤ fp_q f M a' b' := by unfold fp_q; omega
  rcases Nat.lt_or_ge (fp_q f M a b) (fp_q f M a' b') with hlt | hge
  · have c1 := fp_c_hi (M := M) hf hb hba
    have hMq : M ≤ fp_q f M a b := Nat.le_max_left _ _
    have c2 := fp_c_lo (f := f) hb' hba' (show M < fp_q f M a' b' by omega)
    rw [hf.1] at c1
    have h6 : (fp_q f M a b - M + 1) * f.tails ≤ (fp_q f M a' b' - M) * f.tails := Nat.mul_le_mul_right _ (by omega)
    rw [Nat.add_mul] at h6
    omega
  · have e : fp_q f M a b = fp_q f M a' b' := by omega
    rw [e]
    refine Nat.add_le_add_left (fp_near_mono (Nat.mul_pos hb (Nat.two_pow_pos _)) (Nat.mul_pos hb' (Nat.two_pow_pos _)) ?_) _
    rw [← Nat.mul_assoc, ← Nat.mul_assoc]
    exact Nat.mul_le_mul_right _ h
/-- a number of the format is rounded to itself -/
theorem fp_exact (hf : fp_ok f) (M : Nat) {x b : Nat} (hb : 0 < b) : fp_P f M (fp_V f x * 2 ^ M * b) b = x := by
  obtain ⟨h1, h2, -⟩ := hf
  have ht := fp_tp f
  have htp : f.tails = 2 ^ (f.p - 1) := rfl
  unfold fp_P
  by_cases hx0 : x = 0
  · subst hx0
    rw [if_pos (by unfold fp_V; rw [if_pos ht, Nat.zero_mul, Nat.zero_mul])]
  have key : ∀ c k : Nat, 0 < c → c < 2 ^ f.p → (k = 0 ∨ f.tails ≤ c) → (if c * 2 ^ k * 2 ^ M * b = 0 then 0 else (fp_q f M (c * 2 ^ k * 2 ^ M * b) b - M) * f.tails + Jvm.FP.Core.nearest (c * 2 ^ k * 2 ^ M * b) (b * 2 ^ fp_q f M (c * 2 ^ k * 2 ^ M * b) b)) = k * f.tails + c := by
    intro c k hc hcp hk
    have hpos : 0 < c * 2 ^ k * 2 ^ M * b := Nat.mul_pos (Nat.mul_pos (Nat.mul_pos hc (Nat.two_pow_pos _)) (Nat.two_pow_pos _)) hb
    rw [if_neg (by omega)]
    have hlogc := (Nat.log2_eq_iff (Nat.ne_of_gt hc)).mp rfl
    have hlog : Nat.log2 (c * 2 ^ k * 2 ^ M * b / b) = Nat.log2 c + k + M := by
      rw [Nat.mul_div_cancel _ hb, Nat.mul_assoc, ← Nat.pow_add]
      have hp := Nat.two_pow_pos (k + M)
      refine (Nat.log2_eq_iff (Nat.ne_of_gt (Nat.mul_pos hc hp))).mpr ⟨?_, ?_⟩
      · rw [Nat.add_assoc, Nat.pow_add]; exact Nat.mul_le_mul_right _ hlogc.1
      · rw [show Nat.log2 c + k + M + 1 = (Nat.log2 c + 1) + (k + M) by omega, Nat.pow_add 2 (Nat.log2 c + 1) (k + M)]
        exact Nat.mul_lt_mul_of_pos_right hlogc.2 hp
    have hlt : Nat.log2 c < f.p := by
      have := Nat.lt_of_le_of_lt hlogc.1 hcp
      exact (Nat.pow_lt_pow_iff_right (by decide)).mp this
    have hq : fp_q f M (c * 2 ^ k * 2 ^ M * b) b = k + M := by
      unfold fp_q
      rw [hlog]
      rcases hk with z | z
      · omega
      · have : f.p - 1 ≤ Nat.log2 c := (Nat.le_log2 (by omega)).mpr (by rw [← htp]; exact z)
        omega
    rw [hq, show c * 2 ^ k * 2 ^ M * b = c * (b * 2 ^ (k + M)) by rw [Nat.pow_add]; ac_rfl, fp_near_exact c (Nat.mul_pos hb (Nat.two_pow_pos _)), Nat.add_sub_cancel]
  unfold fp_V
  by_cases hx : x < f.tails
  · rw [if_pos hx]
    have := key x 0 (by omega) (by omega) (.inl rfl)
    rw [Nat.pow_zero, Nat.mul_one, Nat.zero_mul, Nat.zero_add] at this
    exact this
  · rw [if_neg hx]
    have hm := Nat.mod_lt x ht
    have hd := Nat.div_add_mod x f.tails
    have h1x : 1 ≤ x / f.tails := by rw [Nat.le_div_iff_mul_le ht]; omega
    rw [key (f.tails + x % f.tails) (x / f.tails - 1) (by omega) (by omega) (.inr (by omega))]
    have : (x / f.tails - 1) * f.tails + f.tails = x / f.tails * f.tails := by
      rw [← Nat.succ_mul]; congr 1; omega
    rw [Nat.mul_comm] at hd
    omega
theorem fp_V_pos {x : Nat} (h : 0 < x) : 0 < fp_V f x := by
  unfold fp_V
  split
  · exact h
  · exact Nat.mul_pos (Nat.add_pos_left (fp_tp f) _) (Nat.two_pow_pos _)
theorem fp_V_0 : fp_V f 0 = 0 := by unfold fp_V; rw [if_pos (fp_tp f)]
theorem fp_V_eq0 {x : Nat} : fp_V f x = 0 ↔ x = 0 := by
  constructor
  · intro h
    rcases Nat.eq_zero_or_pos x with z | z
    · exact z
    · have := fp_V_pos (f := f) z; omega
  · intro h; subst h; exact fp_V_0
theorem fp_ex0 (hf : fp_ok f) (x : Nat) : fp_P f 0 (fp_V f x) 1 = x := by
  have := fp_exact hf 0 (x := x) (b := 1) (by decide)
  rwa [Nat.pow_zero, Nat.mul_one, Nat.mul_one] at this
theorem fp_m0 (hf : fp_ok f) {a b : Nat} (h : a ≤ b) : fp_P f 0 a 1 ≤ fp_P f 0 b 1 := fp_mono hf (by decide) (by decide) (by omega) (by omega) (by omega)
theorem fp_V_le (hf : fp_ok f) {x y : Nat} : fp_V f x ≤ fp_V f y ↔ x ≤ y := by
  have hle : ∀ {x y : Nat}, fp_V f x ≤ fp_V f y → x ≤ y := by
    intro x y h
    have := fp_m0 hf h
    rwa [fp_ex0 hf, fp_ex0 hf] at this
  constructor
  · exact hle
  · intro h
    rcases Nat.le_total (fp_V f x) (fp_V f y) with z | z
    · exact z
    · have := hle z
      have : x = y := by omega
      rw [this]; exact Nat.le_refl _
theorem fp_V_inj (hf : fp_ok f) {x y : Nat} (h : fp_V f x = fp_V f y) : x = y := Nat.le_antisymm ((fp_V_le hf).mp (Nat.le_of_eq h)) ((fp_V_le hf).mp (Nat.le_of_eq h.symm))
theorem fp_V_lt (hf : fp_ok f) {x y : Nat} : fp_V f x < fp_V f y ↔ x < y := by
  rw [← Nat.not_le, ← Nat.not_le, fp_V_le hf]
theorem fp_dec (hf : fp_ok f) {x : Nat} (h : x < fp_I f) : ∃ (c : Nat) (q : Int), Jvm.FP.Core.decode f x = .fin false c q ∧ f.qmin ≤ q ∧ c * 2 ^ (q - f.qmin).toNat = fp_V f x := by
  obtain ⟨h1, h2, h3, h4, h5⟩ := hf
  have ht := fp_tp f
  have hd : x / f.tails < f.exps - 1 := by
    rw [Nat.div_lt_iff_lt_mul ht]; exact h
  have hE : Jvm.FP.Core.fieldE f x = x / f.tails := Nat.mod_eq_of_lt (by omega)
  have hS : Jvm.FP.Core.fieldS f x = false := by
    unfold Jvm.FP.Core.fieldS
    rw [Nat.div_eq_of_lt (by omega : x / f.tails < f.exps)]
    rfl
  have hT : Jvm.FP.Core.fieldT f x = x % f.tails := rfl
  unfold Jvm.FP.Core.decode
  rw [if_neg (by omega), hE, hS, hT]
  by_cases hz : x / f.tails = 0
  · have hx : x < f.tails := by
      rcases Nat.lt_or_ge x f.tails with z | z
      · exact z
      · have : 1 ≤ x / f.tails := by rw [Nat.le_div_iff_mul_le ht]; omega
        omega
    rw [if_pos hz]
    refine ⟨_, _, rfl, Int.le_refl _, ?_⟩
    unfold fp_V
    rw [if_pos hx, show (f.qmin - f.qmin).toNat = 0 by omega, Nat.pow_zero, Nat.mul_one, Nat.mod_eq_of_lt hx]
  · have hx : ¬ x < f.tails := fun z => hz (Nat.div_eq_of_lt z)
    rw [if_neg hz]
    refine ⟨_, _, rfl, by omega, ?_⟩
    unfold fp_V
    rw [if_neg hx]
    congr 2
    omega
theorem fp_units {c : Nat} {q e : Int} (h : f.qmin ≤ e) (h2 : e ≤ q) : Jvm.FP.Core.inUnits c q e * 2 ^ (e - f.qmin).toNat = c * 2 ^ (q - f.qmin).toNat := by
  unfold Jvm.FP.Core.inUnits
  rw [Nat.mul_assoc, ← Nat.pow_add]
  congr 2
  omega
theorem fp_K (hf : fp_ok f) : ∃ K : Nat, f.qmin + K = 0 := ⟨(-f.qmin).toNat, by have := hf.2.2.2.2; omega⟩
theorem fp_R0 (hf : fp_ok f) {c : Nat} {e : Int} (he : f.qmin ≤ e) : Jvm.FP.Core.encode f (Jvm.FP.Core.roundRatio f false c 1 e) = min (fp_P f 0 (c * 2 ^ (e - f.qmin).toNat) 1) (fp_I f) := by
  by_cases hc : c = 0
  · subst hc
    rw [Nat.zero_mul]
    show Jvm.FP.Core.encode f (.fin false 0 f.qmin) = _
    unfold fp_P
    rw [if_pos rfl, Nat.zero_min]
    show (if 0 < f.tails then Jvm.FP.Core.assemble f false 0 0 else _) = 0
    rw [if_pos (fp_tp f)]
    unfold Jvm.FP.Core.assemble
    simp
  · obtain ⟨K, hK⟩ := fp_K hf
    have h1 := fp_round hf (num := c) (den := 1) (e := e) (K := K) (M := 0) (by omega) (by decide) (by omega) hK (Nat.mul_pos (by omega) (Nat.two_pow_pos _))
    rw [h1, show (e + K) = e - f.qmin by omega]
theorem fp_add (hf : fp_ok f) {x y : Nat} (hx : x < fp_I f) (hy : y < fp_I f) : Jvm.FP.Core.add f x y = min (fp_P f 0 (fp_V f x + fp_V f y) 1) (fp_I f) := by
  obtain ⟨c, q, e1, e2, e3⟩ := fp_dec hf hx
  obtain ⟨d, r, g1, g2, g3⟩ := fp_dec hf hy
  unfold Jvm.FP.Core.add
  rw [e1, g1]
  have hm : f.qmin ≤ min q r := by omega
  have u1 := fp_units (c := c) hm (show min q r ≤ q by omega)
  have u2 := fp_units (c := d) hm (show min q r ≤ r by omega)
  show Jvm.FP.Core.encode f (Jvm.FP.Core.roundRatio f (Jvm.FP.Core.sumSign false false ((Jvm.FP.Core.inUnits c q (min q r) : Int) + (Jvm.FP.Core.inUnits d r (min q r) : Int))) ((Jvm.FP.Core.inUnits c q (min q r) : Int) + (Jvm.FP.Core.inUnits d r (min q r) : Int)).natAbs 1 (min q r)) = _
  generalize hA : Jvm.FP.Core.inUnits c q (min q r) = A at *
  generalize hB : Jvm.FP.Core.inUnits d r (min q r) = B at *
  have hs : Jvm.FP.Core.sumSign false false ((A : Int) + B) = false := by
    unfold Jvm.FP.Core.sumSign
    split
    · rfl
    · exact decide_eq_false (by omega)
  rw [hs, show ((A : Int) + (B : Int)).natAbs = A + B by omega]
  rw [fp_R0 hf hm, Nat.add_mul, u1, u2, e3, g3]
theorem fp_sub (hf : fp_ok f) {x y : Nat} (hx : x < fp_I f) (hyx : y ≤ x) : Jvm.FP.Core.sub f x y = fp_P f 0 (fp_V f x - fp_V f y) 1 := by
  have hV := (fp_V_le hf).mpr hyx
  obtain ⟨c, q, e1, e2, e3⟩ := fp_dec hf hx
  obtain ⟨d, r, g1, g2, g3⟩ := fp_dec hf (Nat.lt_of_le_of_lt hyx hx)
  unfold Jvm.FP.Core.sub
  rw [e1, g1]
  have hm : f.qmin ≤ min q r := by omega
  have u1 := fp_units (c := c) hm (show min q r ≤ q by omega)
  have u2 := fp_units (c := d) hm (show min q r ≤ r by omega)
  show Jvm.FP.Core.encode f (Jvm.FP.Core.roundRatio f (Jvm.FP.Core.sumSign false true ((Jvm.FP.Core.inUnits c q (min q r) : Int) + -(Jvm.FP.Core.inUnits d r (min q r) : Int))) ((Jvm.FP.Core.inUnits c q (min q r) : Int) + -(Jvm.FP.Core.inUnits d r (min q r) : Int)).natAbs 1 (min q r)) = _
  generalize hA : Jvm.FP.Core.inUnits c q (min q r) = A at *
  generalize hB : Jvm.FP.Core.inUnits d r (min q r) = B at *
  have hBA : B ≤ A := by
    rw [← e3, ← g3, ← u1, ← u2] at hV
    exact Nat.le_of_mul_le_mul_right hV (Nat.two_pow_pos _)
  have hs : Jvm.FP.Core.sumSign false true ((A : Int) + -(B : Int)) = false := by
    unfold Jvm.FP.Core.sumSign
    split
    · rfl
    · exact decide_eq_false (by omega)
  rw [hs, show ((A : Int) + -(B : Int)).natAbs = A - B by omega]
  rw [fp_R0 hf hm, Nat.sub_mul, u1, u2, e3, g3]
  have h1 := fp_m0 hf (show fp_V f x - fp_V f y ≤ fp_V f x by omega)
  rw [fp_ex0 hf] at h1
  omega
theorem fp_mul (hf : fp_ok f) {x y : Nat} (hx : x < fp_I f) (hy : y < fp_I f) : Jvm.FP.Core.mul f x y = min (fp_P f (-f.qmin).toNat (fp_V f x * fp_V f y) 1) (fp_I f) := by
  obtain ⟨c, q, e1, e2, e3⟩ := fp_dec hf hx
  obtain ⟨d, r, g1, g2, g3⟩ := fp_dec hf hy
  have hq0 := hf.2.2.2.2
  unfold Jvm.FP.Core.mul
  rw [e1, g1]
  show Jvm.FP.Core.encode f (Jvm.FP.Core.roundRatio f false (c * d) 1 (q + r)) = _
  have hv : fp_V f x * fp_V f y = c * d * 2 ^ (q + r + (2 * (-f.qmin).toNat : Nat)).toNat := by
    rw [← e3, ← g3, show (q + r + (2 * (-f.qmin).toNat : Nat)).toNat = (q - f.qmin).toNat + (r - f.qmin).toNat by omega, Nat.pow_add]
    ac_rfl
  by_cases hc : c * d = 0
  · rw [hv, hc, Nat.zero_mul]
    show Jvm.FP.Core.encode f (.fin false 0 f.qmin) = _
    unfold fp_P
    rw [if_pos rfl, Nat.zero_min]
    show (if 0 < f.tails then Jvm.FP.Core.assemble f false 0 0 else _) = 0
    rw [if_pos (fp_tp f)]
    unfold Jvm.FP.Core.assemble
    simp
  · rw [hv]
    exact fp_round hf (by omega) (by decide) (by omega) (by omega) (Nat.mul_pos (by omega) (Nat.two_pow_pos _))
theorem fp_cmp (hf : fp_ok f) {x y : Nat} (hx : x < fp_I f) (hy : y < fp_I f) : Jvm.FP.Core.cmp f x y = some (compare x y) := by
  obtain ⟨c, q, e1, e2, e3⟩ := fp_dec hf hx
  obtain ⟨d, r, g1, g2, g3⟩ := fp_dec hf hy
  unfold Jvm.FP.Core.cmp
  rw [e1, g1]
  have hm : f.qmin ≤ min q r := by omega
  have u1 := fp_units (c := c) hm (show min q r ≤ q by omega)
  have u2 := fp_units (c := d) hm (show min q r ≤ r by omega)
  show some (compare (Jvm.FP.Core.inUnits c q (min q r) : Int) (Jvm.FP.Core.inUnits d r (min q r) : Int)) = _
  generalize hA : Jvm.FP.Core.inUnits c q (min q r) = A at *
  generalize hB : Jvm.FP.Core.inUnits d r (min q r) = B at *
  have hp := Nat.two_pow_pos (min q r - f.qmin).toNat
  have l1 := fp_V_lt hf (x := x) (y := y)
  have l2 := fp_V_lt hf (x := y) (y := x)
  rw [← e3, ← g3, ← u1, ← u2, Nat.mul_lt_mul_right hp] at l1
  rw [← e3, ← g3, ← u1, ← u2, Nat.mul_lt_mul_right hp] at l2
  congr 1
  rcases Nat.lt_trichotomy x y with z | z | z
  · rw [Nat.compare_eq_lt.mpr z]
    exact Int.compare_eq_lt.mpr (by have := l1.mpr z; omega)
  · rw [Nat.compare_eq_eq.mpr z]
    exact Int.compare_eq_eq.mpr (by
      have h1 : ¬ A < B := fun h => by have := l1.mp h; omega
      have h2 : ¬ B < A := fun h => by have := l2.mp h; omega
      omega)
  · rw [Nat.compare_eq_gt.mpr z]
    exact Int.compare_eq_gt.mpr (by have := l2.mpr z; omega)
end PUFP
