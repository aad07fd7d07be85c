/-! pure part: what can be UNDONE, the reference (wip/whole/pure/15.d.rhist.src) -/
section RHIST
variable {fd st : Nat → Nat → Nat} {sts : Nat → Nat → Nat → Nat} {lg : Nat → Nat → Int32} {L K : Nat} {w : am_S} {g g' : Nat → Int32}
theorem rS.lo (hS : ∀ j, st 3 j ≤ 10) (h : rS st g) (hk : ∀ k, k < 64 → g' k = g k) : rS st g' := by
  obtain ⟨g1, g2, g3, g4, g5, g6⟩ := h
  refine ⟨fun u hu => ?_, fun u hu => ?_, fun u hu => ?_, ?_, fun j hj => ?_, fun j i hj hi => ?_⟩
  · rw [hk _ (by omega)]; exact g1 u hu
  · rw [hk _ (by omega)]; exact g2 u hu
  · rw [hk _ (by omega)]; exact g3 u hu
  · rw [hk _ (by omega)]; exact g4
  · rw [hk _ (by omega)]; exact g5 j hj
  · have := hS j
    rw [hk _ (by omega)]; exact g6 j i hj hi
theorem rJ.hi (h : rJ lg L g) (hk : ∀ k, 64 ≤ k → k < 245 → g' k = g k) : rJ lg L g' := by
  refine ⟨by rw [hk _ (by omega) (by omega)]; exact h.1, fun n t ht hn hn2 => ?_⟩
  rw [hk _ (by omega) (by omega)]; exact h.2 n t ht hn hn2
theorem rJ.cg {lg' : Nat → Nat → Int32} (h : rJ lg L g) (hk : ∀ n t, n < L → lg' n t = lg n t) : rJ lg' L g := ⟨h.1, fun n t ht hn hn2 => by rw [hk n t hn]; exact h.2 n t ht hn hn2⟩
/-- the reference's states of before -/
def rPa (sts : Nat → Nat → Nat → Nat) (lg : Nat → Nat → Int32) (L K : Nat) (w : am_S) : Prop := w.1 271 23 = nI K ∧ ∀ d, 1 ≤ d → d ≤ K → rS (sts (L - d)) (fun k => w.1 285 (245 * (K - d) + k)) ∧ rJ lg (L - d) (fun k => w.1 285 (245 * (K - d) + k))
theorem rPa.fr {w' : am_S} (h : rPa sts lg L K w) (h1 : w'.1 271 23 = w.1 271 23) (h2 : w'.1 285 = w.1 285) : rPa sts lg L K w' := by
  unfold rPa
  rw [h1, h2]; exact h
theorem rPa.cg {lg' : Nat → Nat → Int32} (h : rPa sts lg L K w) (hK : K ≤ L) (hk : ∀ n t, n + 1 < L → lg' n t = lg n t) : rPa sts lg' L K w := ⟨h.1, fun d d1 d2 => ⟨(h.2 d d1 d2).1, (h.2 d d1 d2).2.cg (fun n t hn => hk n t (by omega))⟩⟩
theorem r_keep52 (h : w.1 271 23 = nI K) (hK : K < 40) : Wp (f_X12_keep_52 w) (fun w' => w'.1 271 23 = nI (K + 1) ∧ (∀ k, k ≠ 23 → w'.1 271 k = w.1 271 k) ∧ eqx [271, 285] w w' ∧ (∀ k, k < 245 → w'.1 285 (245 * K + k) = w.1 281 k) ∧ (∀ k, k < 245 * K → w'.1 285 k = w.1 285 k)) := by
  unfold f_X12_keep_52 f_X12_keep_54
  refine Wp.for (fun i w => (nI i, w)) (fun i w' => eqx [285] w w' ∧ ∀ k, w'.1 285 k = if 245 * K ≤ k ∧ k < 245 * K + i then w.1 281 (k - 245 * K) else w.1 285 k) 245 (by decide) (w := w) rfl ⟨eqx.rf, fun k => by rw [if_neg (by omega)]⟩ (fun i w' hi hI => ?_) (fun w' hI => ?_)
  · obtain ⟨i1, i2⟩ := hI
    have e1 : w'.1 271 23 = nI K := i1.t h (by decide)
    have e2 : w'.1 281 = w.1 281 := i1.r (by decide)
    unfold f_X12_keep_54b
    simp (disch := omega) only [pv_v, pv_b2, pv_b1, pv_x, pv_lit, pv_ofN, pu_chk, pu_cl, nI_add, pk_mul, nI_leI, nI_ltI, nI_eq, pu_nar0, pu_nar1, pu_narb, bI_0, bI_1, ↓reduceIte, pu_leT, pu_leF, pu_ltT, pu_ltF, pu_eqT, pu_eqF, pu_x1, pu_x2, pu_x3, pu_x4, pu_x5, pu_x6, pu_x7, pu_x8, Nat.zero_add, pu_m31I, pu_m31, pu_shlI, eq_self, Bool.false_eq_true, Bool.true_eq_false, e1, e2]
    refine Wp.some ⟨_, rfl, i1.on (eqx.pi (by simp)), fun k => ?_⟩
    rw [pi_ite, i2]
    by_cases e : k = 245 * K + i
    · subst e
      rw [if_pos rfl, if_pos (by omega), show 245 * K + i - 245 * K = i by omega]
    · rw [if_neg e]
      by_cases q : 245 * K ≤ k ∧ k < 245 * K + i
      · rw [if_pos q, if_pos (by omega)]
      · rw [if_neg q, if_neg (by omega)]
  · obtain ⟨i1, i2⟩ := hI
    have e1 : w'.1 271 23 = nI K := i1.t h (by decide)
    unfold f_X12_keep_54b
    simp (disch := omega) only [pv_v, pv_b2, pv_b1, pv_x, pv_lit, pv_ofN, pu_chk, pu_cl, nI_add, pk_mul, nI_leI, nI_ltI, nI_eq, pu_nar0, pu_nar1, pu_narb, bI_0, bI_1, ↓reduceIte, pu_leT, pu_leF, pu_ltT, pu_ltF, pu_eqT, pu_eqF, pu_x1, pu_x2, pu_x3, pu_x4, pu_x5, pu_x6, pu_x7, pu_x8, Nat.zero_add, pu_m31I, pu_m31, pu_shlI, eq_self, Bool.false_eq_true, Bool.true_eq_false, e1]
    refine Wp.some ⟨pi_same, fun k hk => ?_, (i1.up (by decide)).on (eqx.pi (by simp)), fun k hk => ?_, fun k hk => ?_⟩
    · rw [pi_k hk, i1.r (by decide)]
    · rw [pi_p (by omega), i2, if_pos (by omega), show 245 * K + k - 245 * K = k by omega]
    · rw [pi_p (by omega), i2, if_neg (by omega)]
theorem r_keep (hS : ∀ j, st 3 j ≤ 10) (hw : ∀ d, 1 ≤ d → d ≤ K → ∀ j, sts (L - d) 3 j ≤ 10) (h : rS st (w.1 281)) (hJ : rJ lg L (w.1 281)) (hP : rPa sts lg L K w) (hK : K ≤ 40) (hKL : K ≤ L) : Wp (f_X12_keep w) (fun w' => rPa (ups sts L st) lg (L + 1) (min (K + 1) 40) w' ∧ (∀ k, k ≠ 23 → w'.1 271 k = w.1 271 k) ∧ eqx [271, 285] w w') := by
  obtain ⟨a1, a2⟩ := hP
  unfold f_X12_keep
  by_cases c : K < 40
  · simp (disch := omega) only [pv_v, pv_b2, pv_b1, pv_x, pv_lit, pv_ofN, pu_chk, pu_cl, nI_add, pk_mul, nI_leI, nI_ltI, nI_eq, pu_nar0, pu_nar1, pu_narb, bI_0, bI_1, ↓reduceIte, pu_leT, pu_leF, pu_ltT, pu_ltF, pu_eqT, pu_eqF, pu_x1, pu_x2, pu_x3, pu_x4, pu_x5, pu_x6, pu_x7, pu_x8, Nat.zero_add, pu_m31I, pu_m31, pu_shlI, eq_self, Bool.false_eq_true, Bool.true_eq_false, a1, show ¬ K = 40 by omega]
    refine (r_keep52 a1 c).mono (fun w' ⟨b1, b2, b3, b4, b5⟩ => ⟨⟨?_, fun d d1 d2 => ?_⟩, b2, b3⟩)
    · rw [Nat.min_eq_left (by omega)]; exact b1
    · rw [Nat.min_eq_left (by omega)] at d2 ⊢
      by_cases q : d = 1
      · subst q
        rw [show L + 1 - 1 = L by omega, ups_L, show K + 1 - 1 = K by omega]
        exact ⟨h.lo hS (fun k hk => b4 k (by omega)), hJ.hi (fun k _ hk => b4 k hk)⟩
      · have a := a2 (d - 1) (by omega) (by omega)
        rw [ups_ne (by omega), show L + 1 - d = L - (d - 1) by omega, show K + 1 - d = K - (d - 1) by omega]
        exact ⟨a.1.lo (hw (d - 1) (by omega) (by omega)) (fun k hk => b5 _ (by omega)), a.2.hi (fun k _ hk => b5 _ (by omega))⟩
  · have hK4 : K = 40 := by omega
    subst hK4
    simp (disch := omega) only [pv_v, pv_b2, pv_b1, pv_x, pv_lit, pv_ofN, pu_chk, pu_cl, nI_add, pk_mul, nI_leI, nI_ltI, nI_eq, pu_nar0, pu_nar1, pu_narb, bI_0, bI_1, ↓reduceIte, pu_leT, pu_leF, pu_ltT, pu_ltF, pu_eqT, pu_eqF, pu_x1, pu_x2, pu_x3, pu_x4, pu_x5, pu_x6, pu_x7, pu_x8, Nat.zero_add, pu_m31I, pu_m31, pu_shlI, eq_self, Bool.false_eq_true, Bool.true_eq_false, a1]
    unfold f_X12_keep_13
    refine Wp.for (fun i w => (nI (245 + i), w)) (fun i w' => eqx [285] w w' ∧ ∀ k, w'.1 285 k = if k < i then w.1 285 (k + 245) else w.1 285 k) 9555 (by decide) (w := w) rfl ⟨eqx.rf, fun k => by rw [if_neg (by omega)]⟩ (fun i w' hi hI => ?_) (fun w' hI => ?_)
    · obtain ⟨i1, i2⟩ := hI
      have e1 : 245 + i - 245 = i := by omega
      unfold f_X12_keep_13b
      simp (disch := omega) only [pv_v, pv_b2, pv_b1, pv_x, pv_lit, pv_ofN, pu_chk, pu_cl, nI_add, pk_mul, nI_leI, nI_ltI, nI_eq, pu_nar0, pu_nar1, pu_narb, bI_0, bI_1, ↓reduceIte, pu_leT, pu_leF, pu_ltT, pu_ltF, pu_eqT, pu_eqF, pu_x1, pu_x2, pu_x3, pu_x4, pu_x5, pu_x6, pu_x7, pu_x8, Nat.zero_add, pu_m31I, pu_m31, pu_shlI, eq_self, Bool.false_eq_true, Bool.true_eq_false, pk_sub, e1]
      refine Wp.some ⟨_, by rw [Nat.add_assoc], i1.on (eqx.pi (by simp)), fun k => ?_⟩
      rw [pi_ite, i2, i2]
      by_cases e : k = i
      · subst e
        rw [if_pos rfl, if_neg (by omega), if_pos (by omega), Nat.add_comm]
      · rw [if_neg e]
        by_cases q : k < i
        · rw [if_pos q, if_pos (by omega)]
        · rw [if_neg q, if_neg (by omega)]
    · obtain ⟨i1, i2⟩ := hI
      have e1 : w'.1 271 23 = nI 40 := i1.t a1 (by decide)
      unfold f_X12_keep_13b
      simp (disch := omega) only [pv_v, pv_b2, pv_b1, pv_x, pv_lit, pv_ofN, pu_chk, pu_cl, nI_add, pk_mul, nI_leI, nI_ltI, nI_eq, pu_nar0, pu_nar1, pu_narb, bI_0, bI_1, ↓reduceIte, pu_leT, pu_leF, pu_ltT, pu_ltF, pu_eqT, pu_eqF, pu_x1, pu_x2, pu_x3, pu_x4, pu_x5, pu_x6, pu_x7, pu_x8, Nat.zero_add, pu_m31I, pu_m31, pu_shlI, eq_self, Bool.false_eq_true, Bool.true_eq_false, e1, pk_sub]
      refine Wp.x ((r_keep52 (K := 39) pi_same (by omega)).mono (fun w2 ⟨b1, b2, b3, b4, b5⟩ => ⟨⟨b1, fun d d1 d2 => ?_⟩, fun k hk => ?_, ((i1.up (by decide)).on (eqx.pi (by simp))).on b3⟩))
      · rw [show min (40 + 1) 40 = 40 by decide] at d2 ⊢
        by_cases q : d = 1
        · subst q
          have b4' : ∀ k, k < 245 → w2.1 285 (245 * 39 + k) = w.1 281 k := fun k hk => by rw [b4 k hk, pi_p (by omega), i1.r (by decide)]
          rw [show L + 1 - 1 = L by omega, ups_L, show 40 - 1 = 39 by omega]
          exact ⟨h.lo hS (fun k hk => b4' k (by omega)), hJ.hi (fun k _ hk => b4' k hk)⟩
        · have a := a2 (d - 1) (by omega) (by omega)
          have b5' : ∀ k, k < 245 → w2.1 285 (245 * (40 - d) + k) = w.1 285 (245 * (40 - (d - 1)) + k) := fun k hk => by
            rw [b5 _ (by omega), pi_p (by omega), i2, if_pos (by omega), show 245 * (40 - (d - 1)) + k = 245 * (40 - d) + k + 245 by omega]
          rw [ups_ne (by omega), show L + 1 - d = L - (d - 1) by omega]
          exact ⟨a.1.lo (hw (d - 1) (by omega) (by omega)) (fun k hk => b5' _ (by omega)), a.2.hi (fun k _ hk => b5' _ (by omega))⟩
      · rw [b2 k hk, pi_k hk, i1.r (by decide)]
theorem r_undo0 (h : w.1 271 23 = nI 0) : f_X12_undo w = some (-nI 1, w) := by
  unfold f_X12_undo
  simp (disch := omega) only [pv_v, pv_b2, pv_b1, pv_x, pv_lit, pv_ofN, pu_chk, pu_cl, nI_add, pk_mul, nI_leI, nI_ltI, nI_eq, pu_nar0, pu_nar1, pu_narb, bI_0, bI_1, ↓reduceIte, pu_leT, pu_leF, pu_ltT, pu_ltF, pu_eqT, pu_eqF, pu_x1, pu_x2, pu_x3, pu_x4, pu_x5, pu_x6, pu_x7, pu_x8, Nat.zero_add, pu_m31I, pu_m31, pu_shlI, eq_self, Bool.false_eq_true, Bool.true_eq_false, h]
theorem r_undo1 (hw : ∀ d, 1 ≤ d → d ≤ K → ∀ j, sts (L - d) 3 j ≤ 10) (hP : rPa sts lg L K w) (hK : K ≤ 40) (hK0 : 0 < K) : Wp (f_X12_undo w) (fun q => q.1 = nI (K - 1) ∧ rS (sts (L - 1)) (q.2.1 281) ∧ rJ lg (L - 1) (q.2.1 281) ∧ rPa sts lg (L - 1) (K - 1) q.2 ∧ (∀ k, k ≠ 23 → q.2.1 271 k = w.1 271 k) ∧ eqx [271, 281] w q.2) := by
  obtain ⟨a1, a2⟩ := hP
  unfold f_X12_undo
  simp (disch := omega) only [pv_v, pv_b2, pv_b1, pv_x, pv_lit, pv_ofN, pu_chk, pu_cl, nI_add, pk_mul, nI_leI, nI_ltI, nI_eq, pu_nar0, pu_nar1, pu_narb, bI_0, bI_1, ↓reduceIte, pu_leT, pu_leF, pu_ltT, pu_ltF, pu_eqT, pu_eqF, pu_x1, pu_x2, pu_x3, pu_x4, pu_x5, pu_x6, pu_x7, pu_x8, Nat.zero_add, pu_m31I, pu_m31, pu_shlI, eq_self, Bool.false_eq_true, Bool.true_eq_false, a1, show ¬ K = 0 by omega, pk_sub]
  unfold f_X12_undo_21
  refine Wp.for (fun i w => (nI i, w)) (fun i w' => eqx [271, 281] w w' ∧ w'.1 271 = (am_pi w 271 23 (nI (K - 1))).1 271 ∧ ∀ k, k < i → w'.1 281 k = w.1 285 (245 * (K - 1) + k)) 245 (by decide) (w := am_pi w 271 23 (nI (K - 1))) rfl ⟨eqx.pi (by simp), rfl, fun k hk => absurd hk (by omega)⟩ (fun i w' hi hI => ?_) (fun w' hI => ?_)
  · obtain ⟨i1, i2, i3⟩ := hI
    have e1 : w'.1 271 23 = nI (K - 1) := by rw [i2]; exact pi_same
    have e2 : w'.1 285 = w.1 285 := i1.r (by decide)
    unfold f_X12_undo_21b
    simp (disch := omega) only [pv_v, pv_b2, pv_b1, pv_x, pv_lit, pv_ofN, pu_chk, pu_cl, nI_add, pk_mul, nI_leI, nI_ltI, nI_eq, pu_nar0, pu_nar1, pu_narb, bI_0, bI_1, ↓reduceIte, pu_leT, pu_leF, pu_ltT, pu_ltF, pu_eqT, pu_eqF, pu_x1, pu_x2, pu_x3, pu_x4, pu_x5, pu_x6, pu_x7, pu_x8, Nat.zero_add, pu_m31I, pu_m31, pu_shlI, eq_self, Bool.false_eq_true, Bool.true_eq_false, e1, e2]
    refine Wp.some ⟨_, rfl, i1.on (eqx.pi (by simp)), by rw [pi_p (by omega)]; exact i2, fun k hk => ?_⟩
    rw [pi_ite]
    by_cases e : k = i
    · subst e; rw [if_pos rfl]
    · rw [if_neg e]; exact i3 k (by omega)
  · obtain ⟨i1, i2, i3⟩ := hI
    have e1 : w'.1 271 23 = nI (K - 1) := by rw [i2]; exact pi_same
    have a := a2 1 (by omega) (by omega)
    unfold f_X12_undo_21b
    simp (disch := omega) only [pv_v, pv_b2, pv_b1, pv_x, pv_lit, pv_ofN, pu_chk, pu_cl, nI_add, pk_mul, nI_leI, nI_ltI, nI_eq, pu_nar0, pu_nar1, pu_narb, bI_0, bI_1, ↓reduceIte, pu_leT, pu_leF, pu_ltT, pu_ltF, pu_eqT, pu_eqF, pu_x1, pu_x2, pu_x3, pu_x4, pu_x5, pu_x6, pu_x7, pu_x8, Nat.zero_add, pu_m31I, pu_m31, pu_shlI, eq_self, Bool.false_eq_true, Bool.true_eq_false, e1]
    refine Wp.some ⟨rfl, a.1.lo (hw 1 (by omega) (by omega)) (fun k hk => i3 k (by omega)), a.2.hi (fun k _ hk => i3 k hk), ⟨e1, fun d d1 d2 => ?_⟩, fun k hk => by rw [i2]; exact pi_k hk, i1⟩
    have b := a2 (d + 1) (by omega) (by omega)
    rw [i1.r (by decide), show L - 1 - d = L - (d + 1) by omega, show K - 1 - d = K - (d + 1) by omega]
    exact b
end RHIST
