/-! pure part: SCRIPTS done, both sides (wip/whole/pure/16.a.script.src) -/
/-- the sort of the ACT that a STEP tells -/
def ao (k : Nat) : Nat := if k = 4 then 6 else k
theorem ao_le {k : Nat} (h : k < 6) : ao k ≤ 8 ∧ ao k ≠ 7 ∧ (ao k ≤ 3 ∨ ao k = 5 ∨ ao k = 6) := by
  unfold ao
  split <;> omega
/-- a SCRIPT in the class, in the reference -/
def scC (n sl : Nat) (sk : Nat → Nat) (sn : Nat → Int32) (w : am_S) : Prop := w.1 (259 + 3 * n) 2 = nI sl ∧ ∀ j, j < sl → w.1 (259 + 3 * n + 1) j = nI (sk j) ∧ w.1 (259 + 3 * n + 2) j = sn j
def scR (n sl : Nat) (sk : Nat → Nat) (sn : Nat → Int32) (w : am_S) : Prop := w.1 280 n = nI sl ∧ ∀ j, j < sl → w.1 279 (2 * (16 * n + j)) = nI (sk j) ∧ w.1 279 (2 * (16 * n + j) + 1) = sn j
def scW (sl : Nat) (sk : Nat → Nat) : Prop := sl ≤ 16 ∧ ∀ j, j < sl → sk j < 6
/-- DO -/
def gP (fd : Nat → Nat → Nat) (sk : Nat → Nat) (sn : Nat → Int32) : Nat → Nat → Zt → Nat × Zt
  | 0, i, z => (i, z)
  | f + 1, i, z => if (aW fd z.1 (ao (sk i)) (sn i) (nI 0)).isNone then gP fd sk sn f (i + 1) (zA fd z (ao (sk i)) (sn i) (nI 0) (sn i).toInt64) else (i, z)
theorem gP_n {fd : Nat → Nat → Nat} {sk : Nat → Nat} {sn : Nat → Int32} {f i : Nat} {z : Zt} (h : aW fd z.1 (ao (sk i)) (sn i) (nI 0) = none) : gP fd sk sn (f + 1) i z = gP fd sk sn f (i + 1) (zA fd z (ao (sk i)) (sn i) (nI 0) (sn i).toInt64) := by
  rw [gP, h]; rfl
theorem gP_s {fd : Nat → Nat → Nat} {sk : Nat → Nat} {sn : Nat → Int32} {f i r : Nat} {z : Zt} (h : aW fd z.1 (ao (sk i)) (sn i) (nI 0) = some r) : gP fd sk sn (f + 1) i z = (i, z) := by
  rw [gP, h]; rfl
/-- RUN -/
def gR (fd : Nat → Nat → Nat) (sk : Nat → Nat) (sn : Nat → Int32) : Nat → Nat → (Nat → Nat → Nat) → Nat × (Nat → Nat → Nat)
  | 0, i, st => (i, st)
  | f + 1, i, st => if (aW fd st (ao (sk i)) (sn i) (nI 0)).isNone then gR fd sk sn f (i + 1) (aS fd st (ao (sk i)) (aN (sn i)) 0 (sn i).toInt64) else (i, st)
theorem gR_n {fd : Nat → Nat → Nat} {sk : Nat → Nat} {sn : Nat → Int32} {f i : Nat} {st : Nat → Nat → Nat} (h : aW fd st (ao (sk i)) (sn i) (nI 0) = none) : gR fd sk sn (f + 1) i st = gR fd sk sn f (i + 1) (aS fd st (ao (sk i)) (aN (sn i)) 0 (sn i).toInt64) := by
  rw [gR, h]; rfl
theorem gR_s {fd : Nat → Nat → Nat} {sk : Nat → Nat} {sn : Nat → Int32} {f i r : Nat} {st : Nat → Nat → Nat} (h : aW fd st (ao (sk i)) (sn i) (nI 0) = some r) : gR fd sk sn (f + 1) i st = (i, st) := by
  rw [gR, h]; rfl
section SCRIPT
variable {fd st : Nat → Nat → Nat} {z : Zt} {w w' w'' : am_S} {p n sl : Nat} {sk : Nat → Nat} {sn : Nat → Int32}
theorem sv9 : ∀ k, k < 6 → am_sv 9 k = nI (ao k) := by decide
theorem c_sortOf (hW : scW sl sk) (h : scC n sl sk sn w) {j : Nat} (hj : j < sl) : f_X8_sortOf (259 + 3 * n) (nI j) w = some (nI (ao (sk j)), w) := by
  have h1 := hW.1
  have h2 := hW.2 j hj
  have h3 := (h.2 j hj).1
  unfold f_X8_sortOf
  simp (disch := omega) only [pv_v, pv_b2, pv_b1, pv_x, pv_lit, pv_ofN, pu_chk, pu_cl, nI_add, pk_mul, nI_leI, nI_ltI, nI_eq, pu_nar0, pu_nar1, pu_narb, bI_0, bI_1, ↓reduceIte, pu_leT, pu_leF, pu_ltT, pu_ltF, pu_eqT, pu_eqF, pu_x1, pu_x2, pu_x3, pu_x4, pu_x5, pu_x6, pu_x7, pu_x8, Nat.zero_add, pu_m31I, pu_m31, pu_shlI, eq_self, Bool.false_eq_true, Bool.true_eq_false, h3, sv9 (sk j) h2]
theorem scC.fr (h : scC n sl sk sn w) (h0 : w'.1 (259 + 3 * n) = w.1 (259 + 3 * n)) (h1 : w'.1 (259 + 3 * n + 1) = w.1 (259 + 3 * n + 1)) (h2 : w'.1 (259 + 3 * n + 2) = w.1 (259 + 3 * n + 2)) : scC n sl sk sn w' := by
  unfold scC
  rw [h0, h1, h2]; exact h
theorem scC.C (h : scC n sl sk sn w) (hx : eqC w w') : scC n sl sk sn w' := h.fr (hx.1 _ (by omega)) (hx.1 _ (by omega)) (hx.1 _ (by omega))
theorem scR.fr (h : scR n sl sk sn w) (h0 : w'.1 279 = w.1 279) (h1 : w'.1 280 = w.1 280) : scR n sl sk sn w' := by
  unfold scR
  rw [h0, h1]; exact h
theorem scR.R (h : scR n sl sk sn w) (hx : eqR w w') : scR n sl sk sn w' := h.fr (hx.1 _ (by decide)) (hx.1 _ (by decide))
theorem gP_le {f : Nat} : ∀ {i : Nat} {z : Zt}, (gP fd sk sn f i z).1 ≤ i + f ∧ (gP fd sk sn f i z).2.2.2.2.1 ≤ z.2.2.2.1 + f := by
  induction f with
  | zero => intro i z; exact ⟨Nat.le_refl _, Nat.le_refl _⟩
  | succ f ih =>
    intro i z
    cases e : aW fd z.1 (ao (sk i)) (sn i) (nI 0) with
    | none =>
      rw [gP_n e]
      have := ih (i := i + 1) (z := zA fd z (ao (sk i)) (sn i) (nI 0) (sn i).toInt64)
      have h2 : (zA fd z (ao (sk i)) (sn i) (nI 0) (sn i).toInt64).2.2.2.1 = z.2.2.2.1 + 1 := rfl
      omega
    | some r => rw [gP_s e]; exact ⟨by omega, Nat.le_add_right _ _⟩
theorem c_perform26 (h : cZ fd z w) (hL : z.2.2.2.1 + 16 < 2 ^ 30) (hn : n < 4) (hW : scW sl sk) (hs : scC n sl sk sn w) : Wp (f_X11_perform_26 (nI n) (nI 0) w) (fun q => q.1 = nI (gP fd sk sn sl 0 z).1 ∧ cZ fd (gP fd sk sn sl 0 z).2 q.2 ∧ eqC w q.2) := by
  have h16 := hW.1
  unfold f_X11_perform_26
  refine Wp.loop (fun i s => ∃ w' z', s = (nI i, w') ∧ i ≤ sl ∧ cZ fd z' w' ∧ eqC w w' ∧ gP fd sk sn (sl - i) i z' = gP fd sk sn sl 0 z ∧ z'.2.2.2.1 ≤ z.2.2.2.1 + i) sl (by omega) ⟨w, z, rfl, Nat.zero_le _, h, eqC.rf, rfl, Nat.le_refl _⟩ ?_
  rintro i s hi ⟨w', z', rfl, hi2, i1, i2, i3, i4⟩
  have hs' := hs.C i2
  unfold f_X11_perform_26b
  rcases Nat.lt_or_ge i sl with c | c
  · have hk := hW.2 i c
    obtain ⟨k1, k2, k3⟩ := ao_le hk
    have e2 := (hs'.2 i c).2
    have eg : sl - i = (sl - (i + 1)) + 1 := by omega
    rw [eg] at i3
    cases e : aW fd z'.1 (ao (sk i)) (sn i) (nI 0) with
    | none =>
      rw [gP_n e] at i3
      have ew : aW fd z'.1 (ao (sk i)) (sn i) (-nI 1) = none := by rw [aW_e (.inr rfl) (by omega) (b' := nI 0)]; exact e
      obtain ⟨⟨r, w2⟩, t1, t2, t3, t4⟩ := c_attempt_n i1 (by omega) k1 ew (x := (sn i).toInt64)
      have t2 : r = nI (aR fd z'.1 (ao (sk i)) (aN (sn i)) (aN (-nI 1)) (sn i).toInt64) := t2
      subst t2
      have := aR_le i1.2.1.2.1 (k := ao (sk i)) (a := aN (sn i)) (b := aN (-nI 1)) (x := (sn i).toInt64)
      have t3 : cZ fd (zA fd z' (ao (sk i)) (sn i) (-nI 1) (sn i).toInt64) w2 := t3
      rw [zA_e (.inr rfl) (by omega) (b' := nI 0)] at t3
      simp (disch := omega) only [pv_v, pv_b2, pv_b1, pv_x, pv_lit, pv_ofN, pu_chk, pu_cl, nI_add, pk_mul, nI_leI, nI_ltI, nI_eq, pu_nar0, pu_nar1, pu_narb, bI_0, bI_1, ↓reduceIte, pu_leT, pu_leF, pu_ltT, pu_ltF, pu_eqT, pu_eqF, pu_x1, pu_x2, pu_x3, pu_x4, pu_x5, pu_x6, pu_x7, pu_x8, Nat.zero_add, pu_m31I, pu_m31, pu_shlI, eq_self, Bool.false_eq_true, Bool.true_eq_false, hs'.1, c_sortOf hW hs' c, e2, t1]
      refine Wp.some ⟨trivial, w2, _, rfl, trivial, t3, i2.on t4, i3, ?_⟩
      show z'.2.2.2.1 + 1 ≤ _
      omega
    | some r =>
      rw [gP_s e] at i3
      have ew : aW fd z'.1 (ao (sk i)) (sn i) (-nI 1) = some r := by rw [aW_e (.inr rfl) (by omega) (b' := nI 0)]; exact e
      obtain ⟨⟨v, w2⟩, t1, t2, t3, t4⟩ := c_attempt_s i1 k1 ew (x := (sn i).toInt64)
      have t2 : v = -nI 1 - nI r := t2
      subst t2
      have e3 : ∀ r, r < 4 → (nI 0 ≤ -nI 1 - nI r) = False := by decide
      simp (disch := omega) only [pv_v, pv_b2, pv_b1, pv_x, pv_lit, pv_ofN, pu_chk, pu_cl, nI_add, pk_mul, nI_leI, nI_ltI, nI_eq, pu_nar0, pu_nar1, pu_narb, bI_0, bI_1, ↓reduceIte, pu_leT, pu_leF, pu_ltT, pu_ltF, pu_eqT, pu_eqF, pu_x1, pu_x2, pu_x3, pu_x4, pu_x5, pu_x6, pu_x7, pu_x8, Nat.zero_add, pu_m31I, pu_m31, pu_shlI, eq_self, Bool.false_eq_true, Bool.true_eq_false, hs'.1, c_sortOf hW hs' c, e2, t1, e3 r (aW_lt e)]
      rw [← i3]
      exact Wp.some ⟨rfl, t3, i2.on t4⟩
  · have : i = sl := by omega
    subst this
    rw [Nat.sub_self, gP] at i3
    simp (disch := omega) only [pv_v, pv_b2, pv_b1, pv_x, pv_lit, pv_ofN, pu_chk, pu_cl, nI_add, pk_mul, nI_leI, nI_ltI, nI_eq, pu_nar0, pu_nar1, pu_narb, bI_0, bI_1, ↓reduceIte, pu_leT, pu_leF, pu_ltT, pu_ltF, pu_eqT, pu_eqF, pu_x1, pu_x2, pu_x3, pu_x4, pu_x5, pu_x6, pu_x7, pu_x8, Nat.zero_add, pu_m31I, pu_m31, pu_shlI, eq_self, Bool.false_eq_true, Bool.true_eq_false, hs'.1]
    rw [← i3]
    exact Wp.some ⟨rfl, i1, i2⟩
theorem actOf_e {k : Nat} (h : k < 6) : f_X12_actOf (nI k) w = some (nI (ao k), w) := by
  unfold f_X12_actOf f_X12_actOf_20 ao
  by_cases c4 : k = 4
  · subst c4; simp (disch := omega) only [pv_v, pv_b2, pv_b1, pv_x, pv_lit, pv_ofN, pu_chk, pu_cl, nI_add, pk_mul, nI_leI, nI_ltI, nI_eq, pu_nar0, pu_nar1, pu_narb, bI_0, bI_1, ↓reduceIte, pu_leT, pu_leF, pu_ltT, pu_ltF, pu_eqT, pu_eqF, pu_x1, pu_x2, pu_x3, pu_x4, pu_x5, pu_x6, pu_x7, pu_x8, Nat.zero_add, pu_m31I, pu_m31, pu_shlI, eq_self, Bool.false_eq_true, Bool.true_eq_false]
  · rw [if_neg c4]
    by_cases c5 : k = 5
    · subst c5; simp (disch := omega) only [pv_v, pv_b2, pv_b1, pv_x, pv_lit, pv_ofN, pu_chk, pu_cl, nI_add, pk_mul, nI_leI, nI_ltI, nI_eq, pu_nar0, pu_nar1, pu_narb, bI_0, bI_1, ↓reduceIte, pu_leT, pu_leF, pu_ltT, pu_ltF, pu_eqT, pu_eqF, pu_x1, pu_x2, pu_x3, pu_x4, pu_x5, pu_x6, pu_x7, pu_x8, Nat.zero_add, pu_m31I, pu_m31, pu_shlI, eq_self, Bool.false_eq_true, Bool.true_eq_false]
    · simp (disch := omega) only [pv_v, pv_b2, pv_b1, pv_x, pv_lit, pv_ofN, pu_chk, pu_cl, nI_add, pk_mul, nI_leI, nI_ltI, nI_eq, pu_nar0, pu_nar1, pu_narb, bI_0, bI_1, ↓reduceIte, pu_leT, pu_leF, pu_ltT, pu_ltF, pu_eqT, pu_eqF, pu_x1, pu_x2, pu_x3, pu_x4, pu_x5, pu_x6, pu_x7, pu_x8, Nat.zero_add, pu_m31I, pu_m31, pu_shlI, eq_self, Bool.false_eq_true, Bool.true_eq_false, c4, c5]
theorem r_perform2 (h : rZ fd z w) (hn : n < 4) (hW : scW sl sk) (hs : scR n sl sk sn w) : Wp (f_X12_goSteps (nI n) (nI 1) w) (fun q => q.1 = nI (gP fd sk sn sl 0 z).1 ∧ rZ fd (gP fd sk sn sl 0 z).2 q.2 ∧ eqR w q.2) := by
  have h16 := hW.1
  unfold f_X12_goSteps f_X12_goSteps_2
  refine Wp.loop (fun i s => ∃ w' z', s = (nI i, w') ∧ i ≤ sl ∧ rZ fd z' w' ∧ eqR w w' ∧ gP fd sk sn (sl - i) i z' = gP fd sk sn sl 0 z) sl (by omega) ⟨w, z, rfl, Nat.zero_le _, h, eqR.rf, rfl⟩ ?_
  rintro i s hi ⟨w', z', rfl, hi2, i1, i2, i3⟩
  have hs' := hs.R i2
  unfold f_X12_goSteps_2b f_X12_goSteps_95
  rcases Nat.lt_or_ge i sl with c | c
  · have hk := hW.2 i c
    obtain ⟨k1, k2, k3⟩ := ao_le hk
    obtain ⟨e1, e2⟩ := hs'.2 i c
    have ea := actOf_e (w := w') hk
    have eg : sl - i = (sl - (i + 1)) + 1 := by omega
    rw [eg] at i3
    have hw := r_whyNot i1.2.1 k1 (sn i) (nI 0)
    cases e : aW fd z'.1 (ao (sk i)) (sn i) (nI 0) with
    | none =>
      rw [gP_n e] at i3
      rw [e, show oI none = -nI 1 from rfl] at hw
      obtain ⟨⟨r, w2⟩, t1, t2, t3, t4, t5⟩ := r_act i1 k1 e (x := (sn i).toInt64)
      simp (disch := omega) only [pv_v, pv_b2, pv_b1, pv_x, pv_lit, pv_ofN, pu_chk, pu_cl, nI_add, pk_mul, nI_leI, nI_ltI, nI_eq, pu_nar0, pu_nar1, pu_narb, bI_0, bI_1, ↓reduceIte, pu_leT, pu_leF, pu_ltT, pu_ltF, pu_eqT, pu_eqF, pu_x1, pu_x2, pu_x3, pu_x4, pu_x5, pu_x6, pu_x7, pu_x8, Nat.zero_add, pu_m31I, pu_m31, pu_shlI, eq_self, Bool.false_eq_true, Bool.true_eq_false, hs'.1, e1, e2, ea, hw, t1]
      exact Wp.some ⟨trivial, w2, _, rfl, trivial, t3, i2.on t4, i3⟩
    | some r =>
      have hr := aW_lt e
      rw [gP_s e] at i3
      rw [e, show oI (some r) = nI r from rfl] at hw
      simp (disch := omega) only [pv_v, pv_b2, pv_b1, pv_x, pv_lit, pv_ofN, pu_chk, pu_cl, nI_add, pk_mul, nI_leI, nI_ltI, nI_eq, pu_nar0, pu_nar1, pu_narb, bI_0, bI_1, ↓reduceIte, pu_leT, pu_leF, pu_ltT, pu_ltF, pu_eqT, pu_eqF, pu_x1, pu_x2, pu_x3, pu_x4, pu_x5, pu_x6, pu_x7, pu_x8, Nat.zero_add, pu_m31I, pu_m31, pu_shlI, eq_self, Bool.false_eq_true, Bool.true_eq_false, hs'.1, e1, e2, ea, hw]
      rw [← i3]
      exact Wp.some ⟨rfl, i1, i2⟩
  · have : i = sl := by omega
    subst this
    rw [Nat.sub_self, gP] at i3
    simp (disch := omega) only [pv_v, pv_b2, pv_b1, pv_x, pv_lit, pv_ofN, pu_chk, pu_cl, nI_add, pk_mul, nI_leI, nI_ltI, nI_eq, pu_nar0, pu_nar1, pu_narb, bI_0, bI_1, ↓reduceIte, pu_leT, pu_leF, pu_ltT, pu_ltF, pu_eqT, pu_eqF, pu_x1, pu_x2, pu_x3, pu_x4, pu_x5, pu_x6, pu_x7, pu_x8, Nat.zero_add, pu_m31I, pu_m31, pu_shlI, eq_self, Bool.false_eq_true, Bool.true_eq_false, hs'.1]
    rw [← i3]
    exact Wp.some ⟨rfl, i1, i2⟩
end SCRIPT
