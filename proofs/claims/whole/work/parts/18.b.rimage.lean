/-! pure part: images, UNDO, the reference (wip/whole/pure/18.b.rimage.src) -/
section RIMAGE
variable {fd st : Nat → Nat → Nat} {z : Zt} {im : It} {lg : Nat → Nat → Int32} {L B p q : Nat} {w w' : am_S}
theorem r_image (h : rZ fd z w) (hn : 0 < (fd 0 0)) : Wp (f_X12_image w) (fun q => q.1 = nI (kc z.1) ∧ rZ fd z q.2 ∧ rIm fd (some (z.1, z.2.2.1, z.2.2.2.1)) q.2 ∧ (∀ k, k ≠ 29 → q.2.1 271 k = w.1 271 k) ∧ eqx [271, 289] w q.2) := by
  have hF := h.2.1.1
  have h10 := hF.1
  have e1 := r_isField (w := w) h.2.1.2.2.1.1 h10
  rw [decide_eq_true hn] at e1
  unfold f_X12_image
  conv => arg 1; simp (disch := omega) only [pv_v, pv_b2, pv_b1, pv_x, pv_lit, pv_ofN, pu_chk, pu_cl, nI_add, pk_mul, nI_leI, nI_ltI, nI_eq, pu_nar0, pu_nar1, pu_narb, bI_0, bI_1, ↓reduceIte, pu_leT, pu_leF, pu_ltT, pu_ltF, pu_eqT, pu_eqF, pu_x1, pu_x2, pu_x3, pu_x4, pu_x5, pu_x6, pu_x7, pu_x8, Nat.zero_add, pu_m31I, pu_m31, pu_shlI, eq_self, Bool.false_eq_true, Bool.true_eq_false, e1]
  unfold f_X12_image_11
  refine Wp.for (fun i w => (nI i, w)) (fun i w' => (∀ k, k < i → w'.1 289 k = w.1 281 k) ∧ eqx [289] w w') 245 (by decide) (w := w) rfl ⟨fun k hk => absurd hk (by omega), eqx.rf⟩ (fun i w' hi hI => ?_) (fun w' hI => ?_)
  · obtain ⟨i1, i2⟩ := hI
    have e2 : w'.1 281 = w.1 281 := i2.r (by decide)
    refine Wp.ofr (a := (nI (i + 1), am_pi w' 289 i (w.1 281 i))) (by unfold f_X12_image_11b; simp (disch := omega) only [pv_v, pv_b2, pv_b1, pv_x, pv_lit, pv_ofN, pu_chk, pu_cl, nI_add, pk_mul, nI_leI, nI_ltI, nI_eq, pu_nar0, pu_nar1, pu_narb, bI_0, bI_1, ↓reduceIte, pu_leT, pu_leF, pu_ltT, pu_ltF, pu_eqT, pu_eqF, pu_x1, pu_x2, pu_x3, pu_x4, pu_x5, pu_x6, pu_x7, pu_x8, Nat.zero_add, pu_m31I, pu_m31, pu_shlI, eq_self, Bool.false_eq_true, Bool.true_eq_false, e2]) ⟨_, rfl, fun k hk => ?_, i2.on (eqx.pi (by simp))⟩
    rw [pi_ite]
    by_cases c : k = i
    · subst c; rw [if_pos rfl]
    · rw [if_neg c]; exact i1 k (by omega)
  · obtain ⟨i1, i2⟩ := hI
    have x1 : eqx [271, 289] w (am_pi w' 271 29 (nI 1)) := (i2.up (by decide)).on (eqx.pi (by simp))
    have k1 : ∀ k, k ≠ 29 → (am_pi w' 271 29 (nI 1)).1 271 k = w.1 271 k := fun k hk => by rw [pi_k hk, i2.r (by decide)]
    have hz : rZ fd z (am_pi w' 271 29 (nI 1)) := h.fr (k1 13 (by omega)) (k1 23 (by omega)) (fun q hq => x1.2 q (by simp only [List.mem_cons, List.not_mem_nil, or_false]; omega)) (by rw [x1.l]) (by rw [x1.f])
    have hkm := r_knownMany hz.2.1
    refine Wp.ofl (a := (nI (kc z.1), am_pi w' 271 29 (nI 1))) (by unfold f_X12_image_11b; simp (disch := omega) only [pv_v, pv_b2, pv_b1, pv_x, pv_lit, pv_ofN, pu_chk, pu_cl, nI_add, pk_mul, nI_leI, nI_ltI, nI_eq, pu_nar0, pu_nar1, pu_narb, bI_0, bI_1, ↓reduceIte, pu_leT, pu_leF, pu_ltT, pu_ltF, pu_eqT, pu_eqF, pu_x1, pu_x2, pu_x3, pu_x4, pu_x5, pu_x6, pu_x7, pu_x8, Nat.zero_add, pu_m31I, pu_m31, pu_shlI, eq_self, Bool.false_eq_true, Bool.true_eq_false, hkm]) ⟨rfl, hz, ⟨pi_same, fun a ha => ?_⟩, k1, x1⟩
    cases ha
    have e289 : ∀ k, k < 245 → (am_pi w' 271 29 (nI 1)).1 289 k = w.1 281 k := fun k hk => by rw [pi_p (by omega)]; exact i1 k hk
    exact ⟨h.2.1.2.1, h.2.1.2.2.2.1.lo h.2.1.2.1.2.2.2.2 (fun k hk => e289 k (by omega)), h.2.2.2.hi (fun k _ hk => e289 k hk)⟩
theorem r_back {a : (Nat → Nat → Nat) × (Nat → Nat → Int32) × Nat} (h : rZ fd z w) (hI : rIm fd (some a) w) (sts : Nat → Nat → Nat → Nat) : Wp (f_X12_back w) (fun q => q.1 = nI (kc a.1) ∧ rZ fd (a.1, sts, a.2.1, a.2.2, 0) q.2 ∧ rIm fd (some a) q.2 ∧ (∀ k, k ≠ 23 → q.2.1 271 k = w.1 271 k) ∧ eqx [271, 281] w q.2) := by
  obtain ⟨i1, i2⟩ := hI
  obtain ⟨i3, i4, i5⟩ := i2 a rfl
  have i1' : w.1 271 29 = nI 1 := i1
  unfold f_X12_back
  conv => arg 1; simp (disch := omega) only [pv_v, pv_b2, pv_b1, pv_x, pv_lit, pv_ofN, pu_chk, pu_cl, nI_add, pk_mul, nI_leI, nI_ltI, nI_eq, pu_nar0, pu_nar1, pu_narb, bI_0, bI_1, ↓reduceIte, pu_leT, pu_leF, pu_ltT, pu_ltF, pu_eqT, pu_eqF, pu_x1, pu_x2, pu_x3, pu_x4, pu_x5, pu_x6, pu_x7, pu_x8, Nat.zero_add, pu_m31I, pu_m31, pu_shlI, eq_self, Bool.false_eq_true, Bool.true_eq_false, i1']
  unfold f_X12_back_11
  refine Wp.for (fun i w => (nI i, w)) (fun i w' => (∀ k, k < i → w'.1 281 k = w.1 289 k) ∧ eqx [281] w w') 245 (by decide) (w := w) rfl ⟨fun k hk => absurd hk (by omega), eqx.rf⟩ (fun i w' hi hI => ?_) (fun w' hI => ?_)
  · obtain ⟨j1, j2⟩ := hI
    have e2 : w'.1 289 = w.1 289 := j2.r (by decide)
    refine Wp.ofr (a := (nI (i + 1), am_pi w' 281 i (w.1 289 i))) (by unfold f_X12_back_11b; simp (disch := omega) only [pv_v, pv_b2, pv_b1, pv_x, pv_lit, pv_ofN, pu_chk, pu_cl, nI_add, pk_mul, nI_leI, nI_ltI, nI_eq, pu_nar0, pu_nar1, pu_narb, bI_0, bI_1, ↓reduceIte, pu_leT, pu_leF, pu_ltT, pu_ltF, pu_eqT, pu_eqF, pu_x1, pu_x2, pu_x3, pu_x4, pu_x5, pu_x6, pu_x7, pu_x8, Nat.zero_add, pu_m31I, pu_m31, pu_shlI, eq_self, Bool.false_eq_true, Bool.true_eq_false, e2]) ⟨_, rfl, fun k hk => ?_, j2.on (eqx.pi (by simp))⟩
    rw [pi_ite]
    by_cases c : k = i
    · subst c; rw [if_pos rfl]
    · rw [if_neg c]; exact j1 k (by omega)
  · obtain ⟨j1, j2⟩ := hI
    have x1 : eqx [271, 281] w (am_pi w' 271 23 (nI 0)) := (j2.up (by decide)).on (eqx.pi (by simp))
    have k1 : ∀ k, k ≠ 23 → (am_pi w' 271 23 (nI 0)).1 271 k = w.1 271 k := fun k hk => by rw [pi_k hk, j2.r (by decide)]
    have e281 : ∀ k, k < 245 → (am_pi w' 271 23 (nI 0)).1 281 k = w.1 289 k := fun k hk => by rw [pi_p (by omega)]; exact j1 k hk
    have hQ : rQ fd a.1 0 (am_pi w' 271 23 (nI 0)) := h.2.1.mk3 i3 (i4.lo i3.2.2.2.2 (fun k hk => e281 k (by omega))) (k1 13 (by omega)) (x1.r (by decide)) (x1.r (by decide)) (x1.r (by decide)) (by rw [x1.f]) (by rw [x1.l])
    have hz : rZ fd (a.1, sts, a.2.1, a.2.2, 0) (am_pi w' 271 23 (nI 0)) := ⟨⟨Nat.zero_le _, Nat.zero_le _, fun d d1 d2 => absurd d2 (by show ¬ d ≤ 0; omega)⟩, hQ, ⟨pi_same, fun d d1 d2 => absurd d2 (by show ¬ d ≤ 0; omega)⟩, i5.hi (fun k _ hk => e281 k hk)⟩
    have hkm := r_knownMany hQ
    exact Wp.ofl (a := (nI (kc a.1), am_pi w' 271 23 (nI 0))) (by unfold f_X12_back_11b; simp (disch := omega) only [pv_v, pv_b2, pv_b1, pv_x, pv_lit, pv_ofN, pu_chk, pu_cl, nI_add, pk_mul, nI_leI, nI_ltI, nI_eq, pu_nar0, pu_nar1, pu_narb, bI_0, bI_1, ↓reduceIte, pu_leT, pu_leF, pu_ltT, pu_ltF, pu_eqT, pu_eqF, pu_x1, pu_x2, pu_x3, pu_x4, pu_x5, pu_x6, pu_x7, pu_x8, Nat.zero_add, pu_m31I, pu_m31, pu_shlI, eq_self, Bool.false_eq_true, Bool.true_eq_false, hkm]) ⟨rfl, hz, (show rIm fd (some a) w from ⟨i1, i2⟩).fr (k1 29 (by omega)) (x1.r (by decide)), k1, x1⟩
theorem r_undoZ (h : rZ fd z w) (hK : 0 < z.2.2.2.2) : Wp (f_X12_undo w) (fun q => q.1 = nI (z.2.2.2.2 - 1) ∧ rZ fd (z.2.1 (z.2.2.2.1 - 1), z.2.1, z.2.2.1, z.2.2.2.1 - 1, z.2.2.2.2 - 1) q.2 ∧ eqR w q.2) := by
  obtain ⟨hz, hQ, hP, hJ⟩ := h
  have hz1 := hz.1
  have hz2 := hz.2.1
  have hw1 := hz.2.2 1 (by omega) (by omega)
  refine (r_undo1 (fun d d1 d2 => (hz.2.2 d d1 d2).2.2.2.2) hP hz.1 hK).mono ?_
  rintro ⟨v, w1⟩ ⟨t1, t2, t3, t4, t5, t6⟩
  have t5 : ∀ k, k ≠ 23 → w1.1 271 k = w.1 271 k := t5
  have t6 : eqx [271, 281] w w1 := t6
  refine ⟨t1, ⟨⟨?_, ?_, fun d d1 d2 => ?_⟩, hQ.mk3 hw1 t2 (t5 13 (by omega)) (t6.r (by decide)) (t6.r (by decide)) (t6.r (by decide)) (by rw [t6.f]) (by rw [t6.l]), t4, t3⟩, ⟨fun q hq => ?_, t5, fun q hq => ?_, t6.f⟩⟩
  · show z.2.2.2.2 - 1 ≤ 40
    omega
  · show z.2.2.2.2 - 1 ≤ z.2.2.2.1 - 1
    omega
  · have d2 : d ≤ z.2.2.2.2 - 1 := d2
    show wS fd (z.2.1 (z.2.2.2.1 - 1 - d))
    rw [show z.2.2.2.1 - 1 - d = z.2.2.2.1 - (d + 1) by omega]
    exact hz.2.2 (d + 1) (by omega) (by omega)
  · simp only [List.mem_cons, List.not_mem_nil, or_false] at hq
    exact t6.2 q (by simp only [List.mem_cons, List.not_mem_nil, or_false]; omega)
  · show w1.2.1 q = _
    rw [t6.l]
end RIMAGE
