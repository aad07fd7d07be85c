/-! pure part: images, UNDO (wip/whole/pure/18.a.image.src) -/
/-- an IMAGE: state, LOG, its length -/
abbrev It := Option ((Nat → Nat → Nat) × (Nat → Nat → Int32) × Nat)
def cIm (fd : Nat → Nat → Nat) (im : It) (w : am_S) : Prop := w.1 0 18 = bI im.isSome ∧ ∀ a, im = some a → wS fd a.1 ∧ cS a.1 33 w ∧ cJ a.2.1 a.2.2 (a.2.2 - 60) 42 w
def rIm (fd : Nat → Nat → Nat) (im : It) (w : am_S) : Prop := w.1 271 29 = bI im.isSome ∧ ∀ a, im = some a → wS fd a.1 ∧ rS a.1 (w.1 289) ∧ rJ a.2.1 a.2.2 (w.1 289)
section IMAGE
variable {fd st : Nat → Nat → Nat} {z : Zt} {im : It} {lg : Nat → Nat → Int32} {L B p q : Nat} {w w' : am_S}
theorem cIm.fr (h : cIm fd im w) (h0 : w'.1 0 18 = w.1 0 18) (hi : ∀ q, (32 < q ∧ q < 38) ∨ (41 < q ∧ q < 46) → w'.1 q = w.1 q) (hl : w'.2.1 35 = w.2.1 35) : cIm fd im w' := ⟨by rw [h0]; exact h.1, fun a ha => ⟨(h.2 a ha).1, (h.2 a ha).2.1.fr (hi _ (by omega)) (hi _ (by omega)) hl (hi _ (by omega)) (hi _ (by omega)), (h.2 a ha).2.2.fr (hi _ (by omega)) (hi _ (by omega)) (hi _ (by omega)) (hi _ (by omega))⟩⟩
theorem rIm.fr (h : rIm fd im w) (h0 : w'.1 271 29 = w.1 271 29) (h1 : w'.1 289 = w.1 289) : rIm fd im w' := by
  unfold rIm
  rw [h0, h1]; exact h
theorem c_jtake (h : cJ lg L B p w) (hpq : p + 3 < q ∨ q + 3 < p) : ∃ w', f_X4_takeFrom q p w = some w' ∧ cJ lg L B q w' ∧ eqy [q, q + 1, q + 2, q + 3] [] w w' := by
  have hx : eqy [q, q + 1, q + 2, q + 3] [] w (am_ci (am_ci (am_ci w (p + 1) 0 (q + 1) 0 100) (p + 2) 0 (q + 2) 0 100) (p + 3) 0 (q + 3) 0 100) := ((eqy.ci (by simp)).on (eqy.ci (by simp))).on (eqy.ci (by simp))
  refine ⟨am_pi (am_ci (am_ci (am_ci w (p + 1) 0 (q + 1) 0 100) (p + 2) 0 (q + 2) 0 100) (p + 3) 0 (q + 3) 0 100) q 3 (nI L), ?_, ⟨pi_same, fun n t ht hn hb => ?_⟩, hx.on (eqy.pi (by simp))⟩
  · have e : (am_ci (am_ci (am_ci w (p + 1) 0 (q + 1) 0 100) (p + 2) 0 (q + 2) 0 100) (p + 3) 0 (q + 3) 0 100).1 p 3 = nI L := by
      rw [ci_p (by omega), ci_p (by omega), ci_p (by omega)]; exact h.1
    unfold f_X4_takeFrom
    rw [pv_v, pv_v, pv_v, pv_v, e]
  · have hm : n % 100 < 100 := Nat.mod_lt _ (by decide)
    have e := h.2 n t ht hn hb
    rw [pi_p (by omega)]
    have ht' : t = 0 ∨ t = 1 ∨ t = 2 := by omega
    rcases ht' with rfl | rfl | rfl
    · rw [ci_p (by omega), ci_p (by omega)]
      exact (ci_in hm).trans e
    · rw [ci_p (by omega)]
      refine (ci_in hm).trans ?_
      rw [ci_p (by omega)]; exact e
    · refine (ci_in hm).trans ?_
      rw [ci_p (by omega), ci_p (by omega)]; exact e
theorem c_image (h : cZ fd z w) (hn : 0 < (fd 0 0)) : Wp (f_X11_image w) (fun q => q.1 = nI (kc z.1) ∧ cZ fd z q.2 ∧ cIm fd (some (z.1, z.2.2.1, z.2.2.2.1)) q.2 ∧ (∀ k, k ≠ 18 → q.2.1 0 k = w.1 0 k) ∧ eqy [0, 33, 34, 36, 37, 42, 43, 44, 45] [35] w q.2) := by
  have hF := h.2.1.1
  have h10 := hF.1
  have e1 := c_noField (w := w) h.2.1.2.2.1.1 h10
  rw [decide_eq_false (show ¬ (fd 0 0) = 0 by omega)] at e1
  obtain ⟨w1, t1, t2, t3⟩ := c_takeFrom (q := 33) (p := 23) h.2.1.2.1.2.2.2.2 h.2.1.2.2.2.2 (by omega)
  have hJ1 : cJ z.2.2.1 z.2.2.2.1 (z.2.2.2.1 - 60) 38 w1 := (h.2.2.2.up (by omega)).fr (t3.1 _ (by decide)) (t3.1 _ (by decide)) (t3.1 _ (by decide)) (t3.1 _ (by decide))
  obtain ⟨w2, s1, s2, s3⟩ := c_jtake (q := 42) hJ1 (by omega)
  have x2 : eqy [0, 33, 34, 36, 37, 42, 43, 44, 45] [35] w w2 := (t3.up (by decide) (by decide)).on (s3.up (by decide) (by decide))
  have x3 : eqy [0, 33, 34, 36, 37, 42, 43, 44, 45] [35] w (am_pi w2 0 18 (nI 1)) := x2.on (eqy.pi (by simp))
  have hz : cZ fd z (am_pi w2 0 18 (nI 1)) := h.fr (fun q hq => x3.1 q (by simp only [List.mem_cons, List.not_mem_nil, or_false]; omega)) (fun q hq => x3.2.1 q (by simp only [List.mem_cons, List.not_mem_nil, or_false]; omega)) (by rw [x3.2.2]) (by rw [x3.2.2])
  have hkc := c_knownCount (p := 23) hz.2.1.2.1 hz.2.1.2.2.2.2.1
  refine Wp.of (r := (nI (kc z.1), am_pi w2 0 18 (nI 1))) ?_ ⟨rfl, hz, ⟨pi_same, fun a ha => ?_⟩, fun k hk => ?_, x3⟩
  · unfold f_X11_image
    simp (disch := omega) only [pv_v, pv_b2, pv_b1, pv_x, pv_lit, pv_ofN, pu_chk, pu_cl, nI_add, pk_mul, nI_leI, nI_ltI, nI_eq, pu_nar0, pu_nar1, pu_narb, bI_0, bI_1, ↓reduceIte, pu_leT, pu_leF, pu_ltT, pu_ltF, pu_eqT, pu_eqF, pu_x1, pu_x2, pu_x3, pu_x4, pu_x5, pu_x6, pu_x7, pu_x8, Nat.zero_add, pu_m31I, pu_m31, pu_shlI, eq_self, Bool.false_eq_true, Bool.true_eq_false, e1, t1, s1, hkc]
    rfl
  · cases ha
    refine ⟨h.2.1.2.1, t2.fr ?_ ?_ ?_ ?_ ?_, s2.fr (pi_p (by omega)) (pi_p (by omega)) (pi_p (by omega)) (pi_p (by omega))⟩
    · show (am_pi w2 0 18 (nI 1)).1 33 = _
      rw [pi_p (by omega), s3.1 _ (by decide)]
    · show (am_pi w2 0 18 (nI 1)).1 34 = _
      rw [pi_p (by omega), s3.1 _ (by decide)]
    · exact s3.2.1 _ (by decide)
    · show (am_pi w2 0 18 (nI 1)).1 36 = _
      rw [pi_p (by omega), s3.1 _ (by decide)]
    · show (am_pi w2 0 18 (nI 1)).1 37 = _
      rw [pi_p (by omega), s3.1 _ (by decide)]
  · show (am_pi w2 0 18 (nI 1)).1 0 k = _
    rw [pi_k hk, s3.1 _ (by decide), t3.1 _ (by decide)]
theorem c_back {a : (Nat → Nat → Nat) × (Nat → Nat → Int32) × Nat} (h : cZ fd z w) (hI : cIm fd (some a) w) : Wp (f_X11_back w) (fun q => q.1 = nI (kc a.1) ∧ cZ fd (a.1, z.2.1, a.2.1, a.2.2, 0) q.2 ∧ cIm fd (some a) q.2 ∧ eqy [23, 24, 26, 27, 38, 39, 40, 41, 46] [25] w q.2) := by
  obtain ⟨i1, i2⟩ := hI
  obtain ⟨i3, i4, i5⟩ := i2 a rfl
  obtain ⟨w1, t1, t2, t3⟩ := c_takeFrom (q := 23) (p := 33) i3.2.2.2.2 i4 (by omega)
  have hJ1 : cJ a.2.1 a.2.2 (a.2.2 - 60) 42 w1 := i5.fr (t3.1 _ (by decide)) (t3.1 _ (by decide)) (t3.1 _ (by decide)) (t3.1 _ (by decide))
  obtain ⟨w2, s1, s2, s3⟩ := c_jtake (q := 38) hJ1 (by omega)
  have x2 : eqy [23, 24, 26, 27, 38, 39, 40, 41, 46] [25] w w2 := (t3.up (by decide) (by decide)).on (s3.up (by decide) (by decide))
  have x3 : eqy [23, 24, 26, 27, 38, 39, 40, 41, 46] [25] w (am_pi w2 46 2 (nI 0)) := x2.on (eqy.pi (by simp))
  obtain ⟨nx, a1, a2, a3, a4⟩ := h.2.2.1
  have hS3 : cS a.1 23 (am_pi w2 46 2 (nI 0)) := by
    refine t2.fr ?_ ?_ ?_ ?_ ?_
    · rw [pi_p (by omega), s3.1 _ (by decide)]
    · rw [pi_p (by omega), s3.1 _ (by decide)]
    · exact s3.2.1 _ (by decide)
    · rw [pi_p (by omega), s3.1 _ (by decide)]
    · rw [pi_p (by omega), s3.1 _ (by decide)]
  have hz : cZ fd (a.1, z.2.1, a.2.1, a.2.2, 0) (am_pi w2 46 2 (nI 0)) := by
    refine ⟨⟨Nat.zero_le _, Nat.zero_le _, fun d d1 d2 => absurd d2 (by show ¬ d ≤ 0; omega)⟩, h.2.1.fr i3 (x3.1 _ (by decide)) (x3.1 _ (by decide)) (x3.1 _ (by decide)) (x3.1 _ (by decide)) (x3.1 _ (by decide)) (x3.1 _ (by decide)) (x3.1 _ (by decide)) x3.2.2 hS3, ⟨nx, a1, ?_, pi_same, fun d d1 d2 => absurd d2 (by show ¬ d ≤ 0; omega)⟩, ?_⟩
    · rw [pi_k (by omega), s3.1 _ (by decide), t3.1 _ (by decide)]; exact a2
    · show cJ a.2.1 a.2.2 (a.2.2 - 0 - 60) 38 _
      rw [Nat.sub_zero]
      exact s2.fr (pi_p (by omega)) (pi_p (by omega)) (pi_p (by omega)) (pi_p (by omega))
  have hkc := c_knownCount (p := 23) hz.2.1.2.1 hz.2.1.2.2.2.2.1
  refine Wp.of (r := (nI (kc a.1), am_pi w2 46 2 (nI 0))) ?_ ⟨rfl, hz, (show cIm fd (some a) w from ⟨i1, i2⟩).fr (by rw [x3.1 _ (by decide)]) (fun q hq => x3.1 q (by simp only [List.mem_cons, List.not_mem_nil, or_false]; omega)) (x3.2.1 _ (by decide)), x3⟩
  have i1 : w.1 0 18 = nI 1 := i1
  unfold f_X11_back
  simp (disch := omega) only [pv_v, pv_b2, pv_b1, pv_x, pv_lit, pv_ofN, pu_chk, pu_cl, nI_add, pk_mul, nI_leI, nI_ltI, nI_eq, pu_nar0, pu_nar1, pu_narb, bI_0, bI_1, ↓reduceIte, pu_leT, pu_leF, pu_ltT, pu_ltF, pu_eqT, pu_eqF, pu_x1, pu_x2, pu_x3, pu_x4, pu_x5, pu_x6, pu_x7, pu_x8, Nat.zero_add, pu_m31I, pu_m31, pu_shlI, eq_self, Bool.false_eq_true, Bool.true_eq_false, i1, t1, s1, hkc]
  rfl
theorem c_undo (h : cZ fd z w) (hK : 0 < z.2.2.2.2) (hL : z.2.2.2.1 < 2 ^ 30) : Wp (f_X11_undo w) (fun q => q.1 = nI (z.2.2.2.2 - 1) ∧ cZ fd (z.2.1 (z.2.2.2.1 - 1), z.2.1, z.2.2.1, z.2.2.2.1 - 1, z.2.2.2.2 - 1) q.2 ∧ eqC w q.2) := by
  obtain ⟨hz, hX, hP, hJ⟩ := h
  have hz1 := hz.1
  have hz2 := hz.2.1
  have hw1 := hz.2.2 1 (by omega) (by omega)
  have e46 : w.1 46 2 = nI z.2.2.2.2 := by obtain ⟨nx, a1, a2, a3, a4⟩ := hP; exact a3
  obtain ⟨w1, t1, t2, t3, t4, t5⟩ := c_giveBack hw1.2.2.2.2 hP hz.1 hK
  have hJ1 : cJ z.2.2.1 z.2.2.2.1 (z.2.2.2.1 - z.2.2.2.2 - 60) 38 w1 := hJ.fr (t5.1 _ (by decide)) (t5.1 _ (by decide)) (t5.1 _ (by decide)) (t5.1 _ (by decide))
  have x2 : eqy [23, 24, 26, 27, 46, 38] [25] w (am_pi w1 38 3 (nI (z.2.2.2.1 - 1))) := (t5.up (by decide) (by decide)).on (eqy.pi (by simp))
  have f46 : (am_pi w1 38 3 (nI (z.2.2.2.1 - 1))).1 46 2 = nI (z.2.2.2.2 - 1) := by rw [pi_p (by omega)]; exact t4
  refine Wp.of (r := (nI (z.2.2.2.2 - 1), am_pi w1 38 3 (nI (z.2.2.2.1 - 1)))) ?_ ⟨rfl, ⟨⟨?_, ?_, fun d d1 d2 => ?_⟩, hX.fr hw1 (x2.1 _ (by decide)) (x2.1 _ (by decide)) (x2.1 _ (by decide)) (x2.1 _ (by decide)) (x2.1 _ (by decide)) (x2.1 _ (by decide)) (x2.1 _ (by decide)) x2.2.2 (t2.fr (pi_p (by omega)) (pi_p (by omega)) rfl (pi_p (by omega)) (pi_p (by omega))), ?_, ⟨pi_same, fun n t ht hn hb => ?_⟩⟩, ⟨fun q hq => x2.1 q (by simp only [List.mem_cons, List.not_mem_nil, or_false]; omega), fun q hq => x2.2.1 q (by simp only [List.mem_cons, List.not_mem_nil, or_false]; omega), x2.2.2⟩⟩
  · have j1 := hJ1.1
    unfold f_X11_undo
    simp (disch := omega) only [pv_v, pv_b2, pv_b1, pv_x, pv_lit, pv_ofN, pu_chk, pu_cl, nI_add, pk_mul, nI_leI, nI_ltI, nI_eq, pu_nar0, pu_nar1, pu_narb, bI_0, bI_1, ↓reduceIte, pu_leT, pu_leF, pu_ltT, pu_ltF, pu_eqT, pu_eqF, pu_x1, pu_x2, pu_x3, pu_x4, pu_x5, pu_x6, pu_x7, pu_x8, Nat.zero_add, pu_m31I, pu_m31, pu_shlI, eq_self, Bool.false_eq_true, Bool.true_eq_false, e46, show ¬ z.2.2.2.2 = 0 by omega, t1, j1, pk_sub, f46]
  · show z.2.2.2.2 - 1 ≤ 40
    omega
  · show z.2.2.2.2 - 1 ≤ z.2.2.2.1 - 1
    omega
  · have d2 : d ≤ z.2.2.2.2 - 1 := d2
    show wS fd (z.2.1 (z.2.2.2.1 - 1 - d))
    rw [show z.2.2.2.1 - 1 - d = z.2.2.2.1 - (d + 1) by omega]
    exact hz.2.2 (d + 1) (by omega) (by omega)
  · obtain ⟨nx, a1, a2, a3, a4⟩ := t3
    refine ⟨nx, a1, by rw [pi_p (by omega)]; exact a2, by rw [pi_p (by omega)]; exact a3, fun d d1 d2 => ?_⟩
    have a := a4 d d1 d2
    have hm : (nx + 40 - d) % 40 < 40 := Nat.mod_lt _ (by decide)
    generalize (nx + 40 - d) % 40 = m at a hm
    refine a.fr ?_ ?_ rfl ?_ ?_ <;> rw [pi_p (by omega)]
  · have hn : n < z.2.2.2.1 - 1 := hn
    have hb : z.2.2.2.1 - 1 - (z.2.2.2.2 - 1) - 60 ≤ n := hb
    show (am_pi w1 38 3 (nI (z.2.2.2.1 - 1))).1 (38 + 1 + t) (n % 100) = _
    rw [pi_p (by omega)]
    exact hJ1.2 n t ht (by omega) (by omega)
end IMAGE
