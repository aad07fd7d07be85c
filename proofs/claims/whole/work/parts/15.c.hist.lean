/-! pure part: what can be UNDONE, the class (wip/whole/pure/15.c.hist.src) -/
section HIST
variable {fd st : Nat → Nat → Nat} {sts : Nat → Nat → Nat → Nat} {L K p q : Nat} {w : am_S}
def ups (sts : Nat → Nat → Nat → Nat) (L : Nat) (st : Nat → Nat → Nat) : Nat → Nat → Nat → Nat := fun i => if i = L then st else sts i
theorem ups_L : ups sts L st L = st := if_pos rfl
theorem ups_ne {i : Nat} (h : i ≠ L) : ups sts L st i = sts i := if_neg h
theorem ci_in {p q n j : Nat} (h : j < n) : (am_ci w p 0 q 0 n).1 q j = w.1 p j := by
  show (if q = q then va_cpy (w.1 p) (w.1 q) 0 0 n j else w.1 q j) = _
  rw [if_pos rfl, pk_cpy_in (Nat.zero_le _) (by omega), Nat.sub_zero, Nat.zero_add]
theorem ci_p {p q n r : Nat} (h : r ≠ q) : (am_ci w p 0 q 0 n).1 r = w.1 r := by
  funext j
  show (if r = q then va_cpy (w.1 p) (w.1 q) 0 0 n j else w.1 r j) = _
  rw [if_neg h]
theorem cl_in {p q n j : Nat} (h : j < n) : (am_cl w p 0 q 0 n).2.1 q j = w.2.1 p j := by
  show (if q = q then va_cpy (w.2.1 p) (w.2.1 q) 0 0 n j else w.2.1 q j) = _
  rw [if_pos rfl, pk_cpy_in (Nat.zero_le _) (by omega), Nat.sub_zero, Nat.zero_add]
theorem cl_p {p q n r : Nat} (h : r ≠ q) : (am_cl w p 0 q 0 n).2.1 r = w.2.1 r := by
  funext j
  show (if r = q then va_cpy (w.2.1 p) (w.2.1 q) 0 0 n j else w.2.1 r j) = _
  rw [if_neg h]
theorem ci_l {p q n : Nat} : (am_ci w p 0 q 0 n).2 = w.2 := rfl
theorem cl_i {p q n : Nat} : (am_cl w p 0 q 0 n).1 = w.1 := rfl
theorem eqy.ci {A B : List Nat} {p q n : Nat} (h : q ∈ A) : eqy A B w (am_ci w p 0 q 0 n) := ⟨fun r hr => ci_p (fun e => hr (e ▸ h)), fun _ _ => rfl, rfl⟩
theorem eqy.cl {A B : List Nat} {p q n : Nat} (h : q ∈ B) : eqy A B w (am_cl w p 0 q 0 n) := ⟨fun _ _ => rfl, fun r hr => cl_p (fun e => hr (e ▸ h)), rfl⟩
theorem cS.fr {w' : am_S} (h : cS st p w) (h0 : w'.1 p = w.1 p) (h1 : w'.1 (p + 1) = w.1 (p + 1)) (h2 : w'.2.1 (p + 2) = w.2.1 (p + 2)) (h3 : w'.1 (p + 3) = w.1 (p + 3)) (h4 : w'.1 (p + 4) = w.1 (p + 4)) : cS st p w' := by
  obtain ⟨s1, s2, s3, s4, s5⟩ := h
  refine ⟨fun u hu => ?_, fun u hu => ?_, ?_, fun j hj => ?_, fun j i hj hi => ?_⟩
  · rw [h1]; exact s1 u hu
  · rw [h2]; exact s2 u hu
  · rw [h0]; exact s3
  · rw [h4]; exact s4 j hj
  · rw [h3]; exact s5 j i hj hi
theorem c_takeFrom (hS : ∀ j, st 3 j ≤ 10) (h : cS st p w) (hpq : p + 4 < q ∨ q + 4 < p) : ∃ w', f_X9_takeFrom q p w = some w' ∧ cS st q w' ∧ eqy [q, q + 1, q + 3, q + 4] [q + 2] w w' := by
  obtain ⟨s1, s2, s3, s4, s5⟩ := h
  have hx : eqy [q, q + 1, q + 3, q + 4] [q + 2] w (am_ci (am_ci (am_cl (am_ci w (p + 1) 0 (q + 1) 0 10) (p + 2) 0 (q + 2) 0 10) (p + 3) 0 (q + 3) 0 30) (p + 4) 0 (q + 4) 0 3) := (((eqy.ci (by simp)).on (eqy.cl (by simp))).on (eqy.ci (by simp))).on (eqy.ci (by simp))
  refine ⟨am_pi (am_ci (am_ci (am_cl (am_ci w (p + 1) 0 (q + 1) 0 10) (p + 2) 0 (q + 2) 0 10) (p + 3) 0 (q + 3) 0 30) (p + 4) 0 (q + 4) 0 3) q 4 (nI (st 2 0)), ?_, ⟨fun u hu => ?_, fun u hu => ?_, pi_same, fun j hj => ?_, fun j i hj hi => ?_⟩, hx.on (eqy.pi (by simp))⟩
  · have e : (am_ci (am_ci (am_cl (am_ci w (p + 1) 0 (q + 1) 0 10) (p + 2) 0 (q + 2) 0 10) (p + 3) 0 (q + 3) 0 30) (p + 4) 0 (q + 4) 0 3).1 p 4 = nI (st 2 0) := by
      rw [ci_p (by omega), ci_p (by omega), cl_i, ci_p (by omega)]; exact s3
    unfold f_X9_takeFrom
    rw [pv_v, pv_v, pv_v, pv_v, pv_v, e]
  · rw [pi_p (by omega), ci_p (by omega), ci_p (by omega), cl_i, ci_in hu]; exact s1 u hu
  · show (am_cl (am_ci w (p + 1) 0 (q + 1) 0 10) (p + 2) 0 (q + 2) 0 10).2.1 (q + 2) u = _
    rw [cl_in hu]; exact s2 u hu
  · rw [pi_p (by omega), ci_in hj, ci_p (by omega), cl_i, ci_p (by omega)]; exact s4 j hj
  · have := hS j
    rw [pi_p (by omega), ci_p (by omega), ci_in (by omega), cl_i, ci_p (by omega)]; exact s5 j i hj hi
/-- the class's states of before -/
def cPa (sts : Nat → Nat → Nat → Nat) (L K : Nat) (w : am_S) : Prop := ∃ nx, nx < 40 ∧ w.1 46 1 = nI nx ∧ w.1 46 2 = nI K ∧ ∀ d, 1 ≤ d → d ≤ K → cS (sts (L - d)) (48 + 5 * ((nx + 40 - d) % 40)) w
theorem cPa.fr {w' : am_S} (h : cPa sts L K w) (h1 : ∀ q, 46 ≤ q → q < 248 → w'.1 q = w.1 q ∧ w'.2.1 q = w.2.1 q) : cPa sts L K w' := by
  obtain ⟨nx, a1, a2, a3, a4⟩ := h
  refine ⟨nx, a1, ?_, ?_, fun d d1 d2 => ?_⟩
  · rw [(h1 46 (by omega) (by omega)).1]; exact a2
  · rw [(h1 46 (by omega) (by omega)).1]; exact a3
  · have : (nx + 40 - d) % 40 < 40 := Nat.mod_lt _ (by decide)
    exact (a4 d d1 d2).fr (h1 _ (by omega) (by omega)).1 (h1 _ (by omega) (by omega)).1 (h1 _ (by omega) (by omega)).2 (h1 _ (by omega) (by omega)).1 (h1 _ (by omega) (by omega)).1
theorem c_keep (hS : ∀ j, st 3 j ≤ 10) (h : cS st 23 w) (hP : cPa sts L K w) (hK : K ≤ 40) (hKL : K ≤ L) : ∃ w', f_X3_keep 23 w = some w' ∧ cPa (ups sts L st) (L + 1) (min (K + 1) 40) w' ∧ (∀ q, q < 46 ∨ 247 < q → w'.1 q = w.1 q ∧ w'.2.1 q = w.2.1 q) ∧ w'.2.2 = w.2.2 := by
  obtain ⟨nx, a1, a2, a3, a4⟩ := hP
  obtain ⟨w1, t1, t2, t3⟩ := c_takeFrom (q := 48 + 5 * nx) (p := 23) hS h (by omega)
  have b1 : w1.1 46 1 = nI nx := t3.t a2 (by simp only [List.mem_cons, List.not_mem_nil, or_false]; omega)
  have b2 : w1.1 46 2 = nI K := t3.t a3 (by simp only [List.mem_cons, List.not_mem_nil, or_false]; omega)
  have hm : (nx + 1) % 40 < 40 := Nat.mod_lt _ (by decide)
  have e2 : (am_pi w1 46 1 (nI ((nx + 1) % 40))).1 46 2 = nI K := by rw [pi_k (by omega)]; exact b2
  have hmin := c_min (w := am_pi w1 46 1 (nI ((nx + 1) % 40))) (a := K + 1) (b := 40) (by omega) (by omega)
  refine ⟨am_pi (am_pi w1 46 1 (nI ((nx + 1) % 40))) 46 2 (nI (min (K + 1) 40)), ?_, ⟨(nx + 1) % 40, hm, ?_, pi_same, fun d d1 d2 => ?_⟩, fun r hr => ⟨?_, ?_⟩, t3.2.2⟩
  · unfold f_X3_keep
    simp (disch := omega) only [pv_v, pv_b2, pv_b1, pv_x, pv_lit, pv_ofN, pu_chk, pu_cl, nI_add, pk_mul, nI_leI, nI_ltI, nI_eq, pu_nar0, pu_nar1, pu_narb, bI_0, bI_1, ↓reduceIte, pu_leT, pu_leF, pu_ltT, pu_ltF, pu_eqT, pu_eqF, pu_x1, pu_x2, pu_x3, pu_x4, pu_x5, pu_x6, pu_x7, pu_x8, Nat.zero_add, pu_m31I, pu_m31, pu_shlI, eq_self, Bool.false_eq_true, Bool.true_eq_false, a2, t1, b1, pk_rem, e2, hmin]
  · rw [pi_k (by omega), pi_same]
  · by_cases c : d = 1
    · subst c
      rw [show L + 1 - 1 = L by omega, ups_L, show ((nx + 1) % 40 + 40 - 1) % 40 = nx by omega]
      refine t2.fr ?_ ?_ rfl ?_ ?_ <;> rw [pi_p (by omega), pi_p (by omega)]
    · have hm2 : (nx + 40 - (d - 1)) % 40 < 40 := Nat.mod_lt _ (by decide)
      have hne : (nx + 40 - (d - 1)) % 40 ≠ nx := by omega
      have a := a4 (d - 1) (by omega) (by omega)
      rw [ups_ne (by omega), show L + 1 - d = L - (d - 1) by omega, show ((nx + 1) % 40 + 40 - d) % 40 = (nx + 40 - (d - 1)) % 40 by omega]
      generalize (nx + 40 - (d - 1)) % 40 = m at hm2 hne a
      refine a.fr ?_ ?_ ?_ ?_ ?_
      · rw [pi_p (by omega), pi_p (by omega)]; exact t3.1 _ (by simp only [List.mem_cons, List.not_mem_nil, or_false]; omega)
      · rw [pi_p (by omega), pi_p (by omega)]; exact t3.1 _ (by simp only [List.mem_cons, List.not_mem_nil, or_false]; omega)
      · exact t3.2.1 _ (by simp only [List.mem_cons, List.not_mem_nil, or_false]; omega)
      · rw [pi_p (by omega), pi_p (by omega)]; exact t3.1 _ (by simp only [List.mem_cons, List.not_mem_nil, or_false]; omega)
      · rw [pi_p (by omega), pi_p (by omega)]; exact t3.1 _ (by simp only [List.mem_cons, List.not_mem_nil, or_false]; omega)
  · rw [pi_p (by omega), pi_p (by omega)]; exact t3.1 r (by simp only [List.mem_cons, List.not_mem_nil, or_false]; omega)
  · exact t3.2.1 r (by simp only [List.mem_cons, List.not_mem_nil, or_false]; omega)
theorem c_giveBack (hS : ∀ j, sts (L - 1) 3 j ≤ 10) (hP : cPa sts L K w) (hK : K ≤ 40) (hK0 : 0 < K) : ∃ w', f_X3_giveBack 23 w = some w' ∧ cS (sts (L - 1)) 23 w' ∧ cPa sts (L - 1) (K - 1) w' ∧ w'.1 46 2 = nI (K - 1) ∧ eqy [23, 24, 26, 27, 46] [25] w w' := by
  obtain ⟨nx, a1, a2, a3, a4⟩ := hP
  have hm : (nx + 40 - 1) % 40 < 40 := Nat.mod_lt _ (by decide)
  have e1 : (am_pi w 46 1 (nI ((nx + 40 - 1) % 40))).1 46 2 = nI K := by rw [pi_k (by omega)]; exact a3
  have e2 : (am_pi (am_pi w 46 1 (nI ((nx + 40 - 1) % 40))) 46 2 (nI (K - 1))).1 46 1 = nI ((nx + 40 - 1) % 40) := by rw [pi_k (by omega), pi_same]
  have hx0 : eqy [23, 24, 26, 27, 46] [25] w (am_pi (am_pi w 46 1 (nI ((nx + 40 - 1) % 40))) 46 2 (nI (K - 1))) := (eqy.pi (by simp)).on (eqy.pi (by simp))
  have h1 : ∀ d, 1 ≤ d → d ≤ K → cS (sts (L - d)) (48 + 5 * ((nx + 40 - d) % 40)) (am_pi (am_pi w 46 1 (nI ((nx + 40 - 1) % 40))) 46 2 (nI (K - 1))) := fun d d1 d2 => by
    have a := a4 d d1 d2
    generalize (nx + 40 - d) % 40 = m at a
    refine a.fr ?_ ?_ rfl ?_ ?_ <;> rw [pi_p (by omega), pi_p (by omega)]
  obtain ⟨w1, t1, t2, t3⟩ := c_takeFrom (q := 23) (p := 48 + 5 * ((nx + 40 - 1) % 40)) hS (h1 1 (by omega) (by omega)) (by omega)
  refine ⟨w1, ?_, t2, ⟨(nx + 40 - 1) % 40, hm, t3.t e2 (by decide), t3.t pi_same (by decide), fun d d1 d2 => ?_⟩, t3.t pi_same (by decide), hx0.on (t3.up (by decide) (by decide))⟩
  · unfold f_X3_giveBack
    simp (disch := omega) only [pv_v, pv_b2, pv_b1, pv_x, pv_lit, pv_ofN, pu_chk, pu_cl, nI_add, pk_mul, nI_leI, nI_ltI, nI_eq, pu_nar0, pu_nar1, pu_narb, bI_0, bI_1, ↓reduceIte, pu_leT, pu_leF, pu_ltT, pu_ltF, pu_eqT, pu_eqF, pu_x1, pu_x2, pu_x3, pu_x4, pu_x5, pu_x6, pu_x7, pu_x8, Nat.zero_add, pu_m31I, pu_m31, pu_shlI, eq_self, Bool.false_eq_true, Bool.true_eq_false, a2, pk_sub, pk_rem, e1, e2, t1]
  · have a := h1 (d + 1) (by omega) (by omega)
    rw [show L - 1 - d = L - (d + 1) by omega, show ((nx + 40 - 1) % 40 + 40 - d) % 40 = (nx + 40 - (d + 1)) % 40 by omega]
    generalize (nx + 40 - (d + 1)) % 40 = m at a
    exact a.fr (t3.1 _ (by simp only [List.mem_cons, List.not_mem_nil, or_false]; omega)) (t3.1 _ (by simp only [List.mem_cons, List.not_mem_nil, or_false]; omega)) (t3.2.1 _ (by simp only [List.mem_cons, List.not_mem_nil, or_false]; omega)) (t3.1 _ (by simp only [List.mem_cons, List.not_mem_nil, or_false]; omega)) (t3.1 _ (by simp only [List.mem_cons, List.not_mem_nil, or_false]; omega))
end HIST
