/-! pure part: YEARS of the reference (wip/whole/pure/15.h.ryears.src) -/
section RYEARS
variable {fd st : Nat → Nat → Nat} {z : Zt} {w w' w'' : am_S} {p : Nat}
theorem rZ.pl {y : Int64} (h : rZ fd z w) : rZ fd z (am_pl w 271 24 y) := h.fr rfl rfl (fun _ _ => rfl) (pl_k (by omega)) rfl
theorem eqR.pl {y : Int64} : eqR w (am_pl w 271 24 y) := ⟨fun _ _ => rfl, fun _ _ => rfl, fun q hq => pl_p hq, rfl⟩
theorem r_draw24 {x : Int64} {m : Nat} (hx : w.2.1 271 24 = x) (h : 0 < m) (hm : m < 2 ^ 31) : f_X12_draw (nI m) w = some (nI (dv (dn x) m), am_pl w 271 24 (dn x)) := by
  have := r_draw (w := w) h hm
  rwa [hx] at this
theorem r_try (h : rZ fd z w) {k : Nat} (hk : k ≤ 8) (a b : Int32) {y : Int64} (hy : w.2.1 271 24 = y) (h6 : k ≠ 6) : Wp (f_X12_tryOne (nI k) a b w) (fun w' => rZ fd (zT fd z k a b (lN 0)) w' ∧ w'.2.1 271 24 = y ∧ eqR w w') := (r_tryOne h hk a b).mono (fun w' hw => ⟨hw.1, by rw [hw.2.2 h6]; exact hy, hw.2.1⟩)
theorem r_year (h : rZ fd z w) (hn : 0 < (fd 0 0)) {x : Int64} (hx : w.2.1 271 24 = x) : Wp (f_X12_drawYear w) (fun w' => rZ fd (yO fd x z).2 w' ∧ w'.2.1 271 24 = (yO fd x z).1 ∧ eqR w w') := by
  have hF := h.2.1.1
  have h10 := hF.1
  have e8 := r_draw24 hx (m := 8) (by omega) (by omega)
  have hv : dv (dn x) 8 < 8 := dv_lt (by omega)
  have b1 : (am_pl w 271 24 (dn x)).2.1 271 24 = dn x := pl_same
  have c1 : rZ fd z (am_pl w 271 24 (dn x)) := h.pl
  have b2 : (am_pl (am_pl w 271 24 (dn x)) 271 24 (dn (dn x))).2.1 271 24 = dn (dn x) := pl_same
  have c2 : rZ fd z (am_pl (am_pl w 271 24 (dn x)) 271 24 (dn (dn x))) := c1.pl
  have d1 : eqR w (am_pl w 271 24 (dn x)) := eqR.pl
  have d2 : eqR w (am_pl (am_pl w 271 24 (dn x)) 271 24 (dn (dn x))) := d1.on eqR.pl
  unfold f_X12_drawYear f_X12_drawYear_53 f_X12_drawYear_119
  unfold yO
  by_cases v2 : dv (dn x) 8 < 2
  · rw [if_pos v2]
    obtain ⟨w3, t1, t2, t3, t4⟩ := r_try c1 (k := 0) (by omega) (nI 0) (nI 0) b1 (by omega)
    simp (disch := omega) only [pv_v, pv_b2, pv_b1, pv_x, pv_lit, pv_ofN, pu_chk, pu_cl, nI_add, pk_mul, nI_leI, nI_ltI, nI_eq, pu_nar0, pu_nar1, pu_narb, bI_0, bI_1, ↓reduceIte, pu_leT, pu_leF, pu_ltT, pu_ltF, pu_eqT, pu_eqF, pu_x1, pu_x2, pu_x3, pu_x4, pu_x5, pu_x6, pu_x7, pu_x8, Nat.zero_add, pu_m31I, pu_m31, pu_shlI, eq_self, Bool.false_eq_true, Bool.true_eq_false, e8, t1]
    exact Wp.some ⟨t2, t3, d1.on t4⟩
  · rw [if_neg v2]
    by_cases v3 : dv (dn x) 8 = 2
    · rw [if_pos v3]
      obtain ⟨w3, t1, t2, t3, t4⟩ := r_try c1 (k := 1) (by omega) (nI 0) (nI 0) b1 (by omega)
      simp (disch := omega) only [pv_v, pv_b2, pv_b1, pv_x, pv_lit, pv_ofN, pu_chk, pu_cl, nI_add, pk_mul, nI_leI, nI_ltI, nI_eq, pu_nar0, pu_nar1, pu_narb, bI_0, bI_1, ↓reduceIte, pu_leT, pu_leF, pu_ltT, pu_ltF, pu_eqT, pu_eqF, pu_x1, pu_x2, pu_x3, pu_x4, pu_x5, pu_x6, pu_x7, pu_x8, Nat.zero_add, pu_m31I, pu_m31, pu_shlI, eq_self, Bool.false_eq_true, Bool.true_eq_false, e8, t1]
      exact Wp.some ⟨t2, t3, d1.on t4⟩
    · rw [if_neg v3]
      by_cases v7 : dv (dn x) 8 = 7
      · rw [if_pos v7]
        have e30 := r_draw24 b1 (m := 30) (by omega) (by omega)
        obtain ⟨w3, t1, t2, t3, t4⟩ := r_try c2 (k := 5) (by omega) (nI (dv (dn (dn x)) 30)) (nI 0) b2 (by omega)
        simp (disch := omega) only [pv_v, pv_b2, pv_b1, pv_x, pv_lit, pv_ofN, pu_chk, pu_cl, nI_add, pk_mul, nI_leI, nI_ltI, nI_eq, pu_nar0, pu_nar1, pu_narb, bI_0, bI_1, ↓reduceIte, pu_leT, pu_leF, pu_ltT, pu_ltF, pu_eqT, pu_eqF, pu_x1, pu_x2, pu_x3, pu_x4, pu_x5, pu_x6, pu_x7, pu_x8, Nat.zero_add, pu_m31I, pu_m31, pu_shlI, eq_self, Bool.false_eq_true, Bool.true_eq_false, e8, e30, t1]
        exact Wp.some ⟨t2, t3, d2.on t4⟩
      · rw [if_neg v7]
        have en := r_draw24 b1 (m := (fd 0 0)) hn (by omega)
        have e11 : (am_pl w 271 24 (dn x)).1 271 13 = nI (fd 0 0) := h.2.1.2.2.1.1
        have hu : dv (dn (dn x)) (fd 0 0) < (fd 0 0) := dv_lt hn
        by_cases va : dv (dn x) 8 = 3
        · rw [if_pos va]
          obtain ⟨w3, t1, t2, t3, t4⟩ := r_try c2 (k := 2) (by omega) (nI (dv (dn (dn x)) (fd 0 0))) (nI 0) b2 (by omega)
          simp (disch := omega) only [pv_v, pv_b2, pv_b1, pv_x, pv_lit, pv_ofN, pu_chk, pu_cl, nI_add, pk_mul, nI_leI, nI_ltI, nI_eq, pu_nar0, pu_nar1, pu_narb, bI_0, bI_1, ↓reduceIte, pu_leT, pu_leF, pu_ltT, pu_ltF, pu_eqT, pu_eqF, pu_x1, pu_x2, pu_x3, pu_x4, pu_x5, pu_x6, pu_x7, pu_x8, Nat.zero_add, pu_m31I, pu_m31, pu_shlI, eq_self, Bool.false_eq_true, Bool.true_eq_false, e8, e11, en, t1]
          exact Wp.some ⟨t2, t3, d2.on t4⟩
        · rw [if_neg va]
          by_cases vb : dv (dn x) 8 = 4
          · rw [if_pos vb]
            obtain ⟨w3, t1, t2, t3, t4⟩ := r_try c2 (k := 3) (by omega) (nI (dv (dn (dn x)) (fd 0 0))) (nI 0) b2 (by omega)
            simp (disch := omega) only [pv_v, pv_b2, pv_b1, pv_x, pv_lit, pv_ofN, pu_chk, pu_cl, nI_add, pk_mul, nI_leI, nI_ltI, nI_eq, pu_nar0, pu_nar1, pu_narb, bI_0, bI_1, ↓reduceIte, pu_leT, pu_leF, pu_ltT, pu_ltF, pu_eqT, pu_eqF, pu_x1, pu_x2, pu_x3, pu_x4, pu_x5, pu_x6, pu_x7, pu_x8, Nat.zero_add, pu_m31I, pu_m31, pu_shlI, eq_self, Bool.false_eq_true, Bool.true_eq_false, e8, e11, en, t1]
            exact Wp.some ⟨t2, t3, d2.on t4⟩
          · rw [if_neg vb]
            have v5 : 5 ≤ dv (dn x) 8 := by omega
            generalize dv (dn x) 8 = v at *
            generalize dv (dn (dn x)) (fd 0 0) = u at *
            obtain ⟨l1, l2, l3, l4⟩ := pu_lo_up hF hu
            have hT := pu_T48 hF
            have r1 := r_beginOf c2.2.1 hu
            have r2 := r_widthOf c2.2.1 hu
            have em := r_draw24 b2 (m := pu_up fd u - pu_lo fd u) (by omega) (by omega)
            have hm : dv (dn (dn (dn x))) (pu_up fd u - pu_lo fd u) < pu_up fd u - pu_lo fd u := dv_lt (by omega)
            have c3 : rZ fd z (am_pl (am_pl (am_pl w 271 24 (dn x)) 271 24 (dn (dn x))) 271 24 (dn (dn (dn x)))) := c2.pl
            obtain ⟨w3, t1, t2, t3, t4⟩ := r_try c3 (k := 4) (by omega) (nI u) (nI (pu_lo fd u + dv (dn (dn (dn x))) (pu_up fd u - pu_lo fd u))) pl_same (by omega)
            simp (disch := omega) only [pv_v, pv_b2, pv_b1, pv_x, pv_lit, pv_ofN, pu_chk, pu_cl, nI_add, pk_mul, nI_leI, nI_ltI, nI_eq, pu_nar0, pu_nar1, pu_narb, bI_0, bI_1, ↓reduceIte, pu_leT, pu_leF, pu_ltT, pu_ltF, pu_eqT, pu_eqF, pu_x1, pu_x2, pu_x3, pu_x4, pu_x5, pu_x6, pu_x7, pu_x8, Nat.zero_add, pu_m31I, pu_m31, pu_shlI, eq_self, Bool.false_eq_true, Bool.true_eq_false, e8, e11, en, r1, r2, em, t1]
            exact Wp.some ⟨t2, t3, (d2.on eqR.pl).on t4⟩
theorem r_years (h : rZ fd z w) (hn : 0 < (fd 0 0)) {N : Nat} (hN : 1 ≤ N ∧ N ≤ 40) (x : Int64) : Wp (f_X12_years (nI N) x w) (fun q => q.1 = nI (kc (yN fd x z N).2.1) ∧ rZ fd (yN fd x z N).2 q.2 ∧ eqR w q.2) := by
  have hF := h.2.1.1
  have h10 := hF.1
  have e1 := r_isField (w := w) h.2.1.2.2.1.1 h10
  rw [decide_eq_true hn] at e1
  have e2 := r_in (w := w) (a := N) (b := 1) (c := 40) (by omega) (by omega) (by omega)
  rw [decide_eq_true hN] at e2
  unfold f_X12_years
  simp (disch := omega) only [pv_v, pv_b2, pv_b1, pv_x, pv_lit, pv_ofN, pu_chk, pu_cl, nI_add, pk_mul, nI_leI, nI_ltI, nI_eq, pu_nar0, pu_nar1, pu_narb, bI_0, bI_1, ↓reduceIte, pu_leT, pu_leF, pu_ltT, pu_ltF, pu_eqT, pu_eqF, pu_x1, pu_x2, pu_x3, pu_x4, pu_x5, pu_x6, pu_x7, pu_x8, Nat.zero_add, pu_m31I, pu_m31, pu_shlI, eq_self, Bool.false_eq_true, Bool.true_eq_false, e1, e2]
  unfold f_X12_years_27
  refine Wp.for (fun i w => (nI i, w)) (fun i w' => rZ fd (yN fd x z i).2 w' ∧ w'.2.1 271 24 = (yN fd x z i).1 ∧ eqR w w') N (by omega) (w := am_pl w 271 24 x) rfl ⟨h.pl, pl_same, eqR.pl⟩ (fun i w' hi hI => ?_) (fun w' hI => ?_)
  · obtain ⟨i1, i2, i3⟩ := hI
    obtain ⟨w2, t1, t2, t3, t4⟩ := r_year i1 hn i2
    unfold f_X12_years_27b
    simp (disch := omega) only [pv_v, pv_b2, pv_b1, pv_x, pv_lit, pv_ofN, pu_chk, pu_cl, nI_add, pk_mul, nI_leI, nI_ltI, nI_eq, pu_nar0, pu_nar1, pu_narb, bI_0, bI_1, ↓reduceIte, pu_leT, pu_leF, pu_ltT, pu_ltF, pu_eqT, pu_eqF, pu_x1, pu_x2, pu_x3, pu_x4, pu_x5, pu_x6, pu_x7, pu_x8, Nat.zero_add, pu_m31I, pu_m31, pu_shlI, eq_self, Bool.false_eq_true, Bool.true_eq_false, t1]
    exact Wp.some ⟨_, rfl, t2, t3, i3.on t4⟩
  · obtain ⟨i1, i2, i3⟩ := hI
    have hkc := r_knownMany i1.2.1
    unfold f_X12_years_27b
    simp (disch := omega) only [pv_v, pv_b2, pv_b1, pv_x, pv_lit, pv_ofN, pu_chk, pu_cl, nI_add, pk_mul, nI_leI, nI_ltI, nI_eq, pu_nar0, pu_nar1, pu_narb, bI_0, bI_1, ↓reduceIte, pu_leT, pu_leF, pu_ltT, pu_ltF, pu_eqT, pu_eqF, pu_x1, pu_x2, pu_x3, pu_x4, pu_x5, pu_x6, pu_x7, pu_x8, Nat.zero_add, pu_m31I, pu_m31, pu_shlI, eq_self, Bool.false_eq_true, Bool.true_eq_false, hkc]
    exact Wp.some ⟨rfl, i1, i3⟩
end RYEARS
