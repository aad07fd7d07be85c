/-! pure part: a new FIELD, the class: STRENGTH and DIN (wip/whole/pure/18.e.cbegin.src) -/
def ef (w w' : am_S) : Prop := w'.1 = w.1 ∧ w'.2.1 = w.2.1 ∧ ∀ q, q ≠ 251 → q ≠ 252 → w'.2.2 q = w.2.2 q
theorem sd_less : ∀ a, a < 1024 → ∀ u, u < 10 → a.testBit u = true → pu_sd a (2 ^ u) < a := by decide +kernel
section CBEGIN
variable {fd : Nat → Nat → Nat} {p : Pt} {w w' w'' : am_S}
theorem ef.pf {q k : Nat} {v : UInt32} (h : ef w w') (hq : q = 251 ∨ q = 252) : ef w (am_pf w' q k v) := ⟨h.1, h.2.1, fun r r1 r2 => by
  rw [pf_p (by omega)]; exact h.2.2 r r1 r2⟩
theorem cF.ef (h : cF fd w) (e : ef w w') : cF fd w' := by
  unfold cF at h ⊢
  rw [e.1]; exact h
theorem pu_d_top (hF : wF fd) {m u : Nat} (hu : u < (fd 0 0)) (hm : m < 2 ^ (fd 0 0)) (hb : m.testBit u = true) (hh : ∀ j, j < 10 → u < j → m.testBit j = false) : pu_d fd m (fd 0 0) = FP.fadd (pu_d fd (pu_sd m (2 ^ u)) (fd 0 0)) (pu_f fd u) := by
  have hn := hF.1
  have h1 : ∀ j, u < j → m.testBit j = false := fun j hj => by
    rcases Nat.lt_or_ge j 10 with c | c
    · exact hh j c hj
    · exact pu_hi hm (by omega)
  have e1 : pu_d fd m (fd 0 0) = pu_d fd m (u + 1) := by
    have := pu_d_ext (fd := fd) (m := m) (i := u + 1) ((fd 0 0) - (u + 1)) (fun j hj => h1 j (by omega))
    rwa [show u + 1 + ((fd 0 0) - (u + 1)) = (fd 0 0) by omega] at this
  have e2 : pu_d fd (pu_sd m (2 ^ u)) (fd 0 0) = pu_d fd (pu_sd m (2 ^ u)) u := by
    have := pu_d_ext (fd := fd) (m := pu_sd m (2 ^ u)) (i := u) ((fd 0 0) - u) (fun j hj => by
      rw [pu_sd_bit, pu_p_bit]
      by_cases c : u = j
      · rw [decide_eq_true c]; simp
      · rw [h1 j (by omega)]; rfl)
    rwa [show u + ((fd 0 0) - u) = (fd 0 0) by omega] at this
  rw [e1, pu_d_t hb, e2]
  congr 1
  refine pu_d_cong (fun v hv => ?_)
  rw [pu_sd_bit, pu_p_bit, decide_eq_false (by omega)]
  simp
theorem c_begin7 (hF : wF fd) (h : cF fd w) : Wp (f_X7_begin w) (fun w' => cT fd w' ∧ ∃ w1, ef w w1 ∧ w' = am_pi w1 250 5 (-nI 1)) := by
  have hn := hF.1
  unfold f_X7_begin f_X7_begin_2
  refine Wp.for (fun u w => (nI u, w)) (fun u w' => ef w w' ∧ ∀ v, v < u → w'.2.2 251 v = pu_f fd v) (fd 0 0) (by omega) rfl ⟨⟨rfl, rfl, fun _ _ _ => rfl⟩, fun v hv => absurd hv (Nat.not_lt_zero _)⟩ (fun u w' hu hI => ?_) (fun w' hI => ?_)
  · obtain ⟨i1, i2⟩ := hI
    obtain ⟨g1, g2, g3, g4, g5, g6, g7⟩ := h.ef i1
    obtain ⟨q1, q2, q3⟩ := g6 u hu
    obtain ⟨f1, f2, f3, f4⟩ := pu_f_ok hF hu
    refine Wp.ofr (a := (nI (u + 1), am_pf w' 251 u (pu_f fd u))) ?_ ⟨_, rfl, i1.pf (.inl rfl), fun v hv => ?_⟩
    · unfold f_X7_begin_2b
      simp (disch := omega) only [pv_v, pv_b2, pv_b1, pv_x, pv_lit, pv_ofN, pu_chk, pu_cl, nI_add, pk_mul, nI_leI, nI_ltI, nI_eq, pu_nar0, pu_nar1, pu_narb, bI_0, bI_1, ↓reduceIte, pu_leT, pu_leF, pu_ltT, pu_ltF, pu_eqT, pu_eqF, pu_x1, pu_x2, pu_x3, pu_x4, pu_x5, pu_x6, pu_x7, pu_x8, Nat.zero_add, pu_m31I, pu_m31, pu_shlI, eq_self, Bool.false_eq_true, Bool.true_eq_false, g1, q1, q2]
      rw [fn_ok (by rw [fI_v]; exact f1), fn_ok (by rw [fI_v]; exact f2), fn_ok (by rw [fI_v]; show (pu_f fd u).toNat < _; omega)]
      rfl
    · by_cases c : v = u
      · rw [c, pf_same]
      · rw [pf_k c]; exact i2 v (by omega)
  · obtain ⟨i1, i2⟩ := hI
    obtain ⟨g1, g2, g3, g4, g5, g6, g7⟩ := h.ef i1
    have ht := pu_t_le (show (fd 0 3) ≤ 99 from hF.2.2.2.2.1)
    unfold f_X7_begin_2b
    conv => arg 1; simp (disch := omega) only [pv_v, pv_b2, pv_b1, pv_x, pv_lit, pv_ofN, pu_chk, pu_cl, nI_add, pk_mul, nI_leI, nI_ltI, nI_eq, pu_nar0, pu_nar1, pu_narb, bI_0, bI_1, ↓reduceIte, pu_leT, pu_leF, pu_ltT, pu_ltF, pu_eqT, pu_eqF, pu_x1, pu_x2, pu_x3, pu_x4, pu_x5, pu_x6, pu_x7, pu_x8, Nat.zero_add, pu_m31I, pu_m31, pu_shlI, eq_self, Bool.false_eq_true, Bool.true_eq_false, g1, g4]
    rw [fn_ok (by rw [fI_v]; show (pu_t (fd 0 3)).toNat < _; omega)]
    refine Wp.x ?_
    show Wp (f_X7_begin_79 (nI 1) (am_pf w' 252 0 (pu_t (fd 0 3)))) _
    unfold f_X7_begin_79
    have hp2 : 2 ^ (fd 0 0) ≤ 2 ^ 10 := Nat.pow_le_pow_right (by decide) hn
    have hp1 : 0 < 2 ^ (fd 0 0) := Nat.pow_pos (by decide)
    refine Wp.for (fun i w => (nI (i + 1), w)) (fun i w' => ef w w' ∧ (∀ v, v < (fd 0 0) → w'.2.2 251 v = pu_f fd v) ∧ ∀ m, m < i + 1 → w'.2.2 252 m = pu_d fd m (fd 0 0)) (2 ^ (fd 0 0) - 1) (by omega) rfl ⟨i1.pf (.inr rfl), fun v hv => ?_, fun m hm => ?_⟩ (fun i w' hi hI => ?_) (fun w' hI => ?_)
    · rw [pf_p (by omega)]; exact i2 v hv
    · obtain rfl : m = 0 := by omega
      rw [pf_same]
      have := pu_d_ext (fd := fd) (m := 0) (i := 0) (fd 0 0) (fun u _ => Nat.zero_testBit u)
      rw [Nat.zero_add] at this
      rw [this]; rfl
    · obtain ⟨j1, j2, j3⟩ := hI
      clear g1 g2 g3 g4 g5 g6 g7
      obtain ⟨g1, g2, g3, g4, g5, g6, g7⟩ := h.ef j1
      obtain ⟨u, u1, u2, u3, u4⟩ := lz_all (i + 1) (by omega) (by omega)
      have hu : u < (fd 0 0) := by
        rcases Nat.lt_or_ge u (fd 0 0) with c | c
        · exact c
        · rw [pu_hi (n := (fd 0 0)) (by omega) c] at u3; cases u3
      have hsd := sd_less (i + 1) (by omega) u u1 u3
      have e1 := j3 _ hsd
      have e2 := j2 u hu
      have e3 : 31 - (31 - u) = u := by omega
      have hd := pu_d_fin hF (m := i + 1) (i := (fd 0 0)) (Nat.le_refl _)
      have htop := pu_d_top hF hu (m := i + 1) (by omega) u3 u4
      refine Wp.ofr (a := (nI (i + 1 + 1), am_pf w' 252 (i + 1) (pu_d fd (i + 1) (fd 0 0)))) ?_ ⟨_, rfl, j1.pf (.inr rfl), fun v hv => ?_, fun m hm => ?_⟩
      · unfold f_X7_begin_79b
        simp (disch := omega) only [pv_v, pv_b2, pv_b1, pv_x, pv_lit, pv_ofN, pu_chk, pu_cl, nI_add, pk_mul, nI_leI, nI_ltI, nI_eq, pu_nar0, pu_nar1, pu_narb, bI_0, bI_1, ↓reduceIte, pu_leT, pu_leF, pu_ltT, pu_ltF, pu_eqT, pu_eqF, pu_x1, pu_x2, pu_x3, pu_x4, pu_x5, pu_x6, pu_x7, pu_x8, Nat.zero_add, pu_m31I, pu_m31, pu_shlI, eq_self, Bool.false_eq_true, Bool.true_eq_false, c_everyone g1 hn, lz_f, u2, pk_sub, e3, pu_andn, e1, e2]
        rw [← htop, fn_ok (by rw [fI_v]; omega)]
      · rw [pf_p (by omega)]; exact j2 v hv
      · by_cases c : m = i + 1
        · rw [c, pf_same]
        · rw [pf_k c]; exact j3 m (by omega)
    · obtain ⟨j1, j2, j3⟩ := hI
      clear g1 g2 g3 g4 g5 g6 g7
      obtain ⟨g1, g2, g3, g4, g5, g6, g7⟩ := h.ef j1
      refine Wp.ofl (a := am_pi w' 250 5 (-nI 1)) ?_ ⟨⟨j2, fun m hm => j3 m (by omega), .inl pi_same⟩, w', j1, rfl⟩
      unfold f_X7_begin_79b
      simp (disch := omega) only [pv_v, pv_b2, pv_b1, pv_x, pv_lit, pv_ofN, pu_chk, pu_cl, nI_add, pk_mul, nI_leI, nI_ltI, nI_eq, pu_nar0, pu_nar1, pu_narb, bI_0, bI_1, ↓reduceIte, pu_leT, pu_leF, pu_ltT, pu_ltF, pu_eqT, pu_eqF, pu_x1, pu_x2, pu_x3, pu_x4, pu_x5, pu_x6, pu_x7, pu_x8, Nat.zero_add, pu_m31I, pu_m31, pu_shlI, eq_self, Bool.false_eq_true, Bool.true_eq_false, c_everyone g1 hn]
end CBEGIN
