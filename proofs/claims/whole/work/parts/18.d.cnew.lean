/-! pure part: a new FIELD, the class (wip/whole/pure/18.d.cnew.src) -/
def am_fillL (w : am_S) (p n : Nat) (v : Int64) : am_S := (w.1, fun q j => if q = p ∧ j < n then v else w.2.1 q j, w.2.2)
section CNEW
variable {fd : Nat → Nat → Nat} {p : Pt} {w w' : am_S}
theorem fillL_in {q n j : Nat} {v : Int64} (h : j < n) : (am_fillL w q n v).2.1 q j = v := by simp [am_fillL, h]
theorem fillL_p {q n r : Nat} {v : Int64} (h : r ≠ q) : (am_fillL w q n v).2.1 r = w.2.1 r := by
  funext j
  simp [am_fillL, h]
theorem c_fillL {q m : Nat} {v : Int64} (w : am_S) (hm : m < 1000000) : f_J7_fill_d0a16 q m v w = some (am_fillL w q m v) := by
  unfold f_J7_fill_d0a16 f_J7_fill_d0a16_6
  rw [pu_v]
  refine pu_tr (fun i => (nI i, am_fillL w q i v)) m ?_ hm (fun i hi => ?_) ?_
  · refine Prod.ext rfl (Prod.ext rfl (Prod.ext ?_ rfl))
    funext r j
    simp [am_fillL]
  · unfold f_J7_fill_d0a16_6b
    simp (disch := omega) only [pv_v, pv_b2, pv_b1, pv_x, pv_lit, pv_ofN, pu_chk, pu_cl, nI_add, pk_mul, nI_leI, nI_ltI, nI_eq, pu_nar0, pu_nar1, pu_narb, bI_0, bI_1, ↓reduceIte, pu_leT, pu_leF, pu_ltT, pu_ltF, pu_eqT, pu_eqF, pu_x1, pu_x2, pu_x3, pu_x4, pu_x5, pu_x6, pu_x7, pu_x8, Nat.zero_add, pu_m31I, pu_m31, pu_shlI, eq_self, Bool.false_eq_true, Bool.true_eq_false]
    congr 3
    refine Prod.ext rfl (Prod.ext ?_ rfl)
    funext r j
    show (if r = q ∧ j = i then v else if r = q ∧ j < i then v else w.2.1 r j) = if r = q ∧ j < i + 1 then v else w.2.1 r j
    by_cases h1 : r = q
    · by_cases h2 : j = i
      · rw [if_pos ⟨h1, h2⟩, if_pos ⟨h1, by omega⟩]
      · rw [if_neg (fun c => h2 c.2)]
        by_cases h3 : j < i
        · rw [if_pos ⟨h1, h3⟩, if_pos ⟨h1, by omega⟩]
        · rw [if_neg (fun c => h3 c.2), if_neg (fun c => h3 (by omega))]
    · rw [if_neg (fun c => h1 c.1), if_neg (fun c => h1 c.1), if_neg (fun c => h1 c.1)]
  · unfold f_J7_fill_d0a16_6b
    simp (disch := omega) only [pv_v, pv_b2, pv_b1, pv_x, pv_lit, pv_ofN, pu_chk, pu_cl, nI_add, pk_mul, nI_leI, nI_ltI, nI_eq, pu_nar0, pu_nar1, pu_narb, bI_0, bI_1, ↓reduceIte, pu_leT, pu_leF, pu_ltT, pu_ltF, pu_eqT, pu_eqF, pu_x1, pu_x2, pu_x3, pu_x4, pu_x5, pu_x6, pu_x7, pu_x8, Nat.zero_add, pu_m31I, pu_m31, pu_shlI, eq_self, Bool.false_eq_true, Bool.true_eq_false]
theorem cPt.F (hp : pW p) (h : cPt 11 p w) : cF (pF p) w := by
  obtain ⟨h1, h2, h3, h4, h5, h6, h7, h8, h9, h10⟩ := h
  refine ⟨h5, h1, h2, h4, ?_, fun u hu => ⟨h9 u hu 0 (by omega), h9 u hu 1 (by omega), h9 u hu 2 (by omega)⟩, fun k k1 k6 => h10 k (by omega)⟩
  show w.1 11 13 = nI (pQ p 1 + pQ p 2 + pQ p 3 + pQ p 4 + pQ p 5 + pQ p 6)
  rw [pQ_all hp]; exact h7
theorem c_begin9 (hp : pW p) (hw : whP p) (h : cPt 11 p w) : Wp (f_X9_begin 23 11 w) (fun w' => cS (pS p) 23 w' ∧ eqy [23, 24, 27] [25] w w') := by
  have hF := pF_w hp hw
  have s0 : 2 ≤ p.2.1 0 ∧ p.2.1 0 ≤ 12 := hp.2.2.1 0 (by omega)
  have hu10 := hp.1
  obtain ⟨h1, h2, h3, h4, h5, h6, h7, h8, h9, h10⟩ := id h
  have x0 : eqy [23, 24, 27] [25] w (am_pi (am_fill (am_fillL (am_fill w 24 10 (nI 0)) 25 10 (lN 0)) 27 3 (nI 0)) 23 4 (nI (p.2.1 2))) := by
    refine ⟨fun q hq => ?_, fun q hq => ?_, rfl⟩
    · simp only [List.mem_cons, List.not_mem_nil, or_false] at hq
      rw [pi_p (by omega), fill_p (by omega)]
      show (am_fill w 24 10 (nI 0)).1 q = _
      rw [fill_p (by omega)]
    · simp only [List.mem_cons, List.not_mem_nil, or_false] at hq
      exact fillL_p (w := am_fill w 24 10 (nI 0)) hq
  have e9 : (am_fill (am_fillL (am_fill w 24 10 (nI 0)) 25 10 (lN 0)) 27 3 (nI 0)).1 11 9 = nI (p.2.1 2) := by
    rw [fill_p (by omega)]
    show (am_fill w 24 10 (nI 0)).1 11 9 = _
    rw [fill_p (by omega)]; exact h3
  unfold f_X9_begin
  rw [pu_litL0]
  conv => arg 1; simp (disch := omega) only [pv_v, pv_b2, pv_b1, pv_x, pv_lit, pv_ofN, pu_chk, pu_cl, nI_add, pk_mul, nI_leI, nI_ltI, nI_eq, pu_nar0, pu_nar1, pu_narb, bI_0, bI_1, ↓reduceIte, pu_leT, pu_leF, pu_ltT, pu_ltF, pu_eqT, pu_eqF, pu_x1, pu_x2, pu_x3, pu_x4, pu_x5, pu_x6, pu_x7, pu_x8, Nat.zero_add, pu_m31I, pu_m31, pu_shlI, eq_self, Bool.false_eq_true, Bool.true_eq_false, c_fill, c_fillL, e9]
  unfold f_X9_begin_34
  refine Wp.for (fun u w => (nI u, w)) (fun u w' => eqy [23, 24, 27] [25] w w' ∧ (∀ v, v < 10 → w'.1 24 v = nI 0) ∧ w'.1 23 4 = nI (p.2.1 2) ∧ (∀ j, j < 3 → w'.1 27 j = nI 0) ∧ ∀ v, v < 10 → w'.2.1 25 v = lN (if v < u then pC p v else 0)) p.2.2.1 (by omega) rfl ⟨x0, fun v hv => ?_, pi_same, fun j hj => ?_, fun v hv => ?_⟩ (fun u w' hu hI => ?_) (fun w' hI => ?_)
  · rw [pi_p (by omega), fill_p (by omega)]
    show (am_fill w 24 10 (nI 0)).1 24 v = _
    exact fill_in hv
  · rw [pi_p (by omega)]; exact fill_in hj
  · rw [if_neg (by omega)]
    exact fillL_in (w := am_fill w 24 10 (nI 0)) hv
  · obtain ⟨i1, i2, i3, i4, i5⟩ := hI
    have hC : cPt 11 p w' := h.fr (i1.1 _ (by decide)) (fun k k1 k2 => i1.1 _ (by simp only [List.mem_cons, List.not_mem_nil, or_false]; omega))
    obtain ⟨g1, g2, g3, g4, g5, g6, g7, g8, g9, g10⟩ := id hC
    have e3 : w'.1 16 u = nI (p.2.2.2.1 u 3) := g9 u hu 3 (by omega)
    have e4 : w'.1 17 u = nI (p.2.2.2.1 u 4) := g9 u hu 4 (by omega)
    have b3 : p.2.2.2.1 u 3 ≤ 4095 := (hp.2.2.2.1 u hu 3 (by omega)).2
    have b4 : p.2.2.2.1 u 4 ≤ 4095 := (hp.2.2.2.1 u hu 4 (by omega)).2
    have b2 : p.2.2.2.1 u 2 ≤ 3 := (hp.2.2.2.1 u hu 2 (by omega)).2
    have hlo : p.2.2.2.1 u 2 * p.2.1 0 ≤ 3 * 12 := Nat.mul_le_mul b2 s0.2
    have hrf := c_reachFrom hF (hC.F hp) (u := u) hu
    rw [show pu_lo (pF p) u = p.2.2.2.1 u 2 * p.2.1 0 from rfl] at hrf
    have eL : am_lshl ((nI (p.2.2.2.1 u 3)).toInt64 ||| am_lshl (nI (p.2.2.2.1 u 4)).toInt64 (nI (p.2.1 0))) (nI (p.2.2.2.1 u 2 * p.2.1 0)) = lN (pC p u) := by
      unfold am_lshl pC
      rw [nI_l (by omega), nI_l (by omega), wb_shl _ (by omega), fb_orL, wb_shl _ (by omega), if_pos hu]
    refine Wp.ofr (a := (nI (u + 1), am_pl w' 25 u (lN (pC p u)))) (by unfold f_X9_begin_34b; simp (disch := omega) only [pv_v, pv_b2, pv_b1, pv_x, pv_lit, pv_ofN, pu_chk, pu_cl, nI_add, pk_mul, nI_leI, nI_ltI, nI_eq, pu_nar0, pu_nar1, pu_narb, bI_0, bI_1, ↓reduceIte, pu_leT, pu_leF, pu_ltT, pu_ltF, pu_eqT, pu_eqF, pu_x1, pu_x2, pu_x3, pu_x4, pu_x5, pu_x6, pu_x7, pu_x8, Nat.zero_add, pu_m31I, pu_m31, pu_shlI, eq_self, Bool.false_eq_true, Bool.true_eq_false, g5, e3, e4, g1, hrf, eL]) ⟨_, rfl, i1.on (eqy.pl (by simp)), i2, i3, i4, fun v hv => ?_⟩
    rw [pl_ite]
    by_cases c : v = u
    · rw [if_pos c, if_pos (by omega), c]
    · rw [if_neg c, i5 v hv]
      by_cases c2 : v < u
      · rw [if_pos c2, if_pos (by omega)]
      · rw [if_neg c2, if_neg (by omega)]
  · obtain ⟨i1, i2, i3, i4, i5⟩ := hI
    have g5 : w'.1 11 11 = nI p.2.2.1 := by rw [i1.1 _ (by decide)]; exact h5
    refine Wp.ofl (a := w') (by unfold f_X9_begin_34b; simp (disch := omega) only [pv_v, pv_b2, pv_b1, pv_x, pv_lit, pv_ofN, pu_chk, pu_cl, nI_add, pk_mul, nI_leI, nI_ltI, nI_eq, pu_nar0, pu_nar1, pu_narb, bI_0, bI_1, ↓reduceIte, pu_leT, pu_leF, pu_ltT, pu_ltF, pu_eqT, pu_eqF, pu_x1, pu_x2, pu_x3, pu_x4, pu_x5, pu_x6, pu_x7, pu_x8, Nat.zero_add, pu_m31I, pu_m31, pu_shlI, eq_self, Bool.false_eq_true, Bool.true_eq_false, g5]) ⟨⟨i2, fun v hv => ?_, i3, i4, fun j i hj hi => absurd hi (Nat.not_lt_zero _)⟩, i1⟩
    show w'.2.1 25 v = lN (pC p v)
    rw [i5 v hv]
    split
    · rfl
    · next c => unfold pC; rw [if_neg c]
end CNEW
