/-! pure part: a SCRIPT is read, the reference: a step (wip/whole/pure/19.d.rscript.src) -/
def so (a : Int32) : Int32 := if a = (99 : Int32) then 5 else if a = (102 : Int32) then 3 else if a = (112 : Int32) then 0 else if a = (114 : Int32) then 1 else if a = (116 : Int32) then 2 else if a = (120 : Int32) then 4 else -1
theorem so_f (a : Int32) (w : am_S) : f_X12_sortOf a w = some (so a, w) := by
  unfold so f_X12_sortOf
  repeat' split
  all_goals rfl
theorem so_all : ∀ c, c < 256 → so (sI c) = oI (lx 3 c) := by decide +kernel
/-- what reading a step leaves, in the reference -/
def rsf (a : Nat) (w w' : am_S) : Prop := (∀ k, k ≠ 3 → k ≠ 4 → w'.1 271 k = w.1 271 k) ∧ eqx [271, 279] w w' ∧ ∀ j, j ≠ a → j ≠ a + 1 → w'.1 279 j = w.1 279 j
section RSCRIPT
variable {T : Nat} {tp : Nat → Nat} {w w' w'' : am_S} {i a k : Nat}
theorem rsf.on (h : rsf a w w') (h2 : rsf a w' w'') : rsf a w w'' := ⟨fun k k1 k2 => (h2.1 k k1 k2).trans (h.1 k k1 k2), h.2.1.on h2.2.1, fun j j1 j2 => (h2.2.2 j j1 j2).trans (h.2.2 j j1 j2)⟩
theorem rsf.r (h : r1 w w') : rsf a w w' := ⟨h.1, h.2.up (by simp), fun j _ _ => by rw [h.2.r (by decide)]⟩
theorem rsf.pi {k : Nat} {v : Int32} (h : k = a ∨ k = a + 1) : rsf a w (am_pi w 279 k v) := ⟨fun j _ _ => by rw [pi_p (by decide)], eqx.pi (by simp), fun j j1 j2 => pi_k (by omega)⟩
theorem rsf.t (h : rsf a w w') (ht : rTp T tp w) : rTp T tp w' := ht.fr (h.1 2 (by omega) (by omega)) (h.2.1.r (by decide))
/-- what a step read gives, in the reference -/
def rSt (T : Nat) (tp : Nat → Nat) (a i : Nat) (w w' : am_S) : Prop := ((stp T tp i).1 = true → w'.1 271 4 = -nI 1 ∧ w'.1 271 3 = nI (stp T tp i).2.1 ∧ w'.1 279 a = nI (stp T tp i).2.2.1 ∧ w'.1 279 (a + 1) = (stp T tp i).2.2.2) ∧ ((stp T tp i).1 = false → w'.1 271 4 = nI (stp T tp i).2.1) ∧ rsf a w w'
theorem r_readStep (hT : tW T tp) (h : rTp T tp w) (hi : i ≤ T) (ha : w.1 271 3 = nI i) (hw : w.1 271 4 = -nI 1) (ha2 : a + 1 < 160) : Wp (f_X12_readStep (nI a) w) (rSt T tp a i w) := by
  have hT1 := hT.1
  have hb := nB_le (tp := tp) hi
  obtain ⟨⟨x1, w1⟩, e1, p1, p2, p3, p4⟩ := r_next hT h hi ha
  have a1 : x1 = sI (sg T tp (nB T tp i)) := p1
  have a2 : w1.1 271 3 = nI (nB T tp i) := p2
  have a3 : w1.1 271 4 = -nI 1 := p3.trans hw
  have a4 : r1 w w1 := p4
  clear p1 p2 p3 p4
  subst a1
  have hx := so_all _ (sg_lt (i := nB T tp i) hT)
  unfold f_X12_readStep
  cases e : lx 3 (sg T tp (nB T tp i)) with
  | none =>
    rw [e] at hx
    refine ⟨am_pi w1 271 4 (nI (nB T tp i)), ?_, ?_⟩
    · simp (disch := omega) only [pv_v, pv_b2, pv_b1, pv_x, pv_lit, pv_ofN, pu_chk, pu_cl, nI_add, pk_mul, nI_leI, nI_ltI, nI_eq, pu_nar0, pu_nar1, pu_narb, bI_0, bI_1, ↓reduceIte, pu_leT, pu_leF, pu_ltT, pu_ltF, pu_eqT, pu_eqF, pu_x1, pu_x2, pu_x3, pu_x4, pu_x5, pu_x6, pu_x7, pu_x8, Nat.zero_add, pu_m31I, pu_m31, pu_shlI, eq_self, Bool.false_eq_true, Bool.true_eq_false, e1, so_f, hx, oI, r_bad a2 a3]
    · unfold rSt
      rw [stp_n e]
      exact ⟨(fun q => by cases q), fun _ => pi_same, (rsf.r a4).on (rsf.r (r1.pi (.inr rfl)))⟩
  | some k =>
    obtain ⟨k6, kT⟩ := lx3_in hT e
    rw [e] at hx
    have hx : so (sI (sg T tp (nB T tp i))) = nI k := hx
    generalize hw2 : am_pi (am_pi (am_pi w1 271 3 (nI (nB T tp i + 1))) 279 a (nI k)) 279 (a + 1) (-nI 1) = w2
    have f2 : rsf a w w2 := by
      rw [← hw2]
      exact (((rsf.r a4).on (rsf.r (r1.pi (.inl rfl)))).on (rsf.pi (.inl rfl))).on (rsf.pi (.inr rfl))
    have b3 : w2.1 271 3 = nI (nB T tp i + 1) := by rw [← hw2, pi_p (by decide), pi_p (by decide), pi_same]
    have b4 : w2.1 271 4 = -nI 1 := by rw [← hw2, pi_p (by decide), pi_p (by decide), pi_k (by decide)]; exact a3
    have b5 : w2.1 279 a = nI k := by rw [← hw2, pi_k (by omega), pi_same]
    have b6 : w2.1 279 (a + 1) = -nI 1 := by rw [← hw2, pi_same]
    have h2 := f2.t h
    by_cases h5 : k = 5
    · obtain ⟨⟨x3, w3⟩, e3, p1, p2, p3, p4⟩ := r_number hT h2 (i := nB T tp i + 1) (by omega) b3 b4 (lo := 0) (hh := 9999) (by omega) (by omega)
      have c1 : x3 = nI (nM T tp 0 9999 (nB T tp i + 1)).2.2 := p1
      have c2 : w3.1 271 3 = nI (nM T tp 0 9999 (nB T tp i + 1)).2.1 := p2
      have c3 : w3.1 271 4 = (if (nM T tp 0 9999 (nB T tp i + 1)).1 then -nI 1 else nI (nM T tp 0 9999 (nB T tp i + 1)).2.1) := p3
      have c4 : r1 w2 w3 := p4
      clear p1 p2 p3 p4
      subst c1
      refine ⟨am_pi w3 279 (a + 1) (nI (nM T tp 0 9999 (nB T tp i + 1)).2.2), ?_, ?_⟩
      · unfold f_X12_readStep_113
        have hw5 := hw2
        rw [h5] at hw5
        simp (disch := omega) only [pv_v, pv_b2, pv_b1, pv_x, pv_lit, pv_ofN, pu_chk, pu_cl, nI_add, pk_mul, nI_leI, nI_ltI, nI_eq, pu_nar0, pu_nar1, pu_narb, bI_0, bI_1, ↓reduceIte, pu_leT, pu_leF, pu_ltT, pu_ltF, pu_eqT, pu_eqF, pu_x1, pu_x2, pu_x3, pu_x4, pu_x5, pu_x6, pu_x7, pu_x8, Nat.zero_add, pu_m31I, pu_m31, pu_shlI, eq_self, Bool.false_eq_true, Bool.true_eq_false, e1, so_f, hx, a2, h5, hw5, e3]
      · unfold rSt
        rw [stp_5 e h5]
        refine ⟨fun q => ⟨?_, ?_, ?_, pi_same⟩, fun q => ?_, (f2.on (rsf.r c4)).on (rsf.pi (.inr rfl))⟩
        · have q : (nM T tp 0 9999 (nB T tp i + 1)).1 = true := q
          rw [pi_p (by decide), c3, q]; rfl
        · rw [pi_p (by decide)]; exact c2
        · rw [pi_k (by omega), c4.2.r (by decide), b5, h5]
        · have q : (nM T tp 0 9999 (nB T tp i + 1)).1 = false := q
          rw [pi_p (by decide), c3, q]; rfl
    · by_cases h2k : k < 2
      · refine ⟨w2, ?_, ?_⟩
        · unfold f_X12_readStep_113
          simp (disch := omega) only [pv_v, pv_b2, pv_b1, pv_x, pv_lit, pv_ofN, pu_chk, pu_cl, nI_add, pk_mul, nI_leI, nI_ltI, nI_eq, pu_nar0, pu_nar1, pu_narb, bI_0, bI_1, ↓reduceIte, pu_leT, pu_leF, pu_ltT, pu_ltF, pu_eqT, pu_eqF, pu_x1, pu_x2, pu_x3, pu_x4, pu_x5, pu_x6, pu_x7, pu_x8, Nat.zero_add, pu_m31I, pu_m31, pu_shlI, eq_self, Bool.false_eq_true, Bool.true_eq_false, e1, so_f, hx, a2, hw2]
        · unfold rSt
          rw [stp_2 e h2k]
          exact ⟨fun _ => ⟨b4, b3, b5, b6⟩, (fun q => by cases q), f2⟩
      · obtain ⟨⟨x3, w3⟩, e3, p1, p2, p3, p4⟩ := r_next hT h2 (i := nB T tp i + 1) (by omega) b3
        have c1 : x3 = sI (sg T tp (nB T tp (nB T tp i + 1))) := p1
        have c2 : w3.1 271 3 = nI (nB T tp (nB T tp i + 1)) := p2
        have c3 : w3.1 271 4 = -nI 1 := p3.trans b4
        have c4 : r1 w2 w3 := p4
        clear p1 p2 p3 p4
        subst c1
        have hb2 := nB_le (tp := tp) (i := nB T tp i + 1) (T := T) (by omega)
        have hd := r_isDigit (w := w3) (sg_lt (i := nB T tp (nB T tp i + 1)) hT)
        cases d : isDg (sg T tp (nB T tp (nB T tp i + 1))) with
        | false =>
          rw [d] at hd
          refine ⟨am_pi w3 271 4 (nI (nB T tp (nB T tp i + 1))), ?_, ?_⟩
          · simp (disch := omega) only [pv_v, pv_b2, pv_b1, pv_x, pv_lit, pv_ofN, pu_chk, pu_cl, nI_add, pk_mul, nI_leI, nI_ltI, nI_eq, pu_nar0, pu_nar1, pu_narb, bI_0, bI_1, ↓reduceIte, pu_leT, pu_leF, pu_ltT, pu_ltF, pu_eqT, pu_eqF, pu_x1, pu_x2, pu_x3, pu_x4, pu_x5, pu_x6, pu_x7, pu_x8, Nat.zero_add, pu_m31I, pu_m31, pu_shlI, eq_self, Bool.false_eq_true, Bool.true_eq_false, e1, so_f, hx, a2, hw2, e3, hd, r_bad c2 c3]
          · unfold rSt
            rw [stp_e e h5 h2k d]
            exact ⟨(fun q => by cases q), fun _ => pi_same, (f2.on (rsf.r c4)).on (rsf.r (r1.pi (.inr rfl)))⟩
        | true =>
          rw [d] at hd
          obtain ⟨d1, d2, d3⟩ := sg_d d
          have hh := r_here hT ((f2.on (rsf.r c4)).t h) (i := nB T tp (nB T tp i + 1)) (by omega) c2
          have es : sg T tp (nB T tp (nB T tp i + 1)) = tp (nB T tp (nB T tp i + 1)) := sg_in d1
          have hs : sI (sg T tp (nB T tp (nB T tp i + 1))) = nI (tp (nB T tp (nB T tp i + 1))) := by rw [es]; unfold sI; rw [if_neg (by omega)]
          rw [hs] at hh hd e3
          have c5 : (am_pi w3 279 (a + 1) (nI (tp (nB T tp (nB T tp i + 1)) - 48))).1 271 3 = nI (nB T tp (nB T tp i + 1)) := by rw [pi_p (by decide)]; exact c2
          refine ⟨am_pi (am_pi w3 279 (a + 1) (nI (tp (nB T tp (nB T tp i + 1)) - 48))) 271 3 (nI (nB T tp (nB T tp i + 1) + 1)), ?_, ?_⟩
          · unfold f_X12_readStep_113
            simp (disch := omega) only [pv_v, pv_b2, pv_b1, pv_x, pv_lit, pv_ofN, pu_chk, pu_cl, nI_add, pk_mul, nI_leI, nI_ltI, nI_eq, pu_nar0, pu_nar1, pu_narb, bI_0, bI_1, ↓reduceIte, pu_leT, pu_leF, pu_ltT, pu_ltF, pu_eqT, pu_eqF, pu_x1, pu_x2, pu_x3, pu_x4, pu_x5, pu_x6, pu_x7, pu_x8, Nat.zero_add, pu_m31I, pu_m31, pu_shlI, eq_self, Bool.false_eq_true, Bool.true_eq_false, e1, so_f, hx, a2, hw2, e3, hd, hh, pk_sub, c5]
          · unfold rSt
            rw [stp_d e h5 h2k d, es]
            refine ⟨fun _ => ⟨?_, pi_same, ?_, ?_⟩, (fun q => by cases q), ((f2.on (rsf.r c4)).on (rsf.pi (.inr rfl))).on (rsf.r (r1.pi (.inl rfl)))⟩
            · rw [pi_k (by decide), pi_p (by decide)]; exact c3
            · rw [pi_p (by decide), pi_k (by omega), c4.2.r (by decide)]; exact b5
            · rw [pi_p (by decide), pi_same]
end RSCRIPT
