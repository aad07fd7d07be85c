/-! pure part: a SCRIPT is read, the reference: all (wip/whole/pure/19.e.rscript.src) -/
/-- what reading a SCRIPT leaves, in the reference -/
def rsg (n : Nat) (w w' : am_S) : Prop := (∀ k, k ≠ 3 → k ≠ 4 → w'.1 271 k = w.1 271 k) ∧ eqx [271, 279, 280] w w' ∧ (∀ j, j < 32 * n → w'.1 279 j = w.1 279 j) ∧ ∀ j, j ≠ n → w'.1 280 j = w.1 280 j
/-- what reading a SCRIPT gives, in the reference -/
def rSc (n : Nat) (R : Option Nat × Nat × (Nat → Nat) × (Nat → Int32)) (w : am_S) (q : Int32 × am_S) : Prop := q.1 = eI R.1 ∧ (R.1 = none → q.2.1 280 n = nI R.2.1 ∧ ∀ j, j < R.2.1 → q.2.1 279 (32 * n + 2 * j) = nI (R.2.2.1 j) ∧ q.2.1 279 (32 * n + 2 * j + 1) = R.2.2.2 j) ∧ rsg n w q.2
section RSCRIPT2
variable {T : Nat} {tp : Nat → Nat} {w w' w'' : am_S} {i a k n m : Nat}
theorem rsg.on (h : rsg n w w') (h2 : rsg n w' w'') : rsg n w w'' := ⟨fun k k1 k2 => (h2.1 k k1 k2).trans (h.1 k k1 k2), h.2.1.on h2.2.1, fun j hj => (h2.2.2.1 j hj).trans (h.2.2.1 j hj), fun j hj => (h2.2.2.2 j hj).trans (h.2.2.2 j hj)⟩
theorem rsg.r (h : r1 w w') : rsg n w w' := ⟨h.1, h.2.up (by simp), fun j _ => by rw [h.2.r (by decide)], fun j _ => by rw [h.2.r (by decide)]⟩
theorem rsg.s (h : rsf a w w') (ha : 32 * n ≤ a) : rsg n w w' := ⟨h.1, h.2.1.up (by simp), fun j hj => h.2.2 j (by omega) (by omega), fun j _ => by rw [h.2.1.r (by decide)]⟩
theorem rsg.pi {v : Int32} : rsg n w (am_pi w 280 n v) := ⟨fun j _ _ => by rw [pi_p (by decide)], eqx.pi (by simp), fun j _ => by rw [pi_p (by decide)], fun j hj => pi_k hj⟩
theorem rsg.t (h : rsg n w w') (ht : rTp T tp w) : rTp T tp w' := ht.fr (h.1 2 (by omega) (by omega)) (h.2.1.r (by decide))
theorem r_readScript (hn : n < 5) (hT : tW T tp) (h : rTp T tp w) : Wp (f_X12_readScript (nI n) w) (rSc n (scl T tp 16 0 sk0 sn0 0) w) := by
  have hT1 := hT.1
  generalize hR : scl T tp 16 0 sk0 sn0 0 = R
  generalize hw0 : am_pi (am_pi (am_pi w 271 3 (nI 0)) 271 4 (-nI 1)) 280 n (nI 0) = w0
  have x0 : rsg n w w0 := by
    rw [← hw0]
    exact ((rsg.r (r1.pi (.inl rfl))).on (rsg.r (r1.pi (.inr rfl)))).on rsg.pi
  have y1 : w0.1 271 3 = nI 0 := by rw [← hw0, pi_p (by decide), pi_k (by decide), pi_same]
  have y2 : w0.1 271 4 = -nI 1 := by rw [← hw0, pi_p (by decide), pi_same]
  have y3 : w0.1 280 n = nI 0 := by rw [← hw0, pi_same]
  have hg : f_X12_readScript (nI n) w = f_X12_readScript_19 (nI n) (nI 1) w0 := by
    unfold f_X12_readScript
    simp (disch := omega) only [pv_v, pv_b2, pv_b1, pv_x, pv_lit, pv_ofN, pu_chk, pu_cl, nI_add, pk_mul, nI_leI, nI_ltI, nI_eq, pu_nar0, pu_nar1, pu_narb, bI_0, bI_1, ↓reduceIte, pu_leT, pu_leF, pu_ltT, pu_ltF, pu_eqT, pu_eqF, pu_x1, pu_x2, pu_x3, pu_x4, pu_x5, pu_x6, pu_x7, pu_x8, Nat.zero_add, pu_m31I, pu_m31, pu_shlI, eq_self, Bool.false_eq_true, Bool.true_eq_false, hw0]
  rw [hg]
  unfold f_X12_readScript_19
  refine Wp.loop (fun m s => (s.1 = nI 1 ∧ m < 16 ∧ ∃ i sk sn, i ≤ T ∧ s.2.1 271 3 = nI i ∧ s.2.1 271 4 = -nI 1 ∧ s.2.1 280 n = nI m ∧ scl T tp (16 - m) m sk sn i = R ∧ (∀ j, j < m → s.2.1 279 (32 * n + 2 * j) = nI (sk j) ∧ s.2.1 279 (32 * n + 2 * j + 1) = sn j) ∧ rsg n w s.2) ∨ (m < 17 ∧ ∃ a, f_X12_readScript_19b (nI n) s.1 s.2 = some (.inl a) ∧ rSc n R w a)) 20 (by omega) (.inl ⟨rfl, by omega, 0, sk0, sn0, Nat.zero_le _, y1, y2, y3, hR, fun j hj => absurd hj (Nat.not_lt_zero _), x0⟩) (fun m s hm hI => ?_)
  rcases hI with hI | hI
  · obtain ⟨x, w'⟩ := s
    obtain ⟨j0, m16, i, sk, sn, i1, j2, j3, j4, i5, j6, j7⟩ := hI
    have i0 : x = nI 1 := j0
    have i2 : w'.1 271 3 = nI i := j2
    have i3 : w'.1 271 4 = -nI 1 := j3
    have i4 : w'.1 280 n = nI m := j4
    have i6 : ∀ j, j < m → w'.1 279 (32 * n + 2 * j) = nI (sk j) ∧ w'.1 279 (32 * n + 2 * j + 1) = sn j := j6
    have i7 : rsg n w w' := j7
    clear j0 j2 j3 j4 j6 j7
    subst i0
    have hC : rTp T tp w' := i7.t h
    obtain ⟨f, hf⟩ : ∃ f, 16 - m = f + 1 := ⟨15 - m, by omega⟩
    rw [hf] at i5
    obtain ⟨w1, e1, p1, p2, p3⟩ := r_readStep (a := 2 * (16 * n + m)) hT hC i1 i2 i3 (by omega)
    have hle := (stp_le (tp := tp) hT i1).1
    have x1 : rsg n w w1 := i7.on (rsg.s p3 (by omega))
    have l1 : w1.1 280 n = nI m := by rw [p3.2.1.r (by decide)]; exact i4
    have ent0 : ∀ j, j < m → w1.1 279 (32 * n + 2 * j) = nI (sk j) ∧ w1.1 279 (32 * n + 2 * j + 1) = sn j := fun j hj => by
      rw [p3.2.2 (32 * n + 2 * j) (by omega) (by omega), p3.2.2 (32 * n + 2 * j + 1) (by omega) (by omega)]
      exact i6 j hj
    generalize hw2 : am_pi w1 280 n (nI (m + 1)) = w2
    have x2 : rsg n w w2 := by rw [← hw2]; exact x1.on rsg.pi
    have l2 : w2.1 280 n = nI (m + 1) := by rw [← hw2, pi_same]
    have t2 : w2.1 279 = w1.1 279 := by rw [← hw2, pi_p (by decide)]
    have u2 : w2.1 271 = w1.1 271 := by rw [← hw2, pi_p (by decide)]
    cases hs : (stp T tp i).1 with
    | false =>
      rw [scl_f hs] at i5
      subst i5
      have q4 : w2.1 271 4 = nI (stp T tp i).2.1 := by rw [u2]; exact p2 hs
      generalize hv : w2.1 271 3 = v
      refine ⟨.inr (nI 0, am_pi w2 271 3 (v + nI 0)), ?_, by omega, .inr ⟨by omega, (nI (stp T tp i).2.1, am_pi w2 271 3 (v + nI 0)), ?_, rfl, (fun q => by cases q), x2.on (rsg.r (r1.pi (.inl rfl)))⟩⟩
      · unfold f_X12_readScript_19b f_X12_readScript_82 f_X12_readScript_83 f_X12_readScript_98
        simp (disch := omega) only [pv_v, pv_b2, pv_b1, pv_x, pv_lit, pv_ofN, pu_chk, pu_cl, nI_add, pk_mul, nI_leI, nI_ltI, nI_eq, pu_nar0, pu_nar1, pu_narb, bI_0, bI_1, ↓reduceIte, pu_leT, pu_leF, pu_ltT, pu_ltF, pu_eqT, pu_eqF, pu_x1, pu_x2, pu_x3, pu_x4, pu_x5, pu_x6, pu_x7, pu_x8, Nat.zero_add, pu_m31I, pu_m31, pu_shlI, eq_self, Bool.false_eq_true, Bool.true_eq_false, i4, e1, l1, hw2, q4, hv]
      · have q5 : (am_pi w2 271 3 (v + nI 0)).1 271 4 = nI (stp T tp i).2.1 := by rw [pi_k (by decide)]; exact q4
        unfold f_X12_readScript_19b f_X12_readScript_125
        simp (disch := omega) only [pv_v, pv_b2, pv_b1, pv_x, pv_lit, pv_ofN, pu_chk, pu_cl, nI_add, pk_mul, nI_leI, nI_ltI, nI_eq, pu_nar0, pu_nar1, pu_narb, bI_0, bI_1, ↓reduceIte, pu_leT, pu_leF, pu_ltT, pu_ltF, pu_eqT, pu_eqF, pu_x1, pu_x2, pu_x3, pu_x4, pu_x5, pu_x6, pu_x7, pu_x8, Nat.zero_add, pu_m31I, pu_m31, pu_shlI, eq_self, Bool.false_eq_true, Bool.true_eq_false, q5]
    | true =>
      obtain ⟨g1, g2, g3, g4⟩ := p1 hs
      have g1 : w2.1 271 4 = -nI 1 := by rw [u2]; exact g1
      have g2 : w2.1 271 3 = nI (stp T tp i).2.1 := by rw [u2]; exact g2
      have hC2 : rTp T tp w2 := x2.t h
      have hb := nB_le (tp := tp) hle
      have hlt := sg_lt (i := nB T tp (stp T tp i).2.1) hT
      obtain ⟨⟨y1, w3⟩, e3, p1, p2, p3', p4⟩ := r_next hT hC2 hle g2
      have b1 : y1 = sI (sg T tp (nB T tp (stp T tp i).2.1)) := p1
      have b2 : w3.1 271 3 = nI (nB T tp (stp T tp i).2.1) := p2
      have b3 : w3.1 271 4 = -nI 1 := p3'.trans g1
      have b4 : r1 w2 w3 := p4
      clear p1 p2 p3' p4
      subst b1
      have k3 : w3.1 280 n = nI (m + 1) := by rw [b4.2.r (by decide)]; exact l2
      have x3 : rsg n w w3 := x2.on (rsg.r b4)
      have ent : ∀ j, j < m + 1 → w3.1 279 (32 * n + 2 * j) = nI (upn sk m (stp T tp i).2.2.1 j) ∧ w3.1 279 (32 * n + 2 * j + 1) = upi sn m (stp T tp i).2.2.2 j := fun j hj => by
        rw [b4.2.r (q := 279) (by decide), t2]
        unfold upn upi
        by_cases c : j = m
        · rw [if_pos c, if_pos c, c, show 32 * n + 2 * m = 2 * (16 * n + m) by omega]; exact ⟨g3, g4⟩
        · rw [if_neg c, if_neg c]; exact ent0 j (by omega)
      by_cases s5 : sg T tp (nB T tp (stp T tp i).2.1) = 59 ∧ m + 1 ≠ 16
      · rw [scl_g hs s5.1 s5.2] at i5
        have n16 := s5.2
        have hbT : nB T tp (stp T tp i).2.1 < T := by
          rcases Nat.lt_or_ge (nB T tp (stp T tp i).2.1) T with c | c
          · exact c
          · have := (sg_0 hT).mpr c
            rw [s5.1] at this
            cases this
        rw [s5.1, show sI 59 = nI 59 by decide] at e3
        refine ⟨.inr (nI 1, am_pi w3 271 3 (nI (nB T tp (stp T tp i).2.1 + 1))), ?_, by omega, .inl ⟨rfl, by omega, nB T tp (stp T tp i).2.1 + 1, upn sk m (stp T tp i).2.2.1, upi sn m (stp T tp i).2.2.2, hbT, pi_same, ?_, ?_, ?_, fun j hj => ?_, x3.on (rsg.r (r1.pi (.inl rfl)))⟩⟩
        · unfold f_X12_readScript_19b f_X12_readScript_83 f_X12_readScript_98
          simp (disch := omega) only [pv_v, pv_b2, pv_b1, pv_x, pv_lit, pv_ofN, pu_chk, pu_cl, nI_add, pk_mul, nI_leI, nI_ltI, nI_eq, pu_nar0, pu_nar1, pu_narb, bI_0, bI_1, ↓reduceIte, pu_leT, pu_leF, pu_ltT, pu_ltF, pu_eqT, pu_eqF, pu_x1, pu_x2, pu_x3, pu_x4, pu_x5, pu_x6, pu_x7, pu_x8, Nat.zero_add, pu_m31I, pu_m31, pu_shlI, eq_self, Bool.false_eq_true, Bool.true_eq_false, i4, e1, l1, hw2, g1, e3, k3, b2]
        · rw [pi_k (by decide)]; exact b3
        · rw [pi_p (by decide)]; exact k3
        · rw [show 16 - (m + 1) = f by omega]; exact i5
        · rw [pi_p (by decide)]; exact ent j hj
      · have c2 : (am_pi w3 271 3 (nI (nB T tp (stp T tp i).2.1))).1 271 3 = nI (nB T tp (stp T tp i).2.1) := pi_same
        have c3 : (am_pi w3 271 3 (nI (nB T tp (stp T tp i).2.1))).1 271 4 = -nI 1 := by rw [pi_k (by decide)]; exact b3
        have c4 : r1 w3 (am_pi w3 271 3 (nI (nB T tp (stp T tp i).2.1))) := r1.pi (.inl rfl)
        have hstep : f_X12_readScript_19b (nI n) (nI 1) w' = some (.inr (nI 0, am_pi w3 271 3 (nI (nB T tp (stp T tp i).2.1)))) := by
          unfold f_X12_readScript_19b f_X12_readScript_82 f_X12_readScript_83 f_X12_readScript_98
          by_cases c : sg T tp (nB T tp (stp T tp i).2.1) = 59
          · have n16 : m + 1 = 16 := by omega
            rw [c, show sI 59 = nI 59 by decide] at e3
            rw [n16] at k3
            simp (disch := omega) only [pv_v, pv_b2, pv_b1, pv_x, pv_lit, pv_ofN, pu_chk, pu_cl, nI_add, pk_mul, nI_leI, nI_ltI, nI_eq, pu_nar0, pu_nar1, pu_narb, bI_0, bI_1, ↓reduceIte, pu_leT, pu_leF, pu_ltT, pu_ltF, pu_eqT, pu_eqF, pu_x1, pu_x2, pu_x3, pu_x4, pu_x5, pu_x6, pu_x7, pu_x8, Nat.zero_add, pu_m31I, pu_m31, pu_shlI, eq_self, Bool.false_eq_true, Bool.true_eq_false, i4, e1, l1, hw2, g1, e3, k3, b2, Nat.add_zero]
          · have hne : (sI (sg T tp (nB T tp (stp T tp i).2.1)) = nI 59) = False := by
              rw [sI_eq (by omega) (by omega) (by omega)]; exact eq_false c
            simp (disch := omega) only [pv_v, pv_b2, pv_b1, pv_x, pv_lit, pv_ofN, pu_chk, pu_cl, nI_add, pk_mul, nI_leI, nI_ltI, nI_eq, pu_nar0, pu_nar1, pu_narb, bI_0, bI_1, ↓reduceIte, pu_leT, pu_leF, pu_ltT, pu_ltF, pu_eqT, pu_eqF, pu_x1, pu_x2, pu_x3, pu_x4, pu_x5, pu_x6, pu_x7, pu_x8, Nat.zero_add, pu_m31I, pu_m31, pu_shlI, eq_self, Bool.false_eq_true, Bool.true_eq_false, i4, e1, l1, hw2, g1, e3, hne, b2, Nat.add_zero]
        generalize hw4 : am_pi w3 271 3 (nI (nB T tp (stp T tp i).2.1)) = w4 at c2 c3 c4 hstep
        have x4 : rsg n w w4 := x3.on (rsg.r c4)
        have hC4 : rTp T tp w4 := x4.t h
        obtain ⟨⟨z1, w5⟩, e5, p1, p2, p3', p4⟩ := r_next hT hC4 hb.2 c2
        rw [nB_idem hle] at p1 p2
        have d1 : z1 = sI (sg T tp (nB T tp (stp T tp i).2.1)) := p1
        have d2 : w5.1 271 3 = nI (nB T tp (stp T tp i).2.1) := p2
        have d3 : w5.1 271 4 = -nI 1 := p3'.trans c3
        have d4 : r1 w4 w5 := p4
        clear p1 p2 p3' p4
        subst d1
        have x5 : rsg n w w5 := x4.on (rsg.r d4)
        by_cases s0 : sg T tp (nB T tp (stp T tp i).2.1) = 0
        · rw [scl_0 hs s0] at i5
          subst i5
          rw [s0, show sI 0 = -nI 1 by decide] at e5
          refine ⟨.inr (nI 0, w4), hstep, by omega, .inr ⟨by omega, (-nI 1, w5), ?_, rfl, fun _ => ⟨?_, fun j hj => ?_⟩, x5⟩⟩
          · unfold f_X12_readScript_19b f_X12_readScript_125
            simp (disch := omega) only [pv_v, pv_b2, pv_b1, pv_x, pv_lit, pv_ofN, pu_chk, pu_cl, nI_add, pk_mul, nI_leI, nI_ltI, nI_eq, pu_nar0, pu_nar1, pu_narb, bI_0, bI_1, ↓reduceIte, pu_leT, pu_leF, pu_ltT, pu_ltF, pu_eqT, pu_eqF, pu_x1, pu_x2, pu_x3, pu_x4, pu_x5, pu_x6, pu_x7, pu_x8, Nat.zero_add, pu_m31I, pu_m31, pu_shlI, eq_self, Bool.false_eq_true, Bool.true_eq_false, c3, e5, d3]
          · show w5.1 280 n = _
            rw [d4.2.r (by decide), c4.2.r (by decide)]; exact k3
          · show w5.1 279 _ = _ ∧ w5.1 279 _ = _
            rw [d4.2.r (q := 279) (by decide), c4.2.r (q := 279) (by decide)]; exact ent j hj
        · rw [scl_b hs s0 s5] at i5
          subst i5
          have hne : (sI (sg T tp (nB T tp (stp T tp i).2.1)) = -nI 1) = False := by
            rw [sI_m1 (by omega)]; exact eq_false s0
          refine ⟨.inr (nI 0, w4), hstep, by omega, .inr ⟨by omega, (nI (nB T tp (stp T tp i).2.1), am_pi w5 271 4 (nI (nB T tp (stp T tp i).2.1))), ?_, rfl, (fun q => by cases q), x5.on (rsg.r (r1.pi (.inr rfl)))⟩⟩
          unfold f_X12_readScript_19b f_X12_readScript_125
          simp (disch := omega) only [pv_v, pv_b2, pv_b1, pv_x, pv_lit, pv_ofN, pu_chk, pu_cl, nI_add, pk_mul, nI_leI, nI_ltI, nI_eq, pu_nar0, pu_nar1, pu_narb, bI_0, bI_1, ↓reduceIte, pu_leT, pu_leF, pu_ltT, pu_ltF, pu_eqT, pu_eqF, pu_x1, pu_x2, pu_x3, pu_x4, pu_x5, pu_x6, pu_x7, pu_x8, Nat.zero_add, pu_m31I, pu_m31, pu_shlI, eq_self, Bool.false_eq_true, Bool.true_eq_false, c3, e5, hne, r_bad d2 d3, pi_same]
  · obtain ⟨m17, a, ha, hq⟩ := hI
    exact ⟨.inl a, ha, hq⟩
end RSCRIPT2
