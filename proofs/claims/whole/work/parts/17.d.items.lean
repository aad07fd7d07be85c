/-! pure part: ITEMS of a CLAUSE, the class (by mk17c.py) -/
section ITEMS2
variable {T : Nat} {tp : Nat → Nat} {w w' : am_S} {i j t : Nat}
theorem svl0 : ∀ k, k < 4 → am_sv 1 k = nI (itlo 0 k) := by decide
theorem svh0 : ∀ k, k < 4 → am_sv 2 k = nI (ithi 0 k) := by decide
theorem svu0 : ∀ k, k < 4 → am_sv 0 k = nI (itus 0 k) := by decide
theorem bnd0 : ∀ k, k < 4 → itlo 0 k < 2 ^ 30 ∧ ithi 0 k < 2 ^ 30 := by decide
theorem c_readItems0 {o : Nat} (ho : o ≠ 0) (hT : tW T tp) (h : cTp T tp w) (ho2 : 2 < o) (hi : i < T) (ha : w.1 1 2 = nI i) : Wp (f_X1_readItems_t0_x1_x2_x0 o w) (fun q => q.1 = bI (decide ((itm T tp 0 5 0 (itus 0) (i + 1)).1 = 1)) ∧ q.2.1 1 2 = nI (itm T tp 0 5 0 (itus 0) (i + 1)).2.1 ∧ (∀ k, k < 4 → (itm T tp 0 5 0 (itus 0) (i + 1)).1 = 1 → q.2.1 (o + 1) k = nI ((itm T tp 0 5 0 (itus 0) (i + 1)).2.2 k)) ∧ q.2.1 1 1 = w.1 1 1 ∧ eqx [1, o + 1] w q.2) := by
  have hT1 := hT.1
  have x0 : eqx [1, o + 1] w (am_cx w (am_sv 0) 0 (o + 1) 0 4) := ⟨rfl, fun q hq => by
    funext k
    show (if q = o + 1 then _ else w.1 q k) = _
    rw [if_neg (fun e => hq (by rw [e]; simp))]⟩
  have e0 : (am_cx w (am_sv 0) 0 (o + 1) 0 4).1 1 = w.1 1 := by
    funext k
    show (if 1 = o + 1 then _ else w.1 1 k) = _
    rw [if_neg (by omega)]
  have e1 : ∀ k, k < 4 → (am_cx w (am_sv 0) 0 (o + 1) 0 4).1 (o + 1) k = nI (itus 0 k) := fun k hk => by
    show (if o + 1 = o + 1 then va_cpy (am_sv 0) (w.1 (o + 1)) 0 0 4 k else _) = _
    rw [if_pos rfl, pk_cpy_in (Nat.zero_le _) (by omega), Nat.sub_zero, Nat.zero_add]
    exact svu0 k hk
  generalize hw0 : am_cx w (am_sv 0) 0 (o + 1) 0 4 = w0 at x0 e0 e1
  have ha0 : w0.1 1 2 = nI i := by rw [e0]; exact ha
  have hR3 : (itm T tp 0 5 0 (itus 0) (i + 1)).1 ≠ 3 := itm_3 (by rw [pu_C_zero (fun u _ => Nat.zero_testBit u)]; decide)
  generalize hR : itm T tp 0 5 0 (itus 0) (i + 1) = R at hR3 ⊢
  have hgo : Wp (f_X1_readItems_t0_x1_x2_x0_30 o (nI 0) (nI 0) (am_pi w0 1 2 (nI (i + 1)))) (fun q => q.1 = bI (decide (R.1 = 1)) ∧ q.2.1 1 2 = nI R.2.1 ∧ (∀ k, k < 4 → R.1 = 1 → q.2.1 (o + 1) k = nI (R.2.2 k)) ∧ q.2.1 1 1 = w.1 1 1 ∧ eqx [1, o + 1] w q.2) := by
    unfold f_X1_readItems_t0_x1_x2_x0_30
    refine Wp.loop (fun c s => ∃ w' f had it i', s = (nI had, nI c, w') ∧ f + c = 5 ∧ itm T tp 0 f had it i' = R ∧ had < 2 ^ 4 ∧ w'.1 1 2 = nI i' ∧ i' ≤ T ∧ (∀ k, k < 4 → w'.1 (o + 1) k = nI (it k)) ∧ w'.1 1 1 = w.1 1 1 ∧ eqx [1, o + 1] w w') 5 (by decide) ⟨_, 5, 0, itus 0, i + 1, rfl, rfl, hR, by decide, pi_same, hi, fun k hk => by rw [pi_p (by omega)]; exact e1 k hk, by rw [pi_k (by omega), e0], x0.on (eqx.pi (by simp))⟩ ?_
    rintro c s hc ⟨w', f, had, it, i', rfl, hf, hit, hh, a1, a2, a3, a4, a5⟩
    cases f with
    | zero => exact absurd (by rw [← hit]; rfl) hR3
    | succ f =>
      have hT' : cTp T tp w' := h.fr a4 (a5.r (by simp only [List.mem_cons, List.not_mem_nil, or_false]; omega))
      have hn := nB_le (tp := tp) a2
      obtain ⟨⟨v, w2⟩, t1, t2, t3, t4, t5⟩ := c_nextSign hT hT' a2 a1
      have t2 : v = nI (sg T tp (nB T tp i')) := t2
      subst t2
      have t3 : w2.1 1 2 = nI (nB T tp i') := t3
      have t5 : c1 w' w2 := t5
      have x2 : eqx [1, o + 1] w w2 := a5.on (t5.2.up (by simp))
      have r2 : w2.1 (o + 1) = w'.1 (o + 1) := t5.2.r (by simp; omega)
      have hs := sg_lt hT (i := nB T tp i')
      unfold f_X1_readItems_t0_x1_x2_x0_30b f_X1_readItems_t0_x1_x2_x0_57 f_X1_readItems_t0_x1_x2_x0_82
      by_cases ce : sg T tp (nB T tp i') = 0 ∨ sg T tp (nB T tp i') = 59
      · rw [itm_e ce] at hit
        subst hit
        refine Wp.ofl (a := (nI 1, w2)) ?_ ⟨rfl, t3, fun k hk _ => by rw [r2]; exact a3 k hk, t5.1.trans a4, x2⟩
        by_cases c0 : sg T tp (nB T tp i') = 0
        · simp (disch := omega) only [pv_v, pv_b2, pv_b1, pv_x, pv_lit, pv_ofN, pu_chk, pu_cl, nI_add, pk_mul, nI_leI, nI_ltI, nI_eq, pu_nar0, pu_nar1, pu_narb, bI_0, bI_1, ↓reduceIte, pu_leT, pu_leF, pu_ltT, pu_ltF, pu_eqT, pu_eqF, pu_x1, pu_x2, pu_x3, pu_x4, pu_x5, pu_x6, pu_x7, pu_x8, Nat.zero_add, pu_m31I, pu_m31, pu_shlI, eq_self, Bool.false_eq_true, Bool.true_eq_false, c_len0, t1, c0]
        · have c9 := ce.resolve_left c0
          rw [c9] at t1
          simp (disch := omega) only [pv_v, pv_b2, pv_b1, pv_x, pv_lit, pv_ofN, pu_chk, pu_cl, nI_add, pk_mul, nI_leI, nI_ltI, nI_eq, pu_nar0, pu_nar1, pu_narb, bI_0, bI_1, ↓reduceIte, pu_leT, pu_leF, pu_ltT, pu_ltF, pu_eqT, pu_eqF, pu_x1, pu_x2, pu_x3, pu_x4, pu_x5, pu_x6, pu_x7, pu_x8, Nat.zero_add, pu_m31I, pu_m31, pu_shlI, eq_self, Bool.false_eq_true, Bool.true_eq_false, c_len0, t1]
      · have hne0 : ¬ sg T tp (nB T tp i') = 0 := fun q => ce (.inl q)
        have hne9 : ¬ sg T tp (nB T tp i') = 59 := fun q => ce (.inr q)
        have hlt : nB T tp i' < T := by
          rcases Nat.lt_or_ge (nB T tp i') T with q | q
          · exact q
          · exact absurd ((sg_0 hT).mpr q) hne0
        have ix := c_ix0 (w := w2) hs
        cases e : lx 0 (sg T tp (nB T tp i')) with
        | none =>
          rw [itm_n ce e] at hit
          subst hit
          rw [e, show oI none = -nI 1 from rfl] at ix
          refine Wp.ofl (a := (nI 0, w2)) ?_ ⟨rfl, t3, fun k hk q => absurd q (by decide : ¬ (0 = 1)), t5.1.trans a4, x2⟩
          simp (disch := omega) only [pv_v, pv_b2, pv_b1, pv_x, pv_lit, pv_ofN, pu_chk, pu_cl, nI_add, pk_mul, nI_leI, nI_ltI, nI_eq, pu_nar0, pu_nar1, pu_narb, bI_0, bI_1, ↓reduceIte, pu_leT, pu_leF, pu_ltT, pu_ltF, pu_eqT, pu_eqF, pu_x1, pu_x2, pu_x3, pu_x4, pu_x5, pu_x6, pu_x7, pu_x8, Nat.zero_add, pu_m31I, pu_m31, pu_shlI, eq_self, Bool.false_eq_true, Bool.true_eq_false, c_len0, t1, hne0, hne9, ix]
        | some k =>
          rw [e, show oI (some k) = nI k from rfl] at ix
          have hk : k < 4 := (lx_lt e).1
          cases eh : had.testBit k with
          | true =>
            rw [itm_h ce e eh] at hit
            subst hit
            refine Wp.ofl (a := (nI 0, w2)) ?_ ⟨rfl, t3, fun k hk q => absurd q (by decide : ¬ (0 = 1)), t5.1.trans a4, x2⟩
            have hb := pu_bit (a := had) (u := k) (by omega) (by omega)
            rw [pu_m31I (by omega), eh] at hb
            simp (disch := omega) only [pv_v, pv_b2, pv_b1, pv_x, pv_lit, pv_ofN, pu_chk, pu_cl, nI_add, pk_mul, nI_leI, nI_ltI, nI_eq, pu_nar0, pu_nar1, pu_narb, bI_0, bI_1, ↓reduceIte, pu_leT, pu_leF, pu_ltT, pu_ltF, pu_eqT, pu_eqF, pu_x1, pu_x2, pu_x3, pu_x4, pu_x5, pu_x6, pu_x7, pu_x8, Nat.zero_add, pu_m31I, pu_m31, pu_shlI, eq_self, Bool.false_eq_true, Bool.true_eq_false, c_len0, t1, hne0, hne9, ix, hb]
          | false =>
            have hb := pu_bit (a := had) (u := k) (by omega) (by omega)
            rw [pu_m31I (by omega), eh] at hb
            have hT2 : cTp T tp (am_pi w2 1 2 (nI (nB T tp i' + 1))) := (t5.t hT').fr (pi_k (by omega)) (pi_p (by omega))
            obtain ⟨⟨v, w4⟩, u1, u2, u3, u4, u5⟩ := c_readNumber hT hT2 (i := nB T tp i' + 1) hlt pi_same (bnd0 k hk).1 (bnd0 k hk).2
            have u2 : v = bI (nM T tp (itlo 0 k) (ithi 0 k) (nB T tp i' + 1)).1 := u2
            subst u2
            have u3 : w4.1 1 2 = nI (nM T tp (itlo 0 k) (ithi 0 k) (nB T tp i' + 1)).2.1 := u3
            have u5 : c1 (am_pi w2 1 2 (nI (nB T tp i' + 1))) w4 := u5
            have x4 : eqx [1, o + 1] w w4 := (x2.on (eqx.pi (by simp))).on (u5.2.up (by simp))
            have m4 : w4.1 1 1 = w.1 1 1 := by rw [u5.1, pi_k (by omega)]; exact t5.1.trans a4
            have r4 : w4.1 (o + 1) = w'.1 (o + 1) := by rw [u5.2.r (by simp; omega), pi_p (by omega), r2]
            have hnl : (nM T tp (itlo 0 k) (ithi 0 k) (nB T tp i' + 1)).2.1 ≤ T := nM_le hlt
            cases en : (nM T tp (itlo 0 k) (ithi 0 k) (nB T tp i' + 1)).1 with
            | false =>
              rw [itm_f ce e eh en] at hit
              subst hit
              rw [en] at u1
              refine Wp.ofl (a := (nI 0, w4)) ?_ ⟨rfl, u3, fun k hk q => absurd q (by decide : ¬ (2 = 1)), m4, x4⟩
              simp (disch := omega) only [pv_v, pv_b2, pv_b1, pv_x, pv_lit, pv_ofN, pu_chk, pu_cl, nI_add, pk_mul, nI_leI, nI_ltI, nI_eq, pu_nar0, pu_nar1, pu_narb, bI_0, bI_1, ↓reduceIte, pu_leT, pu_leF, pu_ltT, pu_ltF, pu_eqT, pu_eqF, pu_x1, pu_x2, pu_x3, pu_x4, pu_x5, pu_x6, pu_x7, pu_x8, Nat.zero_add, pu_m31I, pu_m31, pu_shlI, eq_self, Bool.false_eq_true, Bool.true_eq_false, c_len0, t1, hne0, hne9, ix, hb, t3, svl0 k hk, svh0 k hk, u1]
            | true =>
              rw [itm_g ce e eh en] at hit
              rw [en] at u1
              have u4 : w4.1 1 3 = nI (nM T tp (itlo 0 k) (ithi 0 k) (nB T tp i' + 1)).2.2 := u4 en
              refine Wp.ofr (a := (nI (had ||| 2 ^ k), nI (c + 1), am_pi w4 (o + 1) k (w4.1 1 3))) ?_ ⟨by omega, _, f, had ||| 2 ^ k, _, _, rfl, by omega, hit, ?_, ?_, hnl, fun j hj => ?_, ?_, x4.on (eqx.pi (by simp))⟩
              · simp (disch := omega) only [pv_v, pv_b2, pv_b1, pv_x, pv_lit, pv_ofN, pu_chk, pu_cl, nI_add, pk_mul, nI_leI, nI_ltI, nI_eq, pu_nar0, pu_nar1, pu_narb, bI_0, bI_1, ↓reduceIte, pu_leT, pu_leF, pu_ltT, pu_ltF, pu_eqT, pu_eqF, pu_x1, pu_x2, pu_x3, pu_x4, pu_x5, pu_x6, pu_x7, pu_x8, Nat.zero_add, pu_m31I, pu_m31, pu_shlI, eq_self, Bool.false_eq_true, Bool.true_eq_false, c_len0, t1, hne0, hne9, ix, hb, t3, svl0 k hk, svh0 k hk, u1, pu_or]
              · exact Nat.or_lt_two_pow hh (pu_p2 hk)
              · rw [pi_p (by omega)]; exact u3
              · rw [pi_ite]
                unfold upn
                by_cases q : j = k
                · rw [if_pos q, if_pos q]; exact u4
                · rw [if_neg q, if_neg q, r4]; exact a3 j hj
              · rw [pi_p (by omega)]; exact m4
  unfold f_X1_readItems_t0_x1_x2_x0
  rw [pv_v, hw0, pv_v, ha0, show nI i + (1 : Int32) = nI (i + 1) from nI_1 i]
  exact hgo
theorem svl1 : ∀ k, k < 5 → am_sv 3 k = nI (itlo 1 k) := by decide
theorem svh1 : ∀ k, k < 5 → am_sv 4 k = nI (ithi 1 k) := by decide
theorem svu1 : ∀ k, k < 5 → am_sv 5 k = nI (itus 1 k) := by decide
theorem bnd1 : ∀ k, k < 5 → itlo 1 k < 2 ^ 30 ∧ ithi 1 k < 2 ^ 30 := by decide
theorem c_readItems1 {o : Nat} (ho : o ≠ 0) (hT : tW T tp) (h : cTp T tp w) (ho2 : 2 < o) (hi : i < T) (ha : w.1 1 2 = nI i) : Wp (f_X1_readItems_t1_x3_x4_x5 o w) (fun q => q.1 = bI (decide ((itm T tp 1 6 0 (itus 1) (i + 1)).1 = 1)) ∧ q.2.1 1 2 = nI (itm T tp 1 6 0 (itus 1) (i + 1)).2.1 ∧ (∀ k, k < 5 → (itm T tp 1 6 0 (itus 1) (i + 1)).1 = 1 → q.2.1 (o + 1) k = nI ((itm T tp 1 6 0 (itus 1) (i + 1)).2.2 k)) ∧ q.2.1 1 1 = w.1 1 1 ∧ eqx [1, o + 1] w q.2) := by
  have hT1 := hT.1
  have x0 : eqx [1, o + 1] w (am_cx w (am_sv 5) 0 (o + 1) 0 5) := ⟨rfl, fun q hq => by
    funext k
    show (if q = o + 1 then _ else w.1 q k) = _
    rw [if_neg (fun e => hq (by rw [e]; simp))]⟩
  have e0 : (am_cx w (am_sv 5) 0 (o + 1) 0 5).1 1 = w.1 1 := by
    funext k
    show (if 1 = o + 1 then _ else w.1 1 k) = _
    rw [if_neg (by omega)]
  have e1 : ∀ k, k < 5 → (am_cx w (am_sv 5) 0 (o + 1) 0 5).1 (o + 1) k = nI (itus 1 k) := fun k hk => by
    show (if o + 1 = o + 1 then va_cpy (am_sv 5) (w.1 (o + 1)) 0 0 5 k else _) = _
    rw [if_pos rfl, pk_cpy_in (Nat.zero_le _) (by omega), Nat.sub_zero, Nat.zero_add]
    exact svu1 k hk
  generalize hw0 : am_cx w (am_sv 5) 0 (o + 1) 0 5 = w0 at x0 e0 e1
  have ha0 : w0.1 1 2 = nI i := by rw [e0]; exact ha
  have hR3 : (itm T tp 1 6 0 (itus 1) (i + 1)).1 ≠ 3 := itm_3 (by rw [pu_C_zero (fun u _ => Nat.zero_testBit u)]; decide)
  generalize hR : itm T tp 1 6 0 (itus 1) (i + 1) = R at hR3 ⊢
  have hgo : Wp (f_X1_readItems_t1_x3_x4_x5_30 o (nI 0) (nI 0) (am_pi w0 1 2 (nI (i + 1)))) (fun q => q.1 = bI (decide (R.1 = 1)) ∧ q.2.1 1 2 = nI R.2.1 ∧ (∀ k, k < 5 → R.1 = 1 → q.2.1 (o + 1) k = nI (R.2.2 k)) ∧ q.2.1 1 1 = w.1 1 1 ∧ eqx [1, o + 1] w q.2) := by
    unfold f_X1_readItems_t1_x3_x4_x5_30
    refine Wp.loop (fun c s => ∃ w' f had it i', s = (nI had, nI c, w') ∧ f + c = 6 ∧ itm T tp 1 f had it i' = R ∧ had < 2 ^ 5 ∧ w'.1 1 2 = nI i' ∧ i' ≤ T ∧ (∀ k, k < 5 → w'.1 (o + 1) k = nI (it k)) ∧ w'.1 1 1 = w.1 1 1 ∧ eqx [1, o + 1] w w') 6 (by decide) ⟨_, 6, 0, itus 1, i + 1, rfl, rfl, hR, by decide, pi_same, hi, fun k hk => by rw [pi_p (by omega)]; exact e1 k hk, by rw [pi_k (by omega), e0], x0.on (eqx.pi (by simp))⟩ ?_
    rintro c s hc ⟨w', f, had, it, i', rfl, hf, hit, hh, a1, a2, a3, a4, a5⟩
    cases f with
    | zero => exact absurd (by rw [← hit]; rfl) hR3
    | succ f =>
      have hT' : cTp T tp w' := h.fr a4 (a5.r (by simp only [List.mem_cons, List.not_mem_nil, or_false]; omega))
      have hn := nB_le (tp := tp) a2
      obtain ⟨⟨v, w2⟩, t1, t2, t3, t4, t5⟩ := c_nextSign hT hT' a2 a1
      have t2 : v = nI (sg T tp (nB T tp i')) := t2
      subst t2
      have t3 : w2.1 1 2 = nI (nB T tp i') := t3
      have t5 : c1 w' w2 := t5
      have x2 : eqx [1, o + 1] w w2 := a5.on (t5.2.up (by simp))
      have r2 : w2.1 (o + 1) = w'.1 (o + 1) := t5.2.r (by simp; omega)
      have hs := sg_lt hT (i := nB T tp i')
      unfold f_X1_readItems_t1_x3_x4_x5_30b f_X1_readItems_t1_x3_x4_x5_57 f_X1_readItems_t1_x3_x4_x5_82
      by_cases ce : sg T tp (nB T tp i') = 0 ∨ sg T tp (nB T tp i') = 59
      · rw [itm_e ce] at hit
        subst hit
        refine Wp.ofl (a := (nI 1, w2)) ?_ ⟨rfl, t3, fun k hk _ => by rw [r2]; exact a3 k hk, t5.1.trans a4, x2⟩
        by_cases c0 : sg T tp (nB T tp i') = 0
        · simp (disch := omega) only [pv_v, pv_b2, pv_b1, pv_x, pv_lit, pv_ofN, pu_chk, pu_cl, nI_add, pk_mul, nI_leI, nI_ltI, nI_eq, pu_nar0, pu_nar1, pu_narb, bI_0, bI_1, ↓reduceIte, pu_leT, pu_leF, pu_ltT, pu_ltF, pu_eqT, pu_eqF, pu_x1, pu_x2, pu_x3, pu_x4, pu_x5, pu_x6, pu_x7, pu_x8, Nat.zero_add, pu_m31I, pu_m31, pu_shlI, eq_self, Bool.false_eq_true, Bool.true_eq_false, c_len1, t1, c0]
        · have c9 := ce.resolve_left c0
          rw [c9] at t1
          simp (disch := omega) only [pv_v, pv_b2, pv_b1, pv_x, pv_lit, pv_ofN, pu_chk, pu_cl, nI_add, pk_mul, nI_leI, nI_ltI, nI_eq, pu_nar0, pu_nar1, pu_narb, bI_0, bI_1, ↓reduceIte, pu_leT, pu_leF, pu_ltT, pu_ltF, pu_eqT, pu_eqF, pu_x1, pu_x2, pu_x3, pu_x4, pu_x5, pu_x6, pu_x7, pu_x8, Nat.zero_add, pu_m31I, pu_m31, pu_shlI, eq_self, Bool.false_eq_true, Bool.true_eq_false, c_len1, t1]
      · have hne0 : ¬ sg T tp (nB T tp i') = 0 := fun q => ce (.inl q)
        have hne9 : ¬ sg T tp (nB T tp i') = 59 := fun q => ce (.inr q)
        have hlt : nB T tp i' < T := by
          rcases Nat.lt_or_ge (nB T tp i') T with q | q
          · exact q
          · exact absurd ((sg_0 hT).mpr q) hne0
        have ix := c_ix1 (w := w2) hs
        cases e : lx 1 (sg T tp (nB T tp i')) with
        | none =>
          rw [itm_n ce e] at hit
          subst hit
          rw [e, show oI none = -nI 1 from rfl] at ix
          refine Wp.ofl (a := (nI 0, w2)) ?_ ⟨rfl, t3, fun k hk q => absurd q (by decide : ¬ (0 = 1)), t5.1.trans a4, x2⟩
          simp (disch := omega) only [pv_v, pv_b2, pv_b1, pv_x, pv_lit, pv_ofN, pu_chk, pu_cl, nI_add, pk_mul, nI_leI, nI_ltI, nI_eq, pu_nar0, pu_nar1, pu_narb, bI_0, bI_1, ↓reduceIte, pu_leT, pu_leF, pu_ltT, pu_ltF, pu_eqT, pu_eqF, pu_x1, pu_x2, pu_x3, pu_x4, pu_x5, pu_x6, pu_x7, pu_x8, Nat.zero_add, pu_m31I, pu_m31, pu_shlI, eq_self, Bool.false_eq_true, Bool.true_eq_false, c_len1, t1, hne0, hne9, ix]
        | some k =>
          rw [e, show oI (some k) = nI k from rfl] at ix
          have hk : k < 5 := (lx_lt e).1
          cases eh : had.testBit k with
          | true =>
            rw [itm_h ce e eh] at hit
            subst hit
            refine Wp.ofl (a := (nI 0, w2)) ?_ ⟨rfl, t3, fun k hk q => absurd q (by decide : ¬ (0 = 1)), t5.1.trans a4, x2⟩
            have hb := pu_bit (a := had) (u := k) (by omega) (by omega)
            rw [pu_m31I (by omega), eh] at hb
            simp (disch := omega) only [pv_v, pv_b2, pv_b1, pv_x, pv_lit, pv_ofN, pu_chk, pu_cl, nI_add, pk_mul, nI_leI, nI_ltI, nI_eq, pu_nar0, pu_nar1, pu_narb, bI_0, bI_1, ↓reduceIte, pu_leT, pu_leF, pu_ltT, pu_ltF, pu_eqT, pu_eqF, pu_x1, pu_x2, pu_x3, pu_x4, pu_x5, pu_x6, pu_x7, pu_x8, Nat.zero_add, pu_m31I, pu_m31, pu_shlI, eq_self, Bool.false_eq_true, Bool.true_eq_false, c_len1, t1, hne0, hne9, ix, hb]
          | false =>
            have hb := pu_bit (a := had) (u := k) (by omega) (by omega)
            rw [pu_m31I (by omega), eh] at hb
            have hT2 : cTp T tp (am_pi w2 1 2 (nI (nB T tp i' + 1))) := (t5.t hT').fr (pi_k (by omega)) (pi_p (by omega))
            obtain ⟨⟨v, w4⟩, u1, u2, u3, u4, u5⟩ := c_readNumber hT hT2 (i := nB T tp i' + 1) hlt pi_same (bnd1 k hk).1 (bnd1 k hk).2
            have u2 : v = bI (nM T tp (itlo 1 k) (ithi 1 k) (nB T tp i' + 1)).1 := u2
            subst u2
            have u3 : w4.1 1 2 = nI (nM T tp (itlo 1 k) (ithi 1 k) (nB T tp i' + 1)).2.1 := u3
            have u5 : c1 (am_pi w2 1 2 (nI (nB T tp i' + 1))) w4 := u5
            have x4 : eqx [1, o + 1] w w4 := (x2.on (eqx.pi (by simp))).on (u5.2.up (by simp))
            have m4 : w4.1 1 1 = w.1 1 1 := by rw [u5.1, pi_k (by omega)]; exact t5.1.trans a4
            have r4 : w4.1 (o + 1) = w'.1 (o + 1) := by rw [u5.2.r (by simp; omega), pi_p (by omega), r2]
            have hnl : (nM T tp (itlo 1 k) (ithi 1 k) (nB T tp i' + 1)).2.1 ≤ T := nM_le hlt
            cases en : (nM T tp (itlo 1 k) (ithi 1 k) (nB T tp i' + 1)).1 with
            | false =>
              rw [itm_f ce e eh en] at hit
              subst hit
              rw [en] at u1
              refine Wp.ofl (a := (nI 0, w4)) ?_ ⟨rfl, u3, fun k hk q => absurd q (by decide : ¬ (2 = 1)), m4, x4⟩
              simp (disch := omega) only [pv_v, pv_b2, pv_b1, pv_x, pv_lit, pv_ofN, pu_chk, pu_cl, nI_add, pk_mul, nI_leI, nI_ltI, nI_eq, pu_nar0, pu_nar1, pu_narb, bI_0, bI_1, ↓reduceIte, pu_leT, pu_leF, pu_ltT, pu_ltF, pu_eqT, pu_eqF, pu_x1, pu_x2, pu_x3, pu_x4, pu_x5, pu_x6, pu_x7, pu_x8, Nat.zero_add, pu_m31I, pu_m31, pu_shlI, eq_self, Bool.false_eq_true, Bool.true_eq_false, c_len1, t1, hne0, hne9, ix, hb, t3, svl1 k hk, svh1 k hk, u1]
            | true =>
              rw [itm_g ce e eh en] at hit
              rw [en] at u1
              have u4 : w4.1 1 3 = nI (nM T tp (itlo 1 k) (ithi 1 k) (nB T tp i' + 1)).2.2 := u4 en
              refine Wp.ofr (a := (nI (had ||| 2 ^ k), nI (c + 1), am_pi w4 (o + 1) k (w4.1 1 3))) ?_ ⟨by omega, _, f, had ||| 2 ^ k, _, _, rfl, by omega, hit, ?_, ?_, hnl, fun j hj => ?_, ?_, x4.on (eqx.pi (by simp))⟩
              · simp (disch := omega) only [pv_v, pv_b2, pv_b1, pv_x, pv_lit, pv_ofN, pu_chk, pu_cl, nI_add, pk_mul, nI_leI, nI_ltI, nI_eq, pu_nar0, pu_nar1, pu_narb, bI_0, bI_1, ↓reduceIte, pu_leT, pu_leF, pu_ltT, pu_ltF, pu_eqT, pu_eqF, pu_x1, pu_x2, pu_x3, pu_x4, pu_x5, pu_x6, pu_x7, pu_x8, Nat.zero_add, pu_m31I, pu_m31, pu_shlI, eq_self, Bool.false_eq_true, Bool.true_eq_false, c_len1, t1, hne0, hne9, ix, hb, t3, svl1 k hk, svh1 k hk, u1, pu_or]
              · exact Nat.or_lt_two_pow hh (pu_p2 hk)
              · rw [pi_p (by omega)]; exact u3
              · rw [pi_ite]
                unfold upn
                by_cases q : j = k
                · rw [if_pos q, if_pos q]; exact u4
                · rw [if_neg q, if_neg q, r4]; exact a3 j hj
              · rw [pi_p (by omega)]; exact m4
  unfold f_X1_readItems_t1_x3_x4_x5
  rw [pv_v, hw0, pv_v, ha0, show nI i + (1 : Int32) = nI (i + 1) from nI_1 i]
  exact hgo
theorem svl2 : ∀ k, k < 2 → am_sv 6 k = nI (itlo 2 k) := by decide
theorem svh2 : ∀ k, k < 2 → am_sv 7 k = nI (ithi 2 k) := by decide
theorem svu2 : ∀ k, k < 2 → am_sv 8 k = nI (itus 2 k) := by decide
theorem bnd2 : ∀ k, k < 2 → itlo 2 k < 2 ^ 30 ∧ ithi 2 k < 2 ^ 30 := by decide
theorem c_readItems2 {o : Nat} (ho : o ≠ 0) (hT : tW T tp) (h : cTp T tp w) (ho2 : 2 < o) (hi : i < T) (ha : w.1 1 2 = nI i) : Wp (f_X1_readItems_t2_x6_x7_x8 o w) (fun q => q.1 = bI (decide ((itm T tp 2 3 0 (itus 2) (i + 1)).1 = 1)) ∧ q.2.1 1 2 = nI (itm T tp 2 3 0 (itus 2) (i + 1)).2.1 ∧ (∀ k, k < 2 → (itm T tp 2 3 0 (itus 2) (i + 1)).1 = 1 → q.2.1 (o + 1) k = nI ((itm T tp 2 3 0 (itus 2) (i + 1)).2.2 k)) ∧ q.2.1 1 1 = w.1 1 1 ∧ eqx [1, o + 1] w q.2) := by
  have hT1 := hT.1
  have x0 : eqx [1, o + 1] w (am_cx w (am_sv 8) 0 (o + 1) 0 2) := ⟨rfl, fun q hq => by
    funext k
    show (if q = o + 1 then _ else w.1 q k) = _
    rw [if_neg (fun e => hq (by rw [e]; simp))]⟩
  have e0 : (am_cx w (am_sv 8) 0 (o + 1) 0 2).1 1 = w.1 1 := by
    funext k
    show (if 1 = o + 1 then _ else w.1 1 k) = _
    rw [if_neg (by omega)]
  have e1 : ∀ k, k < 2 → (am_cx w (am_sv 8) 0 (o + 1) 0 2).1 (o + 1) k = nI (itus 2 k) := fun k hk => by
    show (if o + 1 = o + 1 then va_cpy (am_sv 8) (w.1 (o + 1)) 0 0 2 k else _) = _
    rw [if_pos rfl, pk_cpy_in (Nat.zero_le _) (by omega), Nat.sub_zero, Nat.zero_add]
    exact svu2 k hk
  generalize hw0 : am_cx w (am_sv 8) 0 (o + 1) 0 2 = w0 at x0 e0 e1
  have ha0 : w0.1 1 2 = nI i := by rw [e0]; exact ha
  have hR3 : (itm T tp 2 3 0 (itus 2) (i + 1)).1 ≠ 3 := itm_3 (by rw [pu_C_zero (fun u _ => Nat.zero_testBit u)]; decide)
  generalize hR : itm T tp 2 3 0 (itus 2) (i + 1) = R at hR3 ⊢
  have hgo : Wp (f_X1_readItems_t2_x6_x7_x8_30 o (nI 0) (nI 0) (am_pi w0 1 2 (nI (i + 1)))) (fun q => q.1 = bI (decide (R.1 = 1)) ∧ q.2.1 1 2 = nI R.2.1 ∧ (∀ k, k < 2 → R.1 = 1 → q.2.1 (o + 1) k = nI (R.2.2 k)) ∧ q.2.1 1 1 = w.1 1 1 ∧ eqx [1, o + 1] w q.2) := by
    unfold f_X1_readItems_t2_x6_x7_x8_30
    refine Wp.loop (fun c s => ∃ w' f had it i', s = (nI had, nI c, w') ∧ f + c = 3 ∧ itm T tp 2 f had it i' = R ∧ had < 2 ^ 2 ∧ w'.1 1 2 = nI i' ∧ i' ≤ T ∧ (∀ k, k < 2 → w'.1 (o + 1) k = nI (it k)) ∧ w'.1 1 1 = w.1 1 1 ∧ eqx [1, o + 1] w w') 3 (by decide) ⟨_, 3, 0, itus 2, i + 1, rfl, rfl, hR, by decide, pi_same, hi, fun k hk => by rw [pi_p (by omega)]; exact e1 k hk, by rw [pi_k (by omega), e0], x0.on (eqx.pi (by simp))⟩ ?_
    rintro c s hc ⟨w', f, had, it, i', rfl, hf, hit, hh, a1, a2, a3, a4, a5⟩
    cases f with
    | zero => exact absurd (by rw [← hit]; rfl) hR3
    | succ f =>
      have hT' : cTp T tp w' := h.fr a4 (a5.r (by simp only [List.mem_cons, List.not_mem_nil, or_false]; omega))
      have hn := nB_le (tp := tp) a2
      obtain ⟨⟨v, w2⟩, t1, t2, t3, t4, t5⟩ := c_nextSign hT hT' a2 a1
      have t2 : v = nI (sg T tp (nB T tp i')) := t2
      subst t2
      have t3 : w2.1 1 2 = nI (nB T tp i') := t3
      have t5 : c1 w' w2 := t5
      have x2 : eqx [1, o + 1] w w2 := a5.on (t5.2.up (by simp))
      have r2 : w2.1 (o + 1) = w'.1 (o + 1) := t5.2.r (by simp; omega)
      have hs := sg_lt hT (i := nB T tp i')
      unfold f_X1_readItems_t2_x6_x7_x8_30b f_X1_readItems_t2_x6_x7_x8_57 f_X1_readItems_t2_x6_x7_x8_82
      by_cases ce : sg T tp (nB T tp i') = 0 ∨ sg T tp (nB T tp i') = 59
      · rw [itm_e ce] at hit
        subst hit
        refine Wp.ofl (a := (nI 1, w2)) ?_ ⟨rfl, t3, fun k hk _ => by rw [r2]; exact a3 k hk, t5.1.trans a4, x2⟩
        by_cases c0 : sg T tp (nB T tp i') = 0
        · simp (disch := omega) only [pv_v, pv_b2, pv_b1, pv_x, pv_lit, pv_ofN, pu_chk, pu_cl, nI_add, pk_mul, nI_leI, nI_ltI, nI_eq, pu_nar0, pu_nar1, pu_narb, bI_0, bI_1, ↓reduceIte, pu_leT, pu_leF, pu_ltT, pu_ltF, pu_eqT, pu_eqF, pu_x1, pu_x2, pu_x3, pu_x4, pu_x5, pu_x6, pu_x7, pu_x8, Nat.zero_add, pu_m31I, pu_m31, pu_shlI, eq_self, Bool.false_eq_true, Bool.true_eq_false, c_len2, t1, c0]
        · have c9 := ce.resolve_left c0
          rw [c9] at t1
          simp (disch := omega) only [pv_v, pv_b2, pv_b1, pv_x, pv_lit, pv_ofN, pu_chk, pu_cl, nI_add, pk_mul, nI_leI, nI_ltI, nI_eq, pu_nar0, pu_nar1, pu_narb, bI_0, bI_1, ↓reduceIte, pu_leT, pu_leF, pu_ltT, pu_ltF, pu_eqT, pu_eqF, pu_x1, pu_x2, pu_x3, pu_x4, pu_x5, pu_x6, pu_x7, pu_x8, Nat.zero_add, pu_m31I, pu_m31, pu_shlI, eq_self, Bool.false_eq_true, Bool.true_eq_false, c_len2, t1]
      · have hne0 : ¬ sg T tp (nB T tp i') = 0 := fun q => ce (.inl q)
        have hne9 : ¬ sg T tp (nB T tp i') = 59 := fun q => ce (.inr q)
        have hlt : nB T tp i' < T := by
          rcases Nat.lt_or_ge (nB T tp i') T with q | q
          · exact q
          · exact absurd ((sg_0 hT).mpr q) hne0
        have ix := c_ix2 (w := w2) hs
        cases e : lx 2 (sg T tp (nB T tp i')) with
        | none =>
          rw [itm_n ce e] at hit
          subst hit
          rw [e, show oI none = -nI 1 from rfl] at ix
          refine Wp.ofl (a := (nI 0, w2)) ?_ ⟨rfl, t3, fun k hk q => absurd q (by decide : ¬ (0 = 1)), t5.1.trans a4, x2⟩
          simp (disch := omega) only [pv_v, pv_b2, pv_b1, pv_x, pv_lit, pv_ofN, pu_chk, pu_cl, nI_add, pk_mul, nI_leI, nI_ltI, nI_eq, pu_nar0, pu_nar1, pu_narb, bI_0, bI_1, ↓reduceIte, pu_leT, pu_leF, pu_ltT, pu_ltF, pu_eqT, pu_eqF, pu_x1, pu_x2, pu_x3, pu_x4, pu_x5, pu_x6, pu_x7, pu_x8, Nat.zero_add, pu_m31I, pu_m31, pu_shlI, eq_self, Bool.false_eq_true, Bool.true_eq_false, c_len2, t1, hne0, hne9, ix]
        | some k =>
          rw [e, show oI (some k) = nI k from rfl] at ix
          have hk : k < 2 := (lx_lt e).1
          cases eh : had.testBit k with
          | true =>
            rw [itm_h ce e eh] at hit
            subst hit
            refine Wp.ofl (a := (nI 0, w2)) ?_ ⟨rfl, t3, fun k hk q => absurd q (by decide : ¬ (0 = 1)), t5.1.trans a4, x2⟩
            have hb := pu_bit (a := had) (u := k) (by omega) (by omega)
            rw [pu_m31I (by omega), eh] at hb
            simp (disch := omega) only [pv_v, pv_b2, pv_b1, pv_x, pv_lit, pv_ofN, pu_chk, pu_cl, nI_add, pk_mul, nI_leI, nI_ltI, nI_eq, pu_nar0, pu_nar1, pu_narb, bI_0, bI_1, ↓reduceIte, pu_leT, pu_leF, pu_ltT, pu_ltF, pu_eqT, pu_eqF, pu_x1, pu_x2, pu_x3, pu_x4, pu_x5, pu_x6, pu_x7, pu_x8, Nat.zero_add, pu_m31I, pu_m31, pu_shlI, eq_self, Bool.false_eq_true, Bool.true_eq_false, c_len2, t1, hne0, hne9, ix, hb]
          | false =>
            have hb := pu_bit (a := had) (u := k) (by omega) (by omega)
            rw [pu_m31I (by omega), eh] at hb
            have hT2 : cTp T tp (am_pi w2 1 2 (nI (nB T tp i' + 1))) := (t5.t hT').fr (pi_k (by omega)) (pi_p (by omega))
            obtain ⟨⟨v, w4⟩, u1, u2, u3, u4, u5⟩ := c_readNumber hT hT2 (i := nB T tp i' + 1) hlt pi_same (bnd2 k hk).1 (bnd2 k hk).2
            have u2 : v = bI (nM T tp (itlo 2 k) (ithi 2 k) (nB T tp i' + 1)).1 := u2
            subst u2
            have u3 : w4.1 1 2 = nI (nM T tp (itlo 2 k) (ithi 2 k) (nB T tp i' + 1)).2.1 := u3
            have u5 : c1 (am_pi w2 1 2 (nI (nB T tp i' + 1))) w4 := u5
            have x4 : eqx [1, o + 1] w w4 := (x2.on (eqx.pi (by simp))).on (u5.2.up (by simp))
            have m4 : w4.1 1 1 = w.1 1 1 := by rw [u5.1, pi_k (by omega)]; exact t5.1.trans a4
            have r4 : w4.1 (o + 1) = w'.1 (o + 1) := by rw [u5.2.r (by simp; omega), pi_p (by omega), r2]
            have hnl : (nM T tp (itlo 2 k) (ithi 2 k) (nB T tp i' + 1)).2.1 ≤ T := nM_le hlt
            cases en : (nM T tp (itlo 2 k) (ithi 2 k) (nB T tp i' + 1)).1 with
            | false =>
              rw [itm_f ce e eh en] at hit
              subst hit
              rw [en] at u1
              refine Wp.ofl (a := (nI 0, w4)) ?_ ⟨rfl, u3, fun k hk q => absurd q (by decide : ¬ (2 = 1)), m4, x4⟩
              simp (disch := omega) only [pv_v, pv_b2, pv_b1, pv_x, pv_lit, pv_ofN, pu_chk, pu_cl, nI_add, pk_mul, nI_leI, nI_ltI, nI_eq, pu_nar0, pu_nar1, pu_narb, bI_0, bI_1, ↓reduceIte, pu_leT, pu_leF, pu_ltT, pu_ltF, pu_eqT, pu_eqF, pu_x1, pu_x2, pu_x3, pu_x4, pu_x5, pu_x6, pu_x7, pu_x8, Nat.zero_add, pu_m31I, pu_m31, pu_shlI, eq_self, Bool.false_eq_true, Bool.true_eq_false, c_len2, t1, hne0, hne9, ix, hb, t3, svl2 k hk, svh2 k hk, u1]
            | true =>
              rw [itm_g ce e eh en] at hit
              rw [en] at u1
              have u4 : w4.1 1 3 = nI (nM T tp (itlo 2 k) (ithi 2 k) (nB T tp i' + 1)).2.2 := u4 en
              refine Wp.ofr (a := (nI (had ||| 2 ^ k), nI (c + 1), am_pi w4 (o + 1) k (w4.1 1 3))) ?_ ⟨by omega, _, f, had ||| 2 ^ k, _, _, rfl, by omega, hit, ?_, ?_, hnl, fun j hj => ?_, ?_, x4.on (eqx.pi (by simp))⟩
              · simp (disch := omega) only [pv_v, pv_b2, pv_b1, pv_x, pv_lit, pv_ofN, pu_chk, pu_cl, nI_add, pk_mul, nI_leI, nI_ltI, nI_eq, pu_nar0, pu_nar1, pu_narb, bI_0, bI_1, ↓reduceIte, pu_leT, pu_leF, pu_ltT, pu_ltF, pu_eqT, pu_eqF, pu_x1, pu_x2, pu_x3, pu_x4, pu_x5, pu_x6, pu_x7, pu_x8, Nat.zero_add, pu_m31I, pu_m31, pu_shlI, eq_self, Bool.false_eq_true, Bool.true_eq_false, c_len2, t1, hne0, hne9, ix, hb, t3, svl2 k hk, svh2 k hk, u1, pu_or]
              · exact Nat.or_lt_two_pow hh (pu_p2 hk)
              · rw [pi_p (by omega)]; exact u3
              · rw [pi_ite]
                unfold upn
                by_cases q : j = k
                · rw [if_pos q, if_pos q]; exact u4
                · rw [if_neg q, if_neg q, r4]; exact a3 j hj
              · rw [pi_p (by omega)]; exact m4
  unfold f_X1_readItems_t2_x6_x7_x8
  rw [pv_v, hw0, pv_v, ha0, show nI i + (1 : Int32) = nI (i + 1) from nI_1 i]
  exact hgo
end ITEMS2
