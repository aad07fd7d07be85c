/-! pure part: what the reference foretells by sets, on (wip/whole/pure/13.c.rask.src) -/
section RASKC
variable {fd st : Nat → Nat → Nat} {occ : Nat → Nat} {c jm : Nat} {w : am_S}
theorem r_beginOf (h : rQ fd st jm w) {u : Nat} (hu : u < (fd 0 0)) : f_X12_beginOf (nI u) w = some (nI (pu_lo fd u), w) := by
  obtain ⟨hF, -, ⟨e1, e2, e3, e4, e5, e6, e7⟩, -⟩ := h
  have h10 := hF.1
  have hr := (e5 u hu).2.2
  unfold f_X12_beginOf pu_lo
  simp (disch := omega) only [pv_v, pv_b2, pv_b1, pv_x, pv_lit, pv_ofN, pu_chk, pu_cl, nI_add, pk_mul, nI_leI, nI_ltI, nI_eq, pu_nar0, pu_nar1, pu_narb, bI_0, bI_1, ↓reduceIte, pu_leT, pu_leF, pu_ltT, pu_ltF, pu_eqT, pu_eqF, pu_x1, pu_x2, pu_x3, pu_x4, pu_x5, pu_x6, pu_x7, pu_x8, Nat.zero_add, pu_m31I, pu_m31, pu_shlI, eq_self, Bool.false_eq_true, Bool.true_eq_false, e2, hr]
  rw [Nat.mul_comm]
theorem r_widthOf (h : rQ fd st jm w) {u : Nat} (hu : u < (fd 0 0)) : f_X12_widthOf (nI u) w = some (nI (pu_up fd u - pu_lo fd u), w) := by
  obtain ⟨hF, -, ⟨e1, e2, e3, e4, e5, e6, e7⟩, -⟩ := h
  have h10 := hF.1
  have hr := (e5 u hu).2.2
  have hh := (hF.2.2.2.2.2.1 u hu).2.2.2.2
  have hf := hF.2.2.1
  unfold f_X12_widthOf f_X12_widthOf_32 pu_lo pu_up
  simp (disch := omega) only [pv_v, pv_b2, pv_b1, pv_x, pv_lit, pv_ofN, pu_chk, pu_cl, nI_add, pk_mul, nI_leI, nI_ltI, nI_eq, pu_nar0, pu_nar1, pu_narb, bI_0, bI_1, ↓reduceIte, pu_leT, pu_leF, pu_ltT, pu_ltF, pu_eqT, pu_eqF, pu_x1, pu_x2, pu_x3, pu_x4, pu_x5, pu_x6, pu_x7, pu_x8, Nat.zero_add, pu_m31I, pu_m31, pu_shlI, eq_self, Bool.false_eq_true, Bool.true_eq_false, e2, e3, hr]
  by_cases q : (fd 0 2) ≤ fd 3 u + 1
  · simp (disch := omega) only [pv_v, pv_b2, pv_b1, pv_x, pv_lit, pv_ofN, pu_chk, pu_cl, nI_add, pk_mul, nI_leI, nI_ltI, nI_eq, pu_nar0, pu_nar1, pu_narb, bI_0, bI_1, ↓reduceIte, pu_leT, pu_leF, pu_ltT, pu_ltF, pu_eqT, pu_eqF, pu_x1, pu_x2, pu_x3, pu_x4, pu_x5, pu_x6, pu_x7, pu_x8, Nat.zero_add, pu_m31I, pu_m31, pu_shlI, eq_self, Bool.false_eq_true, Bool.true_eq_false]
    rw [Nat.min_eq_right (by omega), ← Nat.sub_mul, show (fd 0 2) - fd 3 u = 1 by omega, Nat.mul_comm]
  · simp (disch := omega) only [pv_v, pv_b2, pv_b1, pv_x, pv_lit, pv_ofN, pu_chk, pu_cl, nI_add, pk_mul, nI_leI, nI_ltI, nI_eq, pu_nar0, pu_nar1, pu_narb, bI_0, bI_1, ↓reduceIte, pu_leT, pu_leF, pu_ltT, pu_ltF, pu_eqT, pu_eqF, pu_x1, pu_x2, pu_x3, pu_x4, pu_x5, pu_x6, pu_x7, pu_x8, Nat.zero_add, pu_m31I, pu_m31, pu_shlI, eq_self, Bool.false_eq_true, Bool.true_eq_false]
    rw [Nat.min_eq_left (by omega), ← Nat.sub_mul, show fd 3 u + 2 - fd 3 u = 2 by omega, Nat.mul_comm]
theorem r_isFast (h : rL fd occ c 0 w) {X : Nat} (hX : X < 2 ^ (fd 0 0)) : f_X12_isFast (nI X) w = some (bI (sA (pu_k fd c) occ (fun _ => true) X ((fd 0 1) * (fd 0 2)) == 0), w) := by
  have hF := h.1
  have h10 := hF.1
  have hT := pu_T48 hF
  have hK := pu_k_M hF h.2.1
  have ha : ∀ T', sA (pu_k fd c) occ (fun _ => true) X T' < 2 ^ (fd 0 0) := fun T' => sb_lt (sA_sb hK) hX
  unfold f_X12_isFast f_X12_isFast_4
  refine pu_tr (fun i => (nI (sA (pu_k fd c) occ (fun _ => true) X i), nI i, w)) ((fd 0 1) * (fd 0 2)) rfl (by omega) (fun i hi => ?_) ?_
  · unfold f_X12_isFast_4b
    simp (disch := omega) only [pv_v, pv_b2, pv_b1, pv_x, pv_lit, pv_ofN, pu_chk, pu_cl, nI_add, pk_mul, nI_leI, nI_ltI, nI_eq, pu_nar0, pu_nar1, pu_narb, bI_0, bI_1, ↓reduceIte, pu_leT, pu_leF, pu_ltT, pu_ltF, pu_eqT, pu_eqF, pu_x1, pu_x2, pu_x3, pu_x4, pu_x5, pu_x6, pu_x7, pu_x8, Nat.zero_add, pu_m31I, pu_m31, pu_shlI, eq_self, Bool.false_eq_true, Bool.true_eq_false, r_slotMany hF h.2.2.1, r_clearBy h hi hX, pu_or, Nat.zero_testBit]
    rfl
  · have h31 := pu_k10 (ha ((fd 0 1) * (fd 0 2))) h10
    unfold f_X12_isFast_4b f_X12_isFast_36
    by_cases e : sA (pu_k fd c) occ (fun _ => true) X ((fd 0 1) * (fd 0 2)) = 0
    · simp (disch := omega) only [pv_v, pv_b2, pv_b1, pv_x, pv_lit, pv_ofN, pu_chk, pu_cl, nI_add, pk_mul, nI_leI, nI_ltI, nI_eq, pu_nar0, pu_nar1, pu_narb, bI_0, bI_1, ↓reduceIte, pu_leT, pu_leF, pu_ltT, pu_ltF, pu_eqT, pu_eqF, pu_x1, pu_x2, pu_x3, pu_x4, pu_x5, pu_x6, pu_x7, pu_x8, Nat.zero_add, pu_m31I, pu_m31, pu_shlI, eq_self, Bool.false_eq_true, Bool.true_eq_false, r_slotMany hF h.2.2.1, e]
      rfl
    · simp (disch := omega) only [pv_v, pv_b2, pv_b1, pv_x, pv_lit, pv_ofN, pu_chk, pu_cl, nI_add, pk_mul, nI_leI, nI_ltI, nI_eq, pu_nar0, pu_nar1, pu_narb, bI_0, bI_1, ↓reduceIte, pu_leT, pu_leF, pu_ltT, pu_ltF, pu_eqT, pu_eqF, pu_x1, pu_x2, pu_x3, pu_x4, pu_x5, pu_x6, pu_x7, pu_x8, Nat.zero_add, pu_m31I, pu_m31, pu_shlI, eq_self, Bool.false_eq_true, Bool.true_eq_false, r_slotMany hF h.2.2.1, e]
      rw [bq_f e]
      rfl
theorem stk_n {K : Nat → Nat} {T U X : Nat} (h : ¬ pu_sd X U = 0) : stk K occ T U X = false := by
  unfold stk
  rw [bq_f h, Bool.and_false, Bool.false_and]
theorem stk_y {K : Nat → Nat} {T U X : Nat} (h0 : X ≠ 0) (h : pu_sd X U = 0) : stk K occ T U X = (sA K occ (fun _ => true) X T == 0) := by
  unfold stk
  rw [bq_f h0, bq_t h]
  rfl
theorem r_stuck (h : rQ fd st 0 w) (hn : 0 < (fd 0 0)) {k : Nat} (hk : k ≤ 3) : Wp (f_X12_stuck (nI k) w) (fun p => p.1 = nI (if k = 0 then cn (pu_ls (stk (pu_k fd (st 2 0)) (pu_o fd st) ((fd 0 1) * (fd 0 2)) (pu_u fd st)) (pu_u fd st + 1)) else if k = 1 then pu_ls (stk (pu_k fd (st 2 0)) (pu_o fd st) ((fd 0 1) * (fd 0 2)) (pu_u fd st)) (pu_u fd st + 1) else if k = 2 then pu_C (stk (pu_k fd (st 2 0)) (pu_o fd st) ((fd 0 1) * (fd 0 2)) (pu_u fd st)) (pu_u fd st + 1) else pu_gs (stk (pu_k fd (st 2 0)) (pu_o fd st) ((fd 0 1) * (fd 0 2)) (pu_u fd st)) (pu_u fd st + 1)) ∧ eqx [287] w p.2) := by
  have hF := h.1
  have h10 := hF.1
  have hU := pu_u_lt (fd := fd) (st := st)
  have hU10 := pu_k10 hU h10
  unfold f_X12_stuck
  rw [r_isField h.2.2.1.1 h10, pu_b2, decide_eq_true hn, if_neg (by decide), show (0 : Int32) = nI 0 from rfl, show (3 : Int32) = nI 3 from rfl, r_in (by omega) (by omega) (by omega), pu_b2, decide_eq_true ⟨Nat.zero_le _, hk⟩, if_neg (by decide)]
  refine Wp.b1 ((r_lay h).mono ?_)
  rintro w1 ⟨hq, hl, hx⟩
  rw [r_unknownOnes hq, pu_b2]
  generalize hUe : pu_u fd st = U at *
  generalize hp : stk (pu_k fd (st 2 0)) (pu_o fd st) ((fd 0 1) * (fd 0 2)) U = p
  have hp0 : p 0 = false := by rw [← hp]; rfl
  have hpn : ∀ X, pu_sd X U ≠ 0 → p X = false := fun X hX => by rw [← hp]; exact stk_n hX
  have hpy : ∀ X, X ≠ 0 → pu_sd X U = 0 → p X = (sA (pu_k fd (st 2 0)) (pu_o fd st) (fun _ => true) X ((fd 0 1) * (fd 0 2)) == 0) := fun X h0 hX => by rw [← hp]; exact stk_y h0 hX
  unfold f_X12_stuck_38
  refine Wp.for (fun i w => (nI (pu_ls p (i + 1)), nI (pu_gs p (i + 1)), nI (pu_C p (i + 1)), nI (i + 1), w)) (fun _ w => w = w1) U (by omega) ?_ rfl (fun i w2 hi hw => ?_) (fun w2 hw => ?_)
  · have a1 : pu_ls p 1 = 0 := by rw [pu_ls_s, hp0]; rfl
    have a2 : pu_gs p 1 = 0 := by rw [pu_gs_s, hp0]; rfl
    have a3 : pu_C p 1 = 0 := by rw [pu_C_succ, hp0]; rfl
    simp only [a1, a2, a3, Nat.zero_add, pv_lit]
  · subst hw
    have hls := pu_ls_le (p := p) (i + 1)
    obtain ⟨-, hgs, -⟩ := pu_gs_i (p := p) (i + 1)
    have hc := pu_C_le p (i + 1)
    have hlz := pu_ls_i hp0 (i + 1)
    have c1 := cn_le (i + 1)
    have c2 := cn_le (pu_ls p (i + 1))
    have c3 := cn_le (pu_gs p (i + 1))
    have h31 : pu_sd (i + 1) U < 2 ^ 31 := by have := sb_lt (n := 10) (sb_sd (a := i + 1) (b := U)) (show i + 1 < 1024 by omega); omega
    have g1 : p (i + 1) = true → f_X12_stuck_85 (nI k) (nI U) (nI (pu_gs p (i + 1))) (nI (pu_C p (i + 1))) (nI (i + 1)) (nI (pu_ls p (i + 1 + 1))) w2 = some (.inr (nI (pu_ls p (i + 1 + 1)), nI (pu_gs p (i + 1 + 1)), nI (pu_C p (i + 1 + 1)), nI (i + 1 + 1), w2)) := by
      intro hpi
      unfold f_X12_stuck_85 f_X12_stuck_106 f_X12_stuck_111
      rw [pu_C_t hpi, pu_gs_s (i := i + 1), hpi, Bool.true_and]
      by_cases e : cn (i + 1) ≤ cn (pu_gs p (i + 1))
      · simp (disch := omega) only [pv_v, pv_b2, pv_b1, pv_x, pv_lit, pv_ofN, pu_chk, pu_cl, nI_add, pk_mul, nI_leI, nI_ltI, nI_eq, pu_nar0, pu_nar1, pu_narb, bI_0, bI_1, ↓reduceIte, pu_leT, pu_leF, pu_ltT, pu_ltF, pu_eqT, pu_eqF, pu_x1, pu_x2, pu_x3, pu_x4, pu_x5, pu_x6, pu_x7, pu_x8, Nat.zero_add, pu_m31I, pu_m31, pu_shlI, eq_self, Bool.false_eq_true, Bool.true_eq_false, r_bitsc]
        simp
      · simp (disch := omega) only [pv_v, pv_b2, pv_b1, pv_x, pv_lit, pv_ofN, pu_chk, pu_cl, nI_add, pk_mul, nI_leI, nI_ltI, nI_eq, pu_nar0, pu_nar1, pu_narb, bI_0, bI_1, ↓reduceIte, pu_leT, pu_leF, pu_ltT, pu_ltF, pu_eqT, pu_eqF, pu_x1, pu_x2, pu_x3, pu_x4, pu_x5, pu_x6, pu_x7, pu_x8, Nat.zero_add, pu_m31I, pu_m31, pu_shlI, eq_self, Bool.false_eq_true, Bool.true_eq_false, r_bitsc]
        simp
    unfold f_X12_stuck_38b
    by_cases hs0 : pu_sd (i + 1) U = 0
    · have hfast := r_isFast hl (X := i + 1) (by omega)
      rw [← hpy (i + 1) (by omega) hs0] at hfast
      cases e : p (i + 1)
      · rw [e] at hfast
        unfold f_X12_stuck_111
        simp (disch := omega) only [pv_v, pv_b2, pv_b1, pv_x, pv_lit, pv_ofN, pu_chk, pu_cl, nI_add, pk_mul, nI_leI, nI_ltI, nI_eq, pu_nar0, pu_nar1, pu_narb, bI_0, bI_1, ↓reduceIte, pu_leT, pu_leF, pu_ltT, pu_ltF, pu_eqT, pu_eqF, pu_x1, pu_x2, pu_x3, pu_x4, pu_x5, pu_x6, pu_x7, pu_x8, Nat.zero_add, pu_m31I, pu_m31, pu_shlI, eq_self, Bool.false_eq_true, Bool.true_eq_false, pu_andn, hs0, hfast]
        refine Wp.some ⟨w2, ?_, rfl⟩
        rw [pu_C_f e, pu_ls_s (i := i + 1), pu_gs_s (i := i + 1), e]
        rfl
      · rw [e] at hfast
        by_cases e0 : pu_C p (i + 1) = 0
        · have e1 := hlz.mpr e0
          have g2 := g1 e
          rw [show pu_ls p (i + 1 + 1) = i + 1 by rw [pu_ls_s (i := i + 1), e, e1]; rfl] at g2
          unfold f_X12_stuck_79
          simp (disch := omega) only [pv_v, pv_b2, pv_b1, pv_x, pv_lit, pv_ofN, pu_chk, pu_cl, nI_add, pk_mul, nI_leI, nI_ltI, nI_eq, pu_nar0, pu_nar1, pu_narb, bI_0, bI_1, ↓reduceIte, pu_leT, pu_leF, pu_ltT, pu_ltF, pu_eqT, pu_eqF, pu_x1, pu_x2, pu_x3, pu_x4, pu_x5, pu_x6, pu_x7, pu_x8, Nat.zero_add, pu_m31I, pu_m31, pu_shlI, eq_self, Bool.false_eq_true, Bool.true_eq_false, pu_andn, hs0, hfast, e0]
          rw [e0] at g2
          refine Wp.of g2 ⟨w2, ?_, rfl⟩
          rw [show pu_ls p (i + 1 + 1) = i + 1 by rw [pu_ls_s (i := i + 1), e, e1]; rfl]
        · have e1 : pu_ls p (i + 1) ≠ 0 := fun z => e0 (hlz.mp z)
          have g2 := g1 e
          unfold f_X12_stuck_79
          by_cases e2 : cn (pu_ls p (i + 1)) ≤ cn (i + 1)
          · have e3 : pu_ls p (i + 1 + 1) = pu_ls p (i + 1) := by
              rw [pu_ls_s (i := i + 1), e, bq_f e1, decide_eq_false (by omega)]; rfl
            rw [e3] at g2
            simp (disch := omega) only [pv_v, pv_b2, pv_b1, pv_x, pv_lit, pv_ofN, pu_chk, pu_cl, nI_add, pk_mul, nI_leI, nI_ltI, nI_eq, pu_nar0, pu_nar1, pu_narb, bI_0, bI_1, ↓reduceIte, pu_leT, pu_leF, pu_ltT, pu_ltF, pu_eqT, pu_eqF, pu_x1, pu_x2, pu_x3, pu_x4, pu_x5, pu_x6, pu_x7, pu_x8, Nat.zero_add, pu_m31I, pu_m31, pu_shlI, eq_self, Bool.false_eq_true, Bool.true_eq_false, pu_andn, hs0, hfast, e0, r_bitsc, e2]
            refine Wp.of g2 ⟨w2, ?_, rfl⟩
            rw [e3]
          · have e3 : pu_ls p (i + 1 + 1) = i + 1 := by
              rw [pu_ls_s (i := i + 1), e, bq_f e1, decide_eq_true (by omega)]; rfl
            rw [e3] at g2
            simp (disch := omega) only [pv_v, pv_b2, pv_b1, pv_x, pv_lit, pv_ofN, pu_chk, pu_cl, nI_add, pk_mul, nI_leI, nI_ltI, nI_eq, pu_nar0, pu_nar1, pu_narb, bI_0, bI_1, ↓reduceIte, pu_leT, pu_leF, pu_ltT, pu_ltF, pu_eqT, pu_eqF, pu_x1, pu_x2, pu_x3, pu_x4, pu_x5, pu_x6, pu_x7, pu_x8, Nat.zero_add, pu_m31I, pu_m31, pu_shlI, eq_self, Bool.false_eq_true, Bool.true_eq_false, pu_andn, hs0, hfast, e0, r_bitsc, e2]
            refine Wp.of g2 ⟨w2, ?_, rfl⟩
            rw [e3]
    · unfold f_X12_stuck_111
      simp (disch := omega) only [pv_v, pv_b2, pv_b1, pv_x, pv_lit, pv_ofN, pu_chk, pu_cl, nI_add, pk_mul, nI_leI, nI_ltI, nI_eq, pu_nar0, pu_nar1, pu_narb, bI_0, bI_1, ↓reduceIte, pu_leT, pu_leF, pu_ltT, pu_ltF, pu_eqT, pu_eqF, pu_x1, pu_x2, pu_x3, pu_x4, pu_x5, pu_x6, pu_x7, pu_x8, Nat.zero_add, pu_m31I, pu_m31, pu_shlI, eq_self, Bool.false_eq_true, Bool.true_eq_false, pu_andn, hs0]
      refine Wp.some ⟨w2, ?_, rfl⟩
      have e := hpn (i + 1) hs0
      rw [pu_C_f e, pu_ls_s (i := i + 1), pu_gs_s (i := i + 1), e]
      rfl
  · subst hw
    have hls := pu_ls_le (p := p) (U + 1)
    have hlt : pu_ls p (U + 1) < 1024 := by
      rcases Nat.lt_or_ge (pu_ls p (U + 1)) 1024 with q | q
      · exact q
      · have hls2 := pu_ls_le (p := p) U
        rw [pu_ls_s] at q
        split at q <;> omega
    unfold f_X12_stuck_38b f_X12_stuck_149
    simp (disch := omega) only [pv_v, pv_b2, pv_b1, pv_x, pv_lit, pv_ofN, pu_chk, pu_cl, nI_add, pk_mul, nI_leI, nI_ltI, nI_eq, pu_nar0, pu_nar1, pu_narb, bI_0, bI_1, ↓reduceIte, pu_leT, pu_leF, pu_ltT, pu_ltF, pu_eqT, pu_eqF, pu_x1, pu_x2, pu_x3, pu_x4, pu_x5, pu_x6, pu_x7, pu_x8, Nat.zero_add, pu_m31I, pu_m31, pu_shlI, eq_self, Bool.false_eq_true, Bool.true_eq_false, r_bitsc]
    refine Wp.x (Wp.of (r := (nI (if k = 0 then cn (pu_ls p (U + 1)) else if k = 1 then pu_ls p (U + 1) else if k = 2 then pu_C p (U + 1) else pu_gs p (U + 1)), w2)) ?_ ⟨rfl, hx⟩)
    split
    · rfl
    · split
      · rfl
      · split <;> rfl
theorem pu_gs_R {K occ : Nat → Nat} {T U : Nat} (hK : kM K) (hU : U < 1024) : pu_gs (stk K occ T U) (U + 1) = sRR K occ (fun _ => true) T U := by
  obtain ⟨h1, h2, h3⟩ := pu_gs_i (p := stk K occ T U) (U + 1)
  have hR := sRR_is (occ := occ) (sel := fun _ => true) (T := T) hK hU
  have hsb : ∀ X, stk K occ T U X = true → sb X (sRR K occ (fun _ => true) T U) := fun X hX => by
    unfold stk at hX
    rw [Bool.and_eq_true, Bool.and_eq_true] at hX
    exact hR.1.2 X (pu_sd0.mp (by simpa using hX.1.2)) (by simpa using hX.2)
  by_cases e : sRR K occ (fun _ => true) T U = 0
  · rw [e]
    rcases h1 with z | z
    · exact z
    · have := hsb _ z
      rw [e] at this
      exact sb_z this
  · have hs : stk K occ T U (sRR K occ (fun _ => true) T U) = true := by
      unfold stk
      rw [bq_f e, bq_t (pu_sd0.mpr hR.1.1), bq_t hR.2]
      rfl
    have h4 := h3 _ (by have := sb_le hR.1.1; omega) hs
    rcases h1 with z | z
    · rw [z, cn_z] at h4
      exact absurd (cn_0 (sb_lt (n := 10) hR.1.1 hU) (by omega)) e
    · exact sb_cn (hsb _ z) (sb_lt (n := 10) hR.1.1 hU) h4
theorem r_bestOne (h : rQ fd st 0 w) {b : Bool} {k : Nat} (hk : k ≤ 1) : Wp (f_X12_bestOne (bI b) (nI k) w) (fun p => p.1 = (if k = 0 then oI (pu_mx (fun u => (pu_u fd st).testBit u) (pu_ko fd (pu_o fd st) (st 2 0) (pu_u fd st)) 0 (fd 0 0)) else nI (match pu_mx (fun u => (pu_u fd st).testBit u) (pu_ko fd (pu_o fd st) (st 2 0) (pu_u fd st)) 0 (fd 0 0) with | none => 0 | some v => pu_ko fd (pu_o fd st) (st 2 0) (pu_u fd st) v + b.toNat)) ∧ eqx [287] w p.2) := by
  have hF := h.1
  have h10 := hF.1
  have hK := pu_k_M hF h.2.1.1
  have hU := pu_u_lt (fd := fd) (st := st)
  unfold f_X12_bestOne
  refine Wp.b1 ((r_lay h).mono ?_)
  rintro w1 ⟨hq, hl, hx⟩
  have e1 := hq.2.2.1.1
  have hbl := bN_lt b
  have hko : ∀ u, pu_ko fd (pu_o fd st) (st 2 0) (pu_u fd st) u ≤ 10 := fun u => by unfold pu_ko; omega
  have hval : ∀ i, i < (fd 0 0) → (pu_u fd st).testBit i = true → am_b2 (f_X12_knownWith (nI (2 ^ i)) (bI b) w1) (fun r w => f_X12_bits r w) = some (nI (pu_ko fd (pu_o fd st) (st 2 0) (pu_u fd st) i + b.toNat), w1) := by
    intro i hi hui
    rw [r_knownWith hq hl (X := 2 ^ i) b, pu_b2]
    have hall := pu_all10 h10
    have ho := pu_out (occ := pu_o fd st) hK h10 hU hi
    have hRl : sRR (pu_k fd (st 2 0)) (pu_o fd st) (fun _ => true) ((fd 0 1) * (fd 0 2)) (pu_sd (pu_u fd st) (2 ^ i)) < 2 ^ (fd 0 0) := sRR_lt hK (pu_sd_lt hU)
    have hRb : (sRR (pu_k fd (st 2 0)) (pu_o fd st) (fun _ => true) ((fd 0 1) * (fd 0 2)) (pu_sd (pu_u fd st) (2 ^ i))).testBit i = false := by
      cases e : (sRR (pu_k fd (st 2 0)) (pu_o fd st) (fun _ => true) ((fd 0 1) * (fd 0 2)) (pu_sd (pu_u fd st) (2 ^ i))).testBit i
      · rfl
      · have := sRR_sb hK i e
        rw [pu_sd_bit, pu_p_bit, decide_eq_true rfl, Bool.not_true, Bool.and_false] at this
        cases this
    have d1 := cn_sd (sb_all hRl)
    rw [cn_all h10] at d1
    unfold pu_ko
    cases b
    · rw [if_neg (by decide), r_bitsc (sb_lt (n := 10) (sb_sd.tr sb_sd) hall)]
      have d2 := cn_sd (a := pu_sd (2 ^ (fd 0 0) - 1) (sRR (pu_k fd (st 2 0)) (pu_o fd st) (fun _ => true) ((fd 0 1) * (fd 0 2)) (pu_sd (pu_u fd st) (2 ^ i)))) (b := 2 ^ i) (sb_p (by rw [pu_sd_bit, Nat.testBit_two_pow_sub_one, decide_eq_true hi, hRb]; rfl))
      rw [cn_p (by omega)] at d2
      congr 3
      simp only [Bool.toNat_false]
      omega
    · rw [if_pos rfl, r_bitsc (sb_lt (n := 10) sb_sd hall)]
      congr 3
      simp only [Bool.toNat_true]
      omega
  unfold f_X12_bestOne_12
  refine Wp.for (fun i w => (oI (pu_mx (fun u => (pu_u fd st).testBit u) (pu_ko fd (pu_o fd st) (st 2 0) (pu_u fd st)) 0 i), nI (match pu_mx (fun u => (pu_u fd st).testBit u) (pu_ko fd (pu_o fd st) (st 2 0) (pu_u fd st)) 0 i with | none => 0 | some v => pu_ko fd (pu_o fd st) (st 2 0) (pu_u fd st) v + b.toNat), nI i, w)) (fun _ w => w = w1) (fd 0 0) (by omega) rfl rfl (fun i w2 hi hw => ?_) (fun w2 hw => ?_)
  · subst hw
    have hb : (st 0 i == 0) = (pu_u fd st).testBit i := by
      unfold pu_u
      rw [pu_S_bit, decide_eq_true hi, Bool.true_and]
    unfold f_X12_bestOne_12b
    rw [e1, if_neg (nI_ge hi (by omega)), r_isUnknown hq (u := i) (by omega), pu_b2, hb]
    cases e : (pu_u fd st).testBit i
    · rw [pu_mx_f (by rw [Nat.zero_add]; exact e)]
      unfold f_X12_bestOne_63
      simp (disch := omega) only [pv_v, pv_b2, pv_b1, pv_x, pv_lit, pv_ofN, pu_chk, pu_cl, nI_add, pk_mul, nI_leI, nI_ltI, nI_eq, pu_nar0, pu_nar1, pu_narb, bI_0, bI_1, ↓reduceIte, pu_leT, pu_leF, pu_ltT, pu_ltF, pu_eqT, pu_eqF, pu_x1, pu_x2, pu_x3, pu_x4, pu_x5, pu_x6, pu_x7, pu_x8, Nat.zero_add, pu_m31I, pu_m31, pu_shlI, eq_self, Bool.false_eq_true, Bool.true_eq_false]
      exact Wp.some ⟨w2, rfl, rfl⟩
    · have hv := hval i hi e
      obtain ⟨⟨r1, w3⟩, he1, he2⟩ : ∃ q, f_X12_knownWith (nI (2 ^ i)) (bI b) w2 = some q ∧ f_X12_bits q.1 q.2 = some (nI (pu_ko fd (pu_o fd st) (st 2 0) (pu_u fd st) i + b.toNat), w2) := by
        obtain ⟨a, b', hab, hk2⟩ := am_b2_some hv
        exact ⟨(a, b'), hab, hk2⟩
      have hki := hko i
      rw [if_neg (by decide), show (1 : Int32) = nI 1 from rfl, show (31 : Int32) = nI 31 from rfl, pu_shl (by omega), he1, pu_b2, he2, pu_b2]
      unfold f_X12_bestOne_56 f_X12_bestOne_63
      cases e2 : pu_mx (fun u => (pu_u fd st).testBit u) (pu_ko fd (pu_o fd st) (st 2 0) (pu_u fd st)) 0 i with
      | none =>
        rw [pu_mx_n (by rw [Nat.zero_add]; exact e) e2]
        simp only [oI]
        simp (disch := omega) only [pv_v, pv_b2, pv_b1, pv_x, pv_lit, pv_ofN, pu_chk, pu_cl, nI_add, pk_mul, nI_leI, nI_ltI, nI_eq, pu_nar0, pu_nar1, pu_narb, bI_0, bI_1, ↓reduceIte, pu_leT, pu_leF, pu_ltT, pu_ltF, pu_eqT, pu_eqF, pu_x1, pu_x2, pu_x3, pu_x4, pu_x5, pu_x6, pu_x7, pu_x8, Nat.zero_add, pu_m31I, pu_m31, pu_shlI, eq_self, Bool.false_eq_true, Bool.true_eq_false]
        exact Wp.some ⟨w2, rfl, rfl⟩
      | some v =>
        have hkv := hko v
        have hvi := (pu_mx_p e2).2.2
        by_cases e3 : pu_ko fd (pu_o fd st) (st 2 0) (pu_u fd st) i ≤ pu_ko fd (pu_o fd st) (st 2 0) (pu_u fd st) v
        · rw [pu_mx_k e2 (by rw [Nat.zero_add]; exact e3)]
          simp only [oI]
          simp (disch := omega) only [pv_v, pv_b2, pv_b1, pv_x, pv_lit, pv_ofN, pu_chk, pu_cl, nI_add, pk_mul, nI_leI, nI_ltI, nI_eq, pu_nar0, pu_nar1, pu_narb, bI_0, bI_1, ↓reduceIte, pu_leT, pu_leF, pu_ltT, pu_ltF, pu_eqT, pu_eqF, pu_x1, pu_x2, pu_x3, pu_x4, pu_x5, pu_x6, pu_x7, pu_x8, Nat.zero_add, pu_m31I, pu_m31, pu_shlI, eq_self, Bool.false_eq_true, Bool.true_eq_false]
          exact Wp.some ⟨w2, rfl, rfl⟩
        · rw [pu_mx_g (by rw [Nat.zero_add]; exact e) e2 (by rw [Nat.zero_add]; omega)]
          simp only [oI]
          simp (disch := omega) only [pv_v, pv_b2, pv_b1, pv_x, pv_lit, pv_ofN, pu_chk, pu_cl, nI_add, pk_mul, nI_leI, nI_ltI, nI_eq, pu_nar0, pu_nar1, pu_narb, bI_0, bI_1, ↓reduceIte, pu_leT, pu_leF, pu_ltT, pu_ltF, pu_eqT, pu_eqF, pu_x1, pu_x2, pu_x3, pu_x4, pu_x5, pu_x6, pu_x7, pu_x8, Nat.zero_add, pu_m31I, pu_m31, pu_shlI, eq_self, Bool.false_eq_true, Bool.true_eq_false]
          exact Wp.some ⟨w2, rfl, rfl⟩
  · subst hw
    unfold f_X12_bestOne_12b f_X12_bestOne_79
    simp (disch := omega) only [pv_v, pv_b2, pv_b1, pv_x, pv_lit, pv_ofN, pu_chk, pu_cl, nI_add, pk_mul, nI_leI, nI_ltI, nI_eq, pu_nar0, pu_nar1, pu_narb, bI_0, bI_1, ↓reduceIte, pu_leT, pu_leF, pu_ltT, pu_ltF, pu_eqT, pu_eqF, pu_x1, pu_x2, pu_x3, pu_x4, pu_x5, pu_x6, pu_x7, pu_x8, Nat.zero_add, pu_m31I, pu_m31, pu_shlI, eq_self, Bool.false_eq_true, Bool.true_eq_false, e1]
    refine Wp.x ?_
    by_cases q : k = 0
    · rw [if_pos q]
      exact Wp.some ⟨by rw [if_pos q], hx⟩
    · rw [if_neg q]
      exact Wp.some ⟨by rw [if_neg q], hx⟩
end RASKC
