/-! pure part: what is asked, as calls, the rest (by wip/whole/pure/mk20c.py) -/
section ASKS3
variable {fd : Nat → Nat → Nat} {z z' : Zt} {o o' : Ot} {w w' w'' : am_S} {j : Nat}
theorem CI.fr0 (h : CI fd z o w) {a : Int32} (e : ix (fd 0 2) a = none) : f_X11_noFrame a w = some (nI 1, w) := by
  have h4 := h.wF.2.2.1
  have h1 := h.F.2.2.1
  unfold f_X11_noFrame f_X11_noFrame_22 f_X11_noFrame_27
  rcases Nat.eq_zero_or_pos (fd 0 0) with n0 | n0
  · simp (disch := omega) only [pv_v, pv_b2, pv_b1, pv_x, pv_lit, pv_ofN, pu_chk, pu_cl, nI_add, pk_mul, nI_leI, nI_ltI, nI_eq, pu_nar0, pu_nar1, pu_narb, bI_0, bI_1, ↓reduceIte, pu_leT, pu_leF, pu_ltT, pu_ltF, pu_eqT, pu_eqF, pu_x1, pu_x2, pu_x3, pu_x4, pu_x5, pu_x6, pu_x7, pu_x8, Nat.zero_add, pu_m31I, pu_m31, pu_shlI, eq_self, Bool.false_eq_true, Bool.true_eq_false, h.n0 n0]
  · rcases ix_lt e (by omega) with g | ⟨g1, g2, g3⟩
    · simp (disch := omega) only [pv_v, pv_b2, pv_b1, pv_x, pv_lit, pv_ofN, pu_chk, pu_cl, nI_add, pk_mul, nI_leI, nI_ltI, nI_eq, pu_nar0, pu_nar1, pu_narb, bI_0, bI_1, ↓reduceIte, pu_leT, pu_leF, pu_ltT, pu_ltF, pu_eqT, pu_eqF, pu_x1, pu_x2, pu_x3, pu_x4, pu_x5, pu_x6, pu_x7, pu_x8, Nat.zero_add, pu_m31I, pu_m31, pu_shlI, eq_self, Bool.false_eq_true, Bool.true_eq_false, h.n1 n0, g]
    · simp (disch := omega) only [pv_v, pv_b2, pv_b1, pv_x, pv_lit, pv_ofN, pu_chk, pu_cl, nI_add, pk_mul, nI_leI, nI_ltI, nI_eq, pu_nar0, pu_nar1, pu_narb, bI_0, bI_1, ↓reduceIte, pu_leT, pu_leF, pu_ltT, pu_ltF, pu_eqT, pu_eqF, pu_x1, pu_x2, pu_x3, pu_x4, pu_x5, pu_x6, pu_x7, pu_x8, Nat.zero_add, pu_m31I, pu_m31, pu_shlI, eq_self, Bool.false_eq_true, Bool.true_eq_false, h.n1 n0, g1, h1, g2]
theorem CI.fr1 (h : CI fd z o w) (n0 : 0 < (fd 0 0)) {f : Nat} (hf : f < (fd 0 2)) : f_X11_noFrame (nI f) w = some (nI 0, w) := by
  have h4 := h.wF.2.2.1
  have h1 := h.F.2.2.1
  unfold f_X11_noFrame f_X11_noFrame_27
  simp (disch := omega) only [pv_v, pv_b2, pv_b1, pv_x, pv_lit, pv_ofN, pu_chk, pu_cl, nI_add, pk_mul, nI_leI, nI_ltI, nI_eq, pu_nar0, pu_nar1, pu_narb, bI_0, bI_1, ↓reduceIte, pu_leT, pu_leF, pu_ltT, pu_ltF, pu_eqT, pu_eqF, pu_x1, pu_x2, pu_x3, pu_x4, pu_x5, pu_x6, pu_x7, pu_x8, Nat.zero_add, pu_m31I, pu_m31, pu_shlI, eq_self, Bool.false_eq_true, Bool.true_eq_false, h.n1 n0, h1]
theorem RI.frI (h : RI fd z o w) (a : Int32) : f_X12_in a (nI 0) (nI (fd 0 2) - nI 1) w = some (bI (ix (fd 0 2) a).isSome, w) := in_ix a (by have := h.wF.2.2.1; omega)
theorem RI.fr0 (h : RI fd z o w) {a : Int32} (e : ix (fd 0 2) a = none) : f_X12_in a (nI 0) (nI (fd 0 2) - nI 1) w = some (nI 0, w) := by rw [h.frI, e]; rfl
theorem RI.fr1 (h : RI fd z o w) {f : Nat} (hf : f < (fd 0 2)) : f_X12_in (nI f) (nI 0) (nI (fd 0 2) - nI 1) w = some (nI 1, w) := by
  have := h.wF.2.2.1
  rw [h.frI, ix_nI hf (by omega)]; rfl
theorem CI.s0 (h : CI fd z o w) {a : Int32} (e : ix ((fd 0 1) * (fd 0 2)) a = none) : f_X11_noSlot a w = some (nI 1, w) := by rw [c_noSlotI h.wF h.F.2.1 h.F.2.2.1, e]; rfl
theorem CI.s1 (h : CI fd z o w) {s : Nat} (hs : s < (fd 0 1) * (fd 0 2)) : f_X11_noSlot (nI s) w = some (nI 0, w) := by
  have := SF_le h.wF
  rw [c_noSlotI h.wF h.F.2.1 h.F.2.2.1, ix_nI hs (by omega)]; rfl
theorem RI.s0 (h : RI fd z o w) {a : Int32} (e : ix ((fd 0 1) * (fd 0 2)) a = none) : f_X12_isSlot a w = some (nI 0, w) := by rw [r_isSlotI h.wF h.F, e]; rfl
theorem RI.s1 (h : RI fd z o w) {s : Nat} (hs : s < (fd 0 1) * (fd 0 2)) : f_X12_isSlot (nI s) w = some (nI 1, w) := by
  have := SF_le h.wF
  rw [r_isSlotI h.wF h.F, ix_nI hs (by omega)]; rfl
theorem SF_n (hF : wF fd) {s : Nat} (hs : s < (fd 0 1) * (fd 0 2)) : 0 < (fd 0 0) := by
  rcases Nat.eq_zero_or_pos (fd 0 0) with n0 | n0
  · exfalso
    rw [(hF.2.2.2.2.2.2.2.1 n0).1, Nat.zero_mul] at hs
    omega
  · exact n0
theorem both_jam (a b c : Int32) : Both j fd z o (fun a b => a = b) (f_X11_jam a b c) (f_X12_jam a b c) := by
  intro w hc hr hb hnf
  have hF := hc.wF
  have h10 := hF.1
  have hSF := SF_le hF
  have h4 := hF.2.2.1
  have h12 := hF.2.1
  cases e : ix (fd 0 0) a with
  | none =>
    refine Both.val (-nI 1) rfl (fun w h => ?_) (fun w h => ?_) w hc hr hb hnf
    · unfold f_X11_jam f_X11_jam_26
      simp (disch := omega) only [pv_v, pv_b2, pv_b1, pv_x, pv_lit, pv_ofN, pu_chk, pu_cl, nI_add, pk_mul, nI_leI, nI_ltI, nI_eq, pu_nar0, pu_nar1, pu_narb, bI_0, bI_1, ↓reduceIte, pu_leT, pu_leF, pu_ltT, pu_ltF, pu_eqT, pu_eqF, pu_x1, pu_x2, pu_x3, pu_x4, pu_x5, pu_x6, pu_x7, pu_x8, Nat.zero_add, pu_m31I, pu_m31, pu_shlI, eq_self, Bool.false_eq_true, Bool.true_eq_false, h.u0 e]
    · unfold f_X12_jam f_X12_jam_34
      simp (disch := omega) only [pv_v, pv_b2, pv_b1, pv_x, pv_lit, pv_ofN, pu_chk, pu_cl, nI_add, pk_mul, nI_leI, nI_ltI, nI_eq, pu_nar0, pu_nar1, pu_narb, bI_0, bI_1, ↓reduceIte, pu_leT, pu_leF, pu_ltT, pu_ltF, pu_eqT, pu_eqF, pu_x1, pu_x2, pu_x3, pu_x4, pu_x5, pu_x6, pu_x7, pu_x8, Nat.zero_add, pu_m31I, pu_m31, pu_shlI, eq_self, Bool.false_eq_true, Bool.true_eq_false, h.u0 e]
  | some u =>
    obtain ⟨t1, t2, t3⟩ := ix_s e
    subst t2
    have n0 : 0 < (fd 0 0) := by omega
    cases e2 : ix (fd 0 2) b with
    | none =>
      refine Both.val (-nI 1) rfl (fun w h => ?_) (fun w h => ?_) w hc hr hb hnf
      · unfold f_X11_jam f_X11_jam_26
        simp (disch := omega) only [pv_v, pv_b2, pv_b1, pv_x, pv_lit, pv_ofN, pu_chk, pu_cl, nI_add, pk_mul, nI_leI, nI_ltI, nI_eq, pu_nar0, pu_nar1, pu_narb, bI_0, bI_1, ↓reduceIte, pu_leT, pu_leF, pu_ltT, pu_ltF, pu_eqT, pu_eqF, pu_x1, pu_x2, pu_x3, pu_x4, pu_x5, pu_x6, pu_x7, pu_x8, Nat.zero_add, pu_m31I, pu_m31, pu_shlI, eq_self, Bool.false_eq_true, Bool.true_eq_false, h.u1 t1, h.fr0 e2]
      · unfold f_X12_jam f_X12_jam_34
        simp (disch := omega) only [pv_v, pv_b2, pv_b1, pv_x, pv_lit, pv_ofN, pu_chk, pu_cl, nI_add, pk_mul, nI_leI, nI_ltI, nI_eq, pu_nar0, pu_nar1, pu_narb, bI_0, bI_1, ↓reduceIte, pu_leT, pu_leF, pu_ltT, pu_ltF, pu_eqT, pu_eqF, pu_x1, pu_x2, pu_x3, pu_x4, pu_x5, pu_x6, pu_x7, pu_x8, Nat.zero_add, pu_m31I, pu_m31, pu_shlI, eq_self, Bool.false_eq_true, Bool.true_eq_false, h.u1 t1, h.F.2.2.1, h.fr0 e2]
    | some f =>
      obtain ⟨f1, f2, f3⟩ := ix_s e2
      subst f2
      rcases rng c 0 100 (by omega) (by omega) with ⟨s, s1, s2, s3⟩ | ⟨s1, s2, s3⟩ | ⟨s1, s2, s3, s4, s5, s6, s7⟩
      · subst s3
        refine Both.ask (· = nI (pj (pu_kn fd (pu_o fd z.1) (z.1 2 0) (pu_u fd z.1) u) s (fd 0 1) (f * (fd 0 1)) 0 1000000000)) eq_2 (fun w h => ?_) (fun w h => (r_jam h.Q t1 f1 s2).mono (fun q hq => ⟨hq.1, hq.2.up (by decide)⟩)) w hc hr hb hnf
        obtain ⟨w1, e1, hW⟩ := h.look n0
        have hfS : f * (fd 0 1) + (fd 0 1) ≤ (fd 0 1) * (fd 0 2) := by
          have : (f + 1) * (fd 0 1) ≤ (fd 0 2) * (fd 0 1) := Nat.mul_le_mul_right _ f1
          rw [Nat.add_mul, Nat.one_mul, Nat.mul_comm (fd 0 2)] at this
          exact this
        obtain ⟨⟨v, w2⟩, e2, q1, q3⟩ := c_partsFrom U_lt t1 s2 (fd 0 1) 14 (f * (fd 0 1)) 0 1000000000 _ w1 (by omega) hfS (by decide) (by omega) rfl hW
        have q1 : v = lN (pj (pu_kn fd (pu_o fd z.1) (z.1 2 0) (pu_u fd z.1) u) s (fd 0 1) (f * (fd 0 1)) 0 1000000000) := q1
        have hp := pj_le (kn := pu_kn fd (pu_o fd z.1) (z.1 2 0) (pu_u fd z.1) u) (ch := s) (l := (fd 0 1)) (s := f * (fd 0 1)) (jm := 0) (parts := 1000000000) s2
        have e2 : f_X6_partsFrom 14 (nI (2 ^ u)) (nI s) (lN (2 ^ (f * (fd 0 1) + (fd 0 1)) - 2 ^ (f * (fd 0 1)))) (0 : Int64) (1000000000 : Int64) w1 = some (v, w2) := e2
        have hop := pw_open (S := (fd 0 1)) (a := f * (fd 0 1)) (by omega)
        refine ⟨(nI (pj (pu_kn fd (pu_o fd z.1) (z.1 2 0) (pu_u fd z.1) u) s (fd 0 1) (f * (fd 0 1)) 0 1000000000), w2), ?_, rfl, q3.e⟩
        unfold f_X11_jam f_X6_partsKnown
        simp (disch := omega) only [pv_v, pv_b2, pv_b1, pv_x, ↓pv_lit, pu_chk, pu_cl, nI_add, pk_mul, nI_leI, nI_ltI, nI_eq, ↓reduceIte, pu_leT, pu_leF, pu_ltT, pu_ltF, pu_eqT, pu_eqF, pu_x3, pu_m31I, pu_shlI, h.u1 t1, h.fr1 n0 f1, e1, hW.S, hop, e2, q1, lN_i]
      · refine Both.val (-nI 1) rfl (fun w h => ?_) (fun w h => ?_) w hc hr hb hnf
        · unfold f_X11_jam f_X11_jam_26
          simp (disch := omega) only [pv_v, pv_b2, pv_b1, pv_x, pv_lit, pv_ofN, pu_chk, pu_cl, nI_add, pk_mul, nI_leI, nI_ltI, nI_eq, pu_nar0, pu_nar1, pu_narb, bI_0, bI_1, ↓reduceIte, pu_leT, pu_leF, pu_ltT, pu_ltF, pu_eqT, pu_eqF, pu_x1, pu_x2, pu_x3, pu_x4, pu_x5, pu_x6, pu_x7, pu_x8, Nat.zero_add, pu_m31I, pu_m31, pu_shlI, eq_self, Bool.false_eq_true, Bool.true_eq_false, h.u1 t1, h.fr1 n0 f1, s1]
        · unfold f_X12_jam f_X12_jam_34
          simp (disch := omega) only [pv_v, pv_b2, pv_b1, pv_x, pv_lit, pv_ofN, pu_chk, pu_cl, nI_add, pk_mul, nI_leI, nI_ltI, nI_eq, pu_nar0, pu_nar1, pu_narb, bI_0, bI_1, ↓reduceIte, pu_leT, pu_leF, pu_ltT, pu_ltF, pu_eqT, pu_eqF, pu_x1, pu_x2, pu_x3, pu_x4, pu_x5, pu_x6, pu_x7, pu_x8, Nat.zero_add, pu_m31I, pu_m31, pu_shlI, eq_self, Bool.false_eq_true, Bool.true_eq_false, h.u1 t1, h.F.2.2.1, h.fr1 f1, r_inL s1]
      · refine Both.val (-nI 1) rfl (fun w h => ?_) (fun w h => ?_) w hc hr hb hnf
        · unfold f_X11_jam f_X11_jam_26
          simp (disch := omega) only [pv_v, pv_b2, pv_b1, pv_x, pv_lit, pv_ofN, pu_chk, pu_cl, nI_add, pk_mul, nI_leI, nI_ltI, nI_eq, pu_nar0, pu_nar1, pu_narb, bI_0, bI_1, ↓reduceIte, pu_leT, pu_leF, pu_ltT, pu_ltF, pu_eqT, pu_eqF, pu_x1, pu_x2, pu_x3, pu_x4, pu_x5, pu_x6, pu_x7, pu_x8, Nat.zero_add, pu_m31I, pu_m31, pu_shlI, eq_self, Bool.false_eq_true, Bool.true_eq_false, h.u1 t1, h.fr1 n0 f1, s1, s3, s4]
        · unfold f_X12_jam f_X12_jam_34
          simp (disch := omega) only [pv_v, pv_b2, pv_b1, pv_x, pv_lit, pv_ofN, pu_chk, pu_cl, nI_add, pk_mul, nI_leI, nI_ltI, nI_eq, pu_nar0, pu_nar1, pu_narb, bI_0, bI_1, ↓reduceIte, pu_leT, pu_leF, pu_ltT, pu_ltF, pu_eqT, pu_eqF, pu_x1, pu_x2, pu_x3, pu_x4, pu_x5, pu_x6, pu_x7, pu_x8, Nat.zero_add, pu_m31I, pu_m31, pu_shlI, eq_self, Bool.false_eq_true, Bool.true_eq_false, h.u1 t1, h.F.2.2.1, h.fr1 f1, r_inH s1 s4]
theorem pu_K0 {st : Nat → Nat → Nat} {s : Nat} : pu_K fd st 0 s = pu_k fd (st 2 0) (pu_o fd st s &&& pu_u fd st) := by
  unfold pu_K
  rw [Nat.zero_testBit]; rfl
theorem open_c (hF : wF fd) (hS : wS fd z.1) (a b : Int32) : (∃ u s, u < (fd 0 0) ∧ s < (fd 0 1) * (fd 0 2) ∧ a = nI u ∧ b = nI s ∧ z.1 0 u = 0 ∧ (z.1 1 u).testBit s = true ∧ (∀ w, CI fd z o w → f_X11_isOpenCopy a b w = some (nI 1, w)) ∧ (∀ w, RI fd z o w → f_X12_isAsked a b w = some (nI 1, w))) ∨ ((∀ w, CI fd z o w → f_X11_isOpenCopy a b w = some (nI 0, w)) ∧ (∀ w, RI fd z o w → f_X12_isAsked a b w = some (nI 0, w))) := by
  have h10 := hF.1
  have hSF := SF_le hF
  cases e : ix (fd 0 0) a with
  | none =>
    right
    refine ⟨fun w h => ?_, fun w h => ?_⟩
    · unfold f_X11_isOpenCopy f_X11_isOpenCopy_44 f_X11_isOpenCopy_45
      simp (disch := omega) only [pv_v, pv_b2, pv_b1, pv_x, pv_lit, pv_ofN, pu_chk, pu_cl, nI_add, pk_mul, nI_leI, nI_ltI, nI_eq, pu_nar0, pu_nar1, pu_narb, bI_0, bI_1, ↓reduceIte, pu_leT, pu_leF, pu_ltT, pu_ltF, pu_eqT, pu_eqF, pu_x1, pu_x2, pu_x3, pu_x4, pu_x5, pu_x6, pu_x7, pu_x8, Nat.zero_add, pu_m31I, pu_m31, pu_shlI, eq_self, Bool.false_eq_true, Bool.true_eq_false, h.u0 e]
    · unfold f_X12_isAsked f_X12_isAsked_37 f_X12_isAsked_38
      simp (disch := omega) only [pv_v, pv_b2, pv_b1, pv_x, pv_lit, pv_ofN, pu_chk, pu_cl, nI_add, pk_mul, nI_leI, nI_ltI, nI_eq, pu_nar0, pu_nar1, pu_narb, bI_0, bI_1, ↓reduceIte, pu_leT, pu_leF, pu_ltT, pu_ltF, pu_eqT, pu_eqF, pu_x1, pu_x2, pu_x3, pu_x4, pu_x5, pu_x6, pu_x7, pu_x8, Nat.zero_add, pu_m31I, pu_m31, pu_shlI, eq_self, Bool.false_eq_true, Bool.true_eq_false, h.u0 e]
  | some u =>
    obtain ⟨t1, t2, t3⟩ := ix_s e
    subst t2
    cases e2 : ix ((fd 0 1) * (fd 0 2)) b with
    | none =>
      right
      refine ⟨fun w h => ?_, fun w h => ?_⟩
      · unfold f_X11_isOpenCopy f_X11_isOpenCopy_44 f_X11_isOpenCopy_45
        simp (disch := omega) only [pv_v, pv_b2, pv_b1, pv_x, pv_lit, pv_ofN, pu_chk, pu_cl, nI_add, pk_mul, nI_leI, nI_ltI, nI_eq, pu_nar0, pu_nar1, pu_narb, bI_0, bI_1, ↓reduceIte, pu_leT, pu_leF, pu_ltT, pu_ltF, pu_eqT, pu_eqF, pu_x1, pu_x2, pu_x3, pu_x4, pu_x5, pu_x6, pu_x7, pu_x8, Nat.zero_add, pu_m31I, pu_m31, pu_shlI, eq_self, Bool.false_eq_true, Bool.true_eq_false, h.u1 t1, h.s0 e2]
      · unfold f_X12_isAsked f_X12_isAsked_37 f_X12_isAsked_38
        simp (disch := omega) only [pv_v, pv_b2, pv_b1, pv_x, pv_lit, pv_ofN, pu_chk, pu_cl, nI_add, pk_mul, nI_leI, nI_ltI, nI_eq, pu_nar0, pu_nar1, pu_narb, bI_0, bI_1, ↓reduceIte, pu_leT, pu_leF, pu_ltT, pu_ltF, pu_eqT, pu_eqF, pu_x1, pu_x2, pu_x3, pu_x4, pu_x5, pu_x6, pu_x7, pu_x8, Nat.zero_add, pu_m31I, pu_m31, pu_shlI, eq_self, Bool.false_eq_true, Bool.true_eq_false, h.u1 t1, h.s0 e2]
    | some s =>
      obtain ⟨s1, s2, s3⟩ := ix_s e2
      subst s2
      have hw := hS.2.1 u
      have g1 : ∀ w, CI fd z o w → w.1 24 u = nI (z.1 0 u) := fun w h => h.S.1 u (by omega)
      have g2 : ∀ w, CI fd z o w → f_X9_hasCopy 23 (nI u) (nI s) w = some (bI ((z.1 1 u).testBit s), w) := fun w h => c_hasCopy hF hS h.S.2.1 (by omega) (by omega)
      have g3 : ∀ w, RI fd z o w → f_X12_isUnknown (nI u) w = some (bI (z.1 0 u == 0), w) := fun w h => r_isUnknown h.Q (by omega)
      have g4 : ∀ w, RI fd z o w → f_X12_hasCopy (nI u) (nI s) w = some (bI ((z.1 1 u).testBit s), w) := fun w h => r_hasCopy h.Q (by omega) (by omega)
      by_cases k0 : z.1 0 u = 0
      · rw [k0] at g1 g3
        cases eb : (z.1 1 u).testBit s with
        | true =>
          left
          rw [eb] at g2 g4
          refine ⟨u, s, t1, s1, rfl, rfl, k0, eb, fun w h => ?_, fun w h => ?_⟩
          · unfold f_X11_isOpenCopy f_X11_isOpenCopy_45
            simp (disch := omega) only [pv_v, pv_b2, pv_b1, pv_x, pv_lit, pv_ofN, pu_chk, pu_cl, nI_add, pk_mul, nI_leI, nI_ltI, nI_eq, pu_nar0, pu_nar1, pu_narb, bI_0, bI_1, ↓reduceIte, pu_leT, pu_leF, pu_ltT, pu_ltF, pu_eqT, pu_eqF, pu_x1, pu_x2, pu_x3, pu_x4, pu_x5, pu_x6, pu_x7, pu_x8, Nat.zero_add, pu_m31I, pu_m31, pu_shlI, eq_self, Bool.false_eq_true, Bool.true_eq_false, h.u1 t1, h.s1 s1, g2 w h, g1 w h]
          · unfold f_X12_isAsked f_X12_isAsked_38
            simp (disch := omega) only [pv_v, pv_b2, pv_b1, pv_x, pv_lit, pv_ofN, pu_chk, pu_cl, nI_add, pk_mul, nI_leI, nI_ltI, nI_eq, pu_nar0, pu_nar1, pu_narb, bI_0, bI_1, ↓reduceIte, pu_leT, pu_leF, pu_ltT, pu_ltF, pu_eqT, pu_eqF, pu_x1, pu_x2, pu_x3, pu_x4, pu_x5, pu_x6, pu_x7, pu_x8, Nat.zero_add, pu_m31I, pu_m31, pu_shlI, eq_self, Bool.false_eq_true, Bool.true_eq_false, h.u1 t1, h.s1 s1, g3 w h, BEq.rfl, g4 w h]
        | false =>
          right
          rw [eb] at g2 g4
          refine ⟨fun w h => ?_, fun w h => ?_⟩
          · unfold f_X11_isOpenCopy f_X11_isOpenCopy_44 f_X11_isOpenCopy_45
            simp (disch := omega) only [pv_v, pv_b2, pv_b1, pv_x, pv_lit, pv_ofN, pu_chk, pu_cl, nI_add, pk_mul, nI_leI, nI_ltI, nI_eq, pu_nar0, pu_nar1, pu_narb, bI_0, bI_1, ↓reduceIte, pu_leT, pu_leF, pu_ltT, pu_ltF, pu_eqT, pu_eqF, pu_x1, pu_x2, pu_x3, pu_x4, pu_x5, pu_x6, pu_x7, pu_x8, Nat.zero_add, pu_m31I, pu_m31, pu_shlI, eq_self, Bool.false_eq_true, Bool.true_eq_false, h.u1 t1, h.s1 s1, g2 w h]
          · unfold f_X12_isAsked f_X12_isAsked_37 f_X12_isAsked_38
            simp (disch := omega) only [pv_v, pv_b2, pv_b1, pv_x, pv_lit, pv_ofN, pu_chk, pu_cl, nI_add, pk_mul, nI_leI, nI_ltI, nI_eq, pu_nar0, pu_nar1, pu_narb, bI_0, bI_1, ↓reduceIte, pu_leT, pu_leF, pu_ltT, pu_ltF, pu_eqT, pu_eqF, pu_x1, pu_x2, pu_x3, pu_x4, pu_x5, pu_x6, pu_x7, pu_x8, Nat.zero_add, pu_m31I, pu_m31, pu_shlI, eq_self, Bool.false_eq_true, Bool.true_eq_false, h.u1 t1, h.s1 s1, g3 w h, BEq.rfl, g4 w h]
      · right
        rw [beq_eq_false_iff_ne.mpr k0] at g3
        refine ⟨fun w h => ?_, fun w h => ?_⟩
        · unfold f_X11_isOpenCopy f_X11_isOpenCopy_44 f_X11_isOpenCopy_45
          cases eb : (z.1 1 u).testBit s with
          | true =>
            rw [eb] at g2
            simp (disch := omega) only [pv_v, pv_b2, pv_b1, pv_x, pv_lit, pv_ofN, pu_chk, pu_cl, nI_add, pk_mul, nI_leI, nI_ltI, nI_eq, pu_nar0, pu_nar1, pu_narb, bI_0, bI_1, ↓reduceIte, pu_leT, pu_leF, pu_ltT, pu_ltF, pu_eqT, pu_eqF, pu_x1, pu_x2, pu_x3, pu_x4, pu_x5, pu_x6, pu_x7, pu_x8, Nat.zero_add, pu_m31I, pu_m31, pu_shlI, eq_self, Bool.false_eq_true, Bool.true_eq_false, h.u1 t1, h.s1 s1, g2 w h, g1 w h]
          | false =>
            rw [eb] at g2
            simp (disch := omega) only [pv_v, pv_b2, pv_b1, pv_x, pv_lit, pv_ofN, pu_chk, pu_cl, nI_add, pk_mul, nI_leI, nI_ltI, nI_eq, pu_nar0, pu_nar1, pu_narb, bI_0, bI_1, ↓reduceIte, pu_leT, pu_leF, pu_ltT, pu_ltF, pu_eqT, pu_eqF, pu_x1, pu_x2, pu_x3, pu_x4, pu_x5, pu_x6, pu_x7, pu_x8, Nat.zero_add, pu_m31I, pu_m31, pu_shlI, eq_self, Bool.false_eq_true, Bool.true_eq_false, h.u1 t1, h.s1 s1, g2 w h]
        · unfold f_X12_isAsked f_X12_isAsked_37 f_X12_isAsked_38
          simp (disch := omega) only [pv_v, pv_b2, pv_b1, pv_x, pv_lit, pv_ofN, pu_chk, pu_cl, nI_add, pk_mul, nI_leI, nI_ltI, nI_eq, pu_nar0, pu_nar1, pu_narb, bI_0, bI_1, ↓reduceIte, pu_leT, pu_leF, pu_ltT, pu_ltF, pu_eqT, pu_eqF, pu_x1, pu_x2, pu_x3, pu_x4, pu_x5, pu_x6, pu_x7, pu_x8, Nat.zero_add, pu_m31I, pu_m31, pu_shlI, eq_self, Bool.false_eq_true, Bool.true_eq_false, h.u1 t1, h.s1 s1, g3 w h]
theorem both_clear (a b : Int32) : Both j fd z o (fun a b => a = b) (f_X11_clear a b) (f_X12_clear a b) := by
  intro w hc hr hb hnf
  have hF := hc.wF
  have h10 := hF.1
  have hSF := SF_le hF
  rcases open_c (o := o) hF hc.wS a b with ⟨u, s, u1, s1, rfl, rfl, k0, kb, g1, g2⟩ | ⟨g1, g2⟩
  · have n0 : 0 < (fd 0 0) := by omega
    refine Both.ask (· = bI ((pu_k fd (z.1 2 0) (pu_o fd z.1 s &&& pu_u fd z.1)).testBit u)) eq_2 (fun w h => ?_) (fun w h => ?_) w hc hr hb hnf
    · obtain ⟨w1, e1, hW⟩ := h.look n0
      obtain ⟨⟨v, w2⟩, e2, q1, q3⟩ := c_clearIn hW (X := pu_u fd z.1) s1 U_lt
      have q1 : v = nI (pu_k fd (z.1 2 0) (pu_o fd z.1 s &&& pu_u fd z.1)) := q1
      have hk : pu_k fd (z.1 2 0) (pu_o fd z.1 s &&& pu_u fd z.1) < 1024 := pu_S_n10 _ h10
      refine ⟨(bI ((pu_k fd (z.1 2 0) (pu_o fd z.1 s &&& pu_u fd z.1)).testBit u), w2), ?_, rfl, q3.e⟩
      unfold f_X11_clear
      simp (disch := omega) only [pv_v, pv_b2, pv_b1, pv_x, pv_lit, pv_ofN, pu_chk, pu_cl, nI_add, pk_mul, nI_leI, nI_ltI, nI_eq, pu_nar0, pu_nar1, pu_narb, bI_0, bI_1, ↓reduceIte, pu_leT, pu_leF, pu_ltT, pu_ltF, pu_eqT, pu_eqF, pu_x1, pu_x2, pu_x3, pu_x4, pu_x5, pu_x6, pu_x7, pu_x8, Nat.zero_add, pu_m31I, pu_m31, pu_shlI, eq_self, Bool.false_eq_true, Bool.true_eq_false, g1 w h, e1, hW.u, e2, q1, pu_shrI, pu_and, pu_bitN]
    · have e2 := r_isClear h.Q u1 (s := s) (by omega)
      rw [pu_K0] at e2
      refine ⟨(bI ((pu_k fd (z.1 2 0) (pu_o fd z.1 s &&& pu_u fd z.1)).testBit u), w), ?_, rfl, eqx.rf⟩
      unfold f_X12_clear f_X12_clear_27
      cases eb : (pu_k fd (z.1 2 0) (pu_o fd z.1 s &&& pu_u fd z.1)).testBit u with
      | true =>
        rw [eb] at e2
        simp (disch := omega) only [pv_v, pv_b2, pv_b1, pv_x, pv_lit, pv_ofN, pu_chk, pu_cl, nI_add, pk_mul, nI_leI, nI_ltI, nI_eq, pu_nar0, pu_nar1, pu_narb, bI_0, bI_1, ↓reduceIte, pu_leT, pu_leF, pu_ltT, pu_ltF, pu_eqT, pu_eqF, pu_x1, pu_x2, pu_x3, pu_x4, pu_x5, pu_x6, pu_x7, pu_x8, Nat.zero_add, pu_m31I, pu_m31, pu_shlI, eq_self, Bool.false_eq_true, Bool.true_eq_false, g2 w h, e2]
        rfl
      | false =>
        rw [eb] at e2
        simp (disch := omega) only [pv_v, pv_b2, pv_b1, pv_x, pv_lit, pv_ofN, pu_chk, pu_cl, nI_add, pk_mul, nI_leI, nI_ltI, nI_eq, pu_nar0, pu_nar1, pu_narb, bI_0, bI_1, ↓reduceIte, pu_leT, pu_leF, pu_ltT, pu_ltF, pu_eqT, pu_eqF, pu_x1, pu_x2, pu_x3, pu_x4, pu_x5, pu_x6, pu_x7, pu_x8, Nat.zero_add, pu_m31I, pu_m31, pu_shlI, eq_self, Bool.false_eq_true, Bool.true_eq_false, g2 w h, e2]
        rfl
  · refine Both.val (-nI 1) rfl (fun w h => ?_) (fun w h => ?_) w hc hr hb hnf
    · unfold f_X11_clear
      simp (disch := omega) only [pv_v, pv_b2, pv_b1, pv_x, pv_lit, pv_ofN, pu_chk, pu_cl, nI_add, pk_mul, nI_leI, nI_ltI, nI_eq, pu_nar0, pu_nar1, pu_narb, bI_0, bI_1, ↓reduceIte, pu_leT, pu_leF, pu_ltT, pu_ltF, pu_eqT, pu_eqF, pu_x1, pu_x2, pu_x3, pu_x4, pu_x5, pu_x6, pu_x7, pu_x8, Nat.zero_add, pu_m31I, pu_m31, pu_shlI, eq_self, Bool.false_eq_true, Bool.true_eq_false, g1 w h]
    · unfold f_X12_clear f_X12_clear_27
      simp (disch := omega) only [pv_v, pv_b2, pv_b1, pv_x, pv_lit, pv_ofN, pu_chk, pu_cl, nI_add, pk_mul, nI_leI, nI_ltI, nI_eq, pu_nar0, pu_nar1, pu_narb, bI_0, bI_1, ↓reduceIte, pu_leT, pu_leF, pu_ltT, pu_ltF, pu_eqT, pu_eqF, pu_x1, pu_x2, pu_x3, pu_x4, pu_x5, pu_x6, pu_x7, pu_x8, Nat.zero_add, pu_m31I, pu_m31, pu_shlI, eq_self, Bool.false_eq_true, Bool.true_eq_false, g2 w h]
theorem both_slot (a b : Int32) : Both j fd z o (fun a b => a = b) (f_X11_slot a b) (f_X12_slot a b) := by
  intro w hc hr hb hnf
  have hF := hc.wF
  have h10 := hF.1
  have hSF := SF_le hF
  cases e : ix ((fd 0 1) * (fd 0 2)) a with
  | none =>
    refine Both.val (-nI 1000000) rfl (fun w h => ?_) (fun w h => ?_) w hc hr hb hnf
    · unfold f_X11_slot f_X11_slot_15
      rcases Nat.eq_zero_or_pos (fd 0 0) with n0 | n0
      · simp (disch := omega) only [pv_v, pv_b2, pv_b1, pv_x, pv_lit, pv_ofN, pu_chk, pu_cl, nI_add, pk_mul, nI_leI, nI_ltI, nI_eq, pu_nar0, pu_nar1, pu_narb, bI_0, bI_1, ↓reduceIte, pu_leT, pu_leF, pu_ltT, pu_ltF, pu_eqT, pu_eqF, pu_x1, pu_x2, pu_x3, pu_x4, pu_x5, pu_x6, pu_x7, pu_x8, Nat.zero_add, pu_m31I, pu_m31, pu_shlI, eq_self, Bool.false_eq_true, Bool.true_eq_false, h.n0 n0]
      · simp (disch := omega) only [pv_v, pv_b2, pv_b1, pv_x, pv_lit, pv_ofN, pu_chk, pu_cl, nI_add, pk_mul, nI_leI, nI_ltI, nI_eq, pu_nar0, pu_nar1, pu_narb, bI_0, bI_1, ↓reduceIte, pu_leT, pu_leF, pu_ltT, pu_ltF, pu_eqT, pu_eqF, pu_x1, pu_x2, pu_x3, pu_x4, pu_x5, pu_x6, pu_x7, pu_x8, Nat.zero_add, pu_m31I, pu_m31, pu_shlI, eq_self, Bool.false_eq_true, Bool.true_eq_false, h.n1 n0, h.s0 e]
    · unfold f_X12_slot f_X12_slot_17
      simp (disch := omega) only [pv_v, pv_b2, pv_b1, pv_x, pv_lit, pv_ofN, pu_chk, pu_cl, nI_add, pk_mul, nI_leI, nI_ltI, nI_eq, pu_nar0, pu_nar1, pu_narb, bI_0, bI_1, ↓reduceIte, pu_leT, pu_leF, pu_ltT, pu_ltF, pu_eqT, pu_eqF, pu_x1, pu_x2, pu_x3, pu_x4, pu_x5, pu_x6, pu_x7, pu_x8, Nat.zero_add, pu_m31I, pu_m31, pu_shlI, eq_self, Bool.false_eq_true, Bool.true_eq_false, h.s0 e]
  | some s =>
    obtain ⟨s1, s2, s3⟩ := ix_s e
    subst s2
    have n0 := SF_n hF s1
    have hk : pu_o fd z.1 s < 1024 := pu_S_n10 _ h10
    have hk2 : pu_o fd z.1 s &&& pu_u fd z.1 < 1024 := Nat.lt_of_le_of_lt Nat.and_le_left hk
    rcases rng b 0 3 (by omega) (by omega) with ⟨t, t1, t2, t3⟩ | ⟨t1, t2, t3⟩ | ⟨t1, t2, t3, t4, t5, t6, t7⟩
    · subst t3
      refine Both.ask (· = nI (if t = 0 then cn (pu_o fd z.1 s) else if t = 1 then cn (pu_o fd z.1 s &&& pu_u fd z.1) else if t = 2 then pu_o fd z.1 s &&& pu_u fd z.1 else pu_k fd (z.1 2 0) (pu_o fd z.1 s &&& pu_u fd z.1))) eq_2 (fun w h => ?_) (fun w h => ?_) w hc hr hb hnf
      · obtain ⟨w1, e1, hW⟩ := h.look n0
        have o1 := hW.o s s1
        have o2 := hW.u
        rcases (show t = 0 ∨ t = 1 ∨ t = 2 ∨ t = 3 by omega) with e | e | e | e <;> subst e
        · refine ⟨(nI (cn (pu_o fd z.1 s)), w1), ?_, rfl, hW.e⟩
          unfold f_X11_slot
          simp (disch := omega) only [pv_v, pv_b2, pv_b1, pv_x, pv_lit, pv_ofN, pu_chk, pu_cl, nI_add, pk_mul, nI_leI, nI_ltI, nI_eq, pu_nar0, pu_nar1, pu_narb, bI_0, bI_1, ↓reduceIte, pu_leT, pu_leF, pu_ltT, pu_ltF, pu_eqT, pu_eqF, pu_x1, pu_x2, pu_x3, pu_x4, pu_x5, pu_x6, pu_x7, pu_x8, Nat.zero_add, pu_m31I, pu_m31, pu_shlI, eq_self, Bool.false_eq_true, Bool.true_eq_false, h.n1 n0, h.s1 s1, e1, o1, o2, c_bitCount w1 hk]
        · refine ⟨(nI (cn (pu_o fd z.1 s &&& pu_u fd z.1)), w1), ?_, rfl, hW.e⟩
          unfold f_X11_slot
          simp (disch := omega) only [pv_v, pv_b2, pv_b1, pv_x, pv_lit, pv_ofN, pu_chk, pu_cl, nI_add, pk_mul, nI_leI, nI_ltI, nI_eq, pu_nar0, pu_nar1, pu_narb, bI_0, bI_1, ↓reduceIte, pu_leT, pu_leF, pu_ltT, pu_ltF, pu_eqT, pu_eqF, pu_x1, pu_x2, pu_x3, pu_x4, pu_x5, pu_x6, pu_x7, pu_x8, Nat.zero_add, pu_m31I, pu_m31, pu_shlI, eq_self, Bool.false_eq_true, Bool.true_eq_false, h.n1 n0, h.s1 s1, e1, o1, o2, pu_and, c_bitCount w1 hk2]
        · refine ⟨(nI (pu_o fd z.1 s &&& pu_u fd z.1), w1), ?_, rfl, hW.e⟩
          unfold f_X11_slot
          simp (disch := omega) only [pv_v, pv_b2, pv_b1, pv_x, pv_lit, pv_ofN, pu_chk, pu_cl, nI_add, pk_mul, nI_leI, nI_ltI, nI_eq, pu_nar0, pu_nar1, pu_narb, bI_0, bI_1, ↓reduceIte, pu_leT, pu_leF, pu_ltT, pu_ltF, pu_eqT, pu_eqF, pu_x1, pu_x2, pu_x3, pu_x4, pu_x5, pu_x6, pu_x7, pu_x8, Nat.zero_add, pu_m31I, pu_m31, pu_shlI, eq_self, Bool.false_eq_true, Bool.true_eq_false, h.n1 n0, h.s1 s1, e1, o1, o2, pu_and]
        · obtain ⟨⟨v, w2⟩, e2, q1, q3⟩ := c_clearIn hW (X := pu_u fd z.1) s1 U_lt
          refine ⟨(v, w2), ?_, q1, q3.e⟩
          unfold f_X11_slot
          simp (disch := omega) only [pv_v, pv_b2, pv_b1, pv_x, pv_lit, pv_ofN, pu_chk, pu_cl, nI_add, pk_mul, nI_leI, nI_ltI, nI_eq, pu_nar0, pu_nar1, pu_narb, bI_0, bI_1, ↓reduceIte, pu_leT, pu_leF, pu_ltT, pu_ltF, pu_eqT, pu_eqF, pu_x1, pu_x2, pu_x3, pu_x4, pu_x5, pu_x6, pu_x7, pu_x8, Nat.zero_add, pu_m31I, pu_m31, pu_shlI, eq_self, Bool.false_eq_true, Bool.true_eq_false, h.n1 n0, h.s1 s1, e1, o1, o2, e2]
      · have x1 := r_copiesIn h.Q (s := s) (by omega)
        have x2 := r_unknownIn h.Q (s := s) (by omega)
        have x3 := r_clearIn h.Q (s := s) (by omega)
        rw [pu_K0] at x3
        rcases (show t = 0 ∨ t = 1 ∨ t = 2 ∨ t = 3 by omega) with e | e | e | e <;> subst e
        · refine ⟨(nI (cn (pu_o fd z.1 s)), w), ?_, rfl, eqx.rf⟩
          unfold f_X12_slot f_X12_slot_67
          simp (disch := omega) only [pv_v, pv_b2, pv_b1, pv_x, pv_lit, pv_ofN, pu_chk, pu_cl, nI_add, pk_mul, nI_leI, nI_ltI, nI_eq, pu_nar0, pu_nar1, pu_narb, bI_0, bI_1, ↓reduceIte, pu_leT, pu_leF, pu_ltT, pu_ltF, pu_eqT, pu_eqF, pu_x1, pu_x2, pu_x3, pu_x4, pu_x5, pu_x6, pu_x7, pu_x8, Nat.zero_add, pu_m31I, pu_m31, pu_shlI, eq_self, Bool.false_eq_true, Bool.true_eq_false, h.s1 s1, r_inY, x1]
        · refine ⟨(nI (cn (pu_o fd z.1 s &&& pu_u fd z.1)), w), ?_, rfl, eqx.rf⟩
          unfold f_X12_slot f_X12_slot_67
          simp (disch := omega) only [pv_v, pv_b2, pv_b1, pv_x, pv_lit, pv_ofN, pu_chk, pu_cl, nI_add, pk_mul, nI_leI, nI_ltI, nI_eq, pu_nar0, pu_nar1, pu_narb, bI_0, bI_1, ↓reduceIte, pu_leT, pu_leF, pu_ltT, pu_ltF, pu_eqT, pu_eqF, pu_x1, pu_x2, pu_x3, pu_x4, pu_x5, pu_x6, pu_x7, pu_x8, Nat.zero_add, pu_m31I, pu_m31, pu_shlI, eq_self, Bool.false_eq_true, Bool.true_eq_false, h.s1 s1, r_inY, x2, r_bitsc hk2]
        · refine ⟨(nI (pu_o fd z.1 s &&& pu_u fd z.1), w), ?_, rfl, eqx.rf⟩
          unfold f_X12_slot f_X12_slot_67
          simp (disch := omega) only [pv_v, pv_b2, pv_b1, pv_x, pv_lit, pv_ofN, pu_chk, pu_cl, nI_add, pk_mul, nI_leI, nI_ltI, nI_eq, pu_nar0, pu_nar1, pu_narb, bI_0, bI_1, ↓reduceIte, pu_leT, pu_leF, pu_ltT, pu_ltF, pu_eqT, pu_eqF, pu_x1, pu_x2, pu_x3, pu_x4, pu_x5, pu_x6, pu_x7, pu_x8, Nat.zero_add, pu_m31I, pu_m31, pu_shlI, eq_self, Bool.false_eq_true, Bool.true_eq_false, h.s1 s1, r_inY, x2]
        · refine ⟨(nI (pu_k fd (z.1 2 0) (pu_o fd z.1 s &&& pu_u fd z.1)), w), ?_, rfl, eqx.rf⟩
          unfold f_X12_slot f_X12_slot_67
          simp (disch := omega) only [pv_v, pv_b2, pv_b1, pv_x, pv_lit, pv_ofN, pu_chk, pu_cl, nI_add, pk_mul, nI_leI, nI_ltI, nI_eq, pu_nar0, pu_nar1, pu_narb, bI_0, bI_1, ↓reduceIte, pu_leT, pu_leF, pu_ltT, pu_ltF, pu_eqT, pu_eqF, pu_x1, pu_x2, pu_x3, pu_x4, pu_x5, pu_x6, pu_x7, pu_x8, Nat.zero_add, pu_m31I, pu_m31, pu_shlI, eq_self, Bool.false_eq_true, Bool.true_eq_false, h.s1 s1, r_inY, x3]
    · refine Both.ask (· = -nI 1000000) eq_2 (fun w h => ?_) (fun w h => ⟨(-nI 1000000, w), ?_, rfl, eqx.rf⟩) w hc hr hb hnf
      · obtain ⟨w1, e1, hW⟩ := h.look n0
        refine ⟨(-nI 1000000, w1), ?_, rfl, hW.e⟩
        unfold f_X11_slot
        simp (disch := omega) only [pv_v, pv_b2, pv_b1, pv_x, pv_lit, pv_ofN, pu_chk, pu_cl, nI_add, pk_mul, nI_leI, nI_ltI, nI_eq, pu_nar0, pu_nar1, pu_narb, bI_0, bI_1, ↓reduceIte, pu_leT, pu_leF, pu_ltT, pu_ltF, pu_eqT, pu_eqF, pu_x1, pu_x2, pu_x3, pu_x4, pu_x5, pu_x6, pu_x7, pu_x8, Nat.zero_add, pu_m31I, pu_m31, pu_shlI, eq_self, Bool.false_eq_true, Bool.true_eq_false, h.n1 n0, h.s1 s1, e1, t3]
      · unfold f_X12_slot f_X12_slot_17
        simp (disch := omega) only [pv_v, pv_b2, pv_b1, pv_x, pv_lit, pv_ofN, pu_chk, pu_cl, nI_add, pk_mul, nI_leI, nI_ltI, nI_eq, pu_nar0, pu_nar1, pu_narb, bI_0, bI_1, ↓reduceIte, pu_leT, pu_leF, pu_ltT, pu_ltF, pu_eqT, pu_eqF, pu_x1, pu_x2, pu_x3, pu_x4, pu_x5, pu_x6, pu_x7, pu_x8, Nat.zero_add, pu_m31I, pu_m31, pu_shlI, eq_self, Bool.false_eq_true, Bool.true_eq_false, h.s1 s1, r_inL t1]
    · refine Both.ask (· = -nI 1000000) eq_2 (fun w h => ?_) (fun w h => ⟨(-nI 1000000, w), ?_, rfl, eqx.rf⟩) w hc hr hb hnf
      · obtain ⟨w1, e1, hW⟩ := h.look n0
        refine ⟨(-nI 1000000, w1), ?_, rfl, hW.e⟩
        unfold f_X11_slot
        simp (disch := omega) only [pv_v, pv_b2, pv_b1, pv_x, pv_lit, pv_ofN, pu_chk, pu_cl, nI_add, pk_mul, nI_leI, nI_ltI, nI_eq, pu_nar0, pu_nar1, pu_narb, bI_0, bI_1, ↓reduceIte, pu_leT, pu_leF, pu_ltT, pu_ltF, pu_eqT, pu_eqF, pu_x1, pu_x2, pu_x3, pu_x4, pu_x5, pu_x6, pu_x7, pu_x8, Nat.zero_add, pu_m31I, pu_m31, pu_shlI, eq_self, Bool.false_eq_true, Bool.true_eq_false, h.n1 n0, h.s1 s1, e1, t7]
      · unfold f_X12_slot f_X12_slot_17
        simp (disch := omega) only [pv_v, pv_b2, pv_b1, pv_x, pv_lit, pv_ofN, pu_chk, pu_cl, nI_add, pk_mul, nI_leI, nI_ltI, nI_eq, pu_nar0, pu_nar1, pu_narb, bI_0, bI_1, ↓reduceIte, pu_leT, pu_leF, pu_ltT, pu_ltF, pu_eqT, pu_eqF, pu_x1, pu_x2, pu_x3, pu_x4, pu_x5, pu_x6, pu_x7, pu_x8, Nat.zero_add, pu_m31I, pu_m31, pu_shlI, eq_self, Bool.false_eq_true, Bool.true_eq_false, h.s1 s1, r_inH t1 t4]
theorem both_frame (a b : Int32) : Both j fd z o (fun a b => a = b) (f_X11_frame a b) (f_X12_frame a b) := by
  intro w hc hr hb hnf
  have hF := hc.wF
  have h10 := hF.1
  have hSF := SF_le hF
  have h4 := hF.2.2.1
  cases e2 : ix (fd 0 2) a with
  | none =>
    refine Both.val (-nI 1) rfl (fun w h => ?_) (fun w h => ?_) w hc hr hb hnf
    · unfold f_X11_frame f_X11_frame_17
      simp (disch := omega) only [pv_v, pv_b2, pv_b1, pv_x, pv_lit, pv_ofN, pu_chk, pu_cl, nI_add, pk_mul, nI_leI, nI_ltI, nI_eq, pu_nar0, pu_nar1, pu_narb, bI_0, bI_1, ↓reduceIte, pu_leT, pu_leF, pu_ltT, pu_ltF, pu_eqT, pu_eqF, pu_x1, pu_x2, pu_x3, pu_x4, pu_x5, pu_x6, pu_x7, pu_x8, Nat.zero_add, pu_m31I, pu_m31, pu_shlI, eq_self, Bool.false_eq_true, Bool.true_eq_false, h.fr0 e2]
    · unfold f_X12_frame f_X12_frame_32
      rcases Nat.eq_zero_or_pos (fd 0 0) with n0 | n0
      · simp (disch := omega) only [pv_v, pv_b2, pv_b1, pv_x, pv_lit, pv_ofN, pu_chk, pu_cl, nI_add, pk_mul, nI_leI, nI_ltI, nI_eq, pu_nar0, pu_nar1, pu_narb, bI_0, bI_1, ↓reduceIte, pu_leT, pu_leF, pu_ltT, pu_ltF, pu_eqT, pu_eqF, pu_x1, pu_x2, pu_x3, pu_x4, pu_x5, pu_x6, pu_x7, pu_x8, Nat.zero_add, pu_m31I, pu_m31, pu_shlI, eq_self, Bool.false_eq_true, Bool.true_eq_false, h.n0 n0]
      · simp (disch := omega) only [pv_v, pv_b2, pv_b1, pv_x, pv_lit, pv_ofN, pu_chk, pu_cl, nI_add, pk_mul, nI_leI, nI_ltI, nI_eq, pu_nar0, pu_nar1, pu_narb, bI_0, bI_1, ↓reduceIte, pu_leT, pu_leF, pu_ltT, pu_ltF, pu_eqT, pu_eqF, pu_x1, pu_x2, pu_x3, pu_x4, pu_x5, pu_x6, pu_x7, pu_x8, Nat.zero_add, pu_m31I, pu_m31, pu_shlI, eq_self, Bool.false_eq_true, Bool.true_eq_false, h.n1 n0, h.F.2.2.1, h.fr0 e2]
  | some f =>
    obtain ⟨f1, f2, f3⟩ := ix_s e2
    subst f2
    have n0 : 0 < (fd 0 0) := by
      rcases Nat.eq_zero_or_pos (fd 0 0) with n0 | n0
      · have := (hF.2.2.2.2.2.2.2.1 n0).2.1
        omega
      · exact n0
    rcases rng b 0 4 (by omega) (by omega) with ⟨s, s1, s2, s3⟩ | ⟨s1, s2, s3⟩ | ⟨s1, s2, s3, s4, s5, s6, s7⟩
    · subst s3
      refine Both.ask (· = nI (pu_fr fd z.1 f s)) eq_2 (fun w h => ?_) (fun w h => (r_frame h.Q n0 f1 s2).mono (fun q hq => ⟨hq.1, hq.2.up (by decide)⟩)) w hc hr hb hnf
      obtain ⟨w1, e1, hW⟩ := h.look n0
      have g1 := c_membersOf hF (h.F.ex hW.2.2 (by decide)) (f := f) (by omega)
      have hM : (pu_S (fun u => fd 3 u == f) (fd 0 0)) < 2 ^ (fd 0 0) := pu_S_lt _ _
      have hMb : ∀ u, u < (fd 0 0) → (pu_S (fun u => fd 3 u == f) (fd 0 0)).testBit u = (fd 3 u == f) := fun u hu => by rw [pu_S_bit, decide_eq_true hu, Bool.true_and]
      have hUb : ∀ u, u < (fd 0 0) → (pu_u fd z.1).testBit u = (z.1 0 u == 0) := fun u hu => by unfold pu_u; rw [pu_S_bit, decide_eq_true hu, Bool.true_and]
      have h4 := hF.2.2.1
      rcases (show s = 0 ∨ s = 1 ∨ s = 2 ∨ s = 3 ∨ s = 4 by omega) with e | e | e | e | e <;> subst e
      · refine ⟨(nI (cn (pu_S (fun u => fd 3 u == f) (fd 0 0))), w1), ?_, congrArg nI (cn_of hM h10 hMb), hW.e⟩
        unfold f_X11_frame
        simp (disch := omega) only [pv_v, pv_b2, pv_b1, pv_x, pv_lit, pv_ofN, pu_chk, pu_cl, nI_add, pk_mul, nI_leI, nI_ltI, nI_eq, pu_nar0, pu_nar1, pu_narb, bI_0, bI_1, ↓reduceIte, pu_leT, pu_leF, pu_ltT, pu_ltF, pu_eqT, pu_eqF, pu_x1, pu_x2, pu_x3, pu_x4, pu_x5, pu_x6, pu_x7, pu_x8, Nat.zero_add, pu_m31I, pu_m31, pu_shlI, eq_self, Bool.false_eq_true, Bool.true_eq_false, h.fr1 n0 f1, e1, g1, c_bitCount w1 (k_10 hF hM)]
      · have hl : pu_sd (pu_S (fun u => fd 3 u == f) (fd 0 0)) (pu_u fd z.1) < 2 ^ (fd 0 0) := pu_sd_lt hM
        refine ⟨(nI (cn (pu_sd (pu_S (fun u => fd 3 u == f) (fd 0 0)) (pu_u fd z.1))), w1), ?_, congrArg nI (cn_of hl h10 (fun u hu => by rw [pu_sd_bit, hMb u hu, hUb u hu])), hW.e⟩
        unfold f_X11_frame
        simp (disch := omega) only [pv_v, pv_b2, pv_b1, pv_x, pv_lit, pv_ofN, pu_chk, pu_cl, nI_add, pk_mul, nI_leI, nI_ltI, nI_eq, pu_nar0, pu_nar1, pu_narb, bI_0, bI_1, ↓reduceIte, pu_leT, pu_leF, pu_ltT, pu_ltF, pu_eqT, pu_eqF, pu_x1, pu_x2, pu_x3, pu_x4, pu_x5, pu_x6, pu_x7, pu_x8, Nat.zero_add, pu_m31I, pu_m31, pu_shlI, eq_self, Bool.false_eq_true, Bool.true_eq_false, h.fr1 n0 f1, e1, g1, hW.u, pu_andn, c_bitCount w1 (k_10 hF hl)]
      · refine ⟨(nI (pu_fr fd z.1 f 2), w1), ?_, rfl, hW.e⟩
        unfold f_X11_frame
        simp (disch := omega) only [pv_v, pv_b2, pv_b1, pv_x, pv_lit, pv_ofN, pu_chk, pu_cl, nI_add, pk_mul, nI_leI, nI_ltI, nI_eq, pu_nar0, pu_nar1, pu_narb, bI_0, bI_1, ↓reduceIte, pu_leT, pu_leF, pu_ltT, pu_ltF, pu_eqT, pu_eqF, pu_x1, pu_x2, pu_x3, pu_x4, pu_x5, pu_x6, pu_x7, pu_x8, Nat.zero_add, pu_m31I, pu_m31, pu_shlI, eq_self, Bool.false_eq_true, Bool.true_eq_false, h.fr1 n0 f1, e1, g1, c_copiesIn hW f1]
        rfl
      · obtain ⟨⟨v, w2⟩, e2, q1, q3⟩ := c_clearSlotsIn hW U_lt f1
        refine ⟨(v, w2), ?_, q1, q3.e⟩
        unfold f_X11_frame
        simp (disch := omega) only [pv_v, pv_b2, pv_b1, pv_x, pv_lit, pv_ofN, pu_chk, pu_cl, nI_add, pk_mul, nI_leI, nI_ltI, nI_eq, pu_nar0, pu_nar1, pu_narb, bI_0, bI_1, ↓reduceIte, pu_leT, pu_leF, pu_ltT, pu_ltF, pu_eqT, pu_eqF, pu_x1, pu_x2, pu_x3, pu_x4, pu_x5, pu_x6, pu_x7, pu_x8, Nat.zero_add, pu_m31I, pu_m31, pu_shlI, eq_self, Bool.false_eq_true, Bool.true_eq_false, h.fr1 n0 f1, e1, g1, e2]
      · obtain ⟨⟨v, w2⟩, e2, q1, q3⟩ := c_stuckOf hW (X := (pu_u fd z.1)) U_lt
        have q1 : v = nI (sRR (pu_k fd (z.1 2 0)) (pu_o fd z.1) (fun _ => true) ((fd 0 1) * (fd 0 2)) (pu_u fd z.1)) := q1
        have hl : (pu_S (fun u => fd 3 u == f) (fd 0 0)) &&& (sRR (pu_k fd (z.1 2 0)) (pu_o fd z.1) (fun _ => true) ((fd 0 1) * (fd 0 2)) (pu_u fd z.1)) < 2 ^ (fd 0 0) := Nat.lt_of_le_of_lt Nat.and_le_left hM
        refine ⟨(nI (cn ((pu_S (fun u => fd 3 u == f) (fd 0 0)) &&& (sRR (pu_k fd (z.1 2 0)) (pu_o fd z.1) (fun _ => true) ((fd 0 1) * (fd 0 2)) (pu_u fd z.1)))), w2), ?_, congrArg nI (cn_of hl h10 (fun u hu => by rw [Nat.testBit_and, hMb u hu])), q3.e⟩
        unfold f_X11_frame
        simp (disch := omega) only [pv_v, pv_b2, pv_b1, pv_x, pv_lit, pv_ofN, pu_chk, pu_cl, nI_add, pk_mul, nI_leI, nI_ltI, nI_eq, pu_nar0, pu_nar1, pu_narb, bI_0, bI_1, ↓reduceIte, pu_leT, pu_leF, pu_ltT, pu_ltF, pu_eqT, pu_eqF, pu_x1, pu_x2, pu_x3, pu_x4, pu_x5, pu_x6, pu_x7, pu_x8, Nat.zero_add, pu_m31I, pu_m31, pu_shlI, eq_self, Bool.false_eq_true, Bool.true_eq_false, h.fr1 n0 f1, e1, g1, hW.u, e2, q1, pu_and, c_bitCount w2 (k_10 hF hl)]
    · refine Both.val (-nI 1) rfl (fun w h => ?_) (fun w h => ?_) w hc hr hb hnf
      · unfold f_X11_frame f_X11_frame_17
        simp (disch := omega) only [pv_v, pv_b2, pv_b1, pv_x, pv_lit, pv_ofN, pu_chk, pu_cl, nI_add, pk_mul, nI_leI, nI_ltI, nI_eq, pu_nar0, pu_nar1, pu_narb, bI_0, bI_1, ↓reduceIte, pu_leT, pu_leF, pu_ltT, pu_ltF, pu_eqT, pu_eqF, pu_x1, pu_x2, pu_x3, pu_x4, pu_x5, pu_x6, pu_x7, pu_x8, Nat.zero_add, pu_m31I, pu_m31, pu_shlI, eq_self, Bool.false_eq_true, Bool.true_eq_false, h.fr1 n0 f1, s1]
      · unfold f_X12_frame f_X12_frame_32
        simp (disch := omega) only [pv_v, pv_b2, pv_b1, pv_x, pv_lit, pv_ofN, pu_chk, pu_cl, nI_add, pk_mul, nI_leI, nI_ltI, nI_eq, pu_nar0, pu_nar1, pu_narb, bI_0, bI_1, ↓reduceIte, pu_leT, pu_leF, pu_ltT, pu_ltF, pu_eqT, pu_eqF, pu_x1, pu_x2, pu_x3, pu_x4, pu_x5, pu_x6, pu_x7, pu_x8, Nat.zero_add, pu_m31I, pu_m31, pu_shlI, eq_self, Bool.false_eq_true, Bool.true_eq_false, h.n1 n0, h.F.2.2.1, h.fr1 f1, r_inL s1]
    · refine Both.val (-nI 1) rfl (fun w h => ?_) (fun w h => ?_) w hc hr hb hnf
      · unfold f_X11_frame f_X11_frame_17
        simp (disch := omega) only [pv_v, pv_b2, pv_b1, pv_x, pv_lit, pv_ofN, pu_chk, pu_cl, nI_add, pk_mul, nI_leI, nI_ltI, nI_eq, pu_nar0, pu_nar1, pu_narb, bI_0, bI_1, ↓reduceIte, pu_leT, pu_leF, pu_ltT, pu_ltF, pu_eqT, pu_eqF, pu_x1, pu_x2, pu_x3, pu_x4, pu_x5, pu_x6, pu_x7, pu_x8, Nat.zero_add, pu_m31I, pu_m31, pu_shlI, eq_self, Bool.false_eq_true, Bool.true_eq_false, h.fr1 n0 f1, s1, s3, s4]
      · unfold f_X12_frame f_X12_frame_32
        simp (disch := omega) only [pv_v, pv_b2, pv_b1, pv_x, pv_lit, pv_ofN, pu_chk, pu_cl, nI_add, pk_mul, nI_leI, nI_ltI, nI_eq, pu_nar0, pu_nar1, pu_narb, bI_0, bI_1, ↓reduceIte, pu_leT, pu_leF, pu_ltT, pu_ltF, pu_eqT, pu_eqF, pu_x1, pu_x2, pu_x3, pu_x4, pu_x5, pu_x6, pu_x7, pu_x8, Nat.zero_add, pu_m31I, pu_m31, pu_shlI, eq_self, Bool.false_eq_true, Bool.true_eq_false, h.n1 n0, h.F.2.2.1, h.fr1 f1, r_inH s1 s4]
theorem both_most (a : Int32) : Both j fd z o (fun a b => a = b) (f_X11_most a) (f_X12_most a) := by
  intro w hc hr hb hnf
  have hF := hc.wF
  have h10 := hF.1
  have hSF := SF_le hF
  rcases Nat.eq_zero_or_pos (fd 0 0) with n0 | n0
  · refine Both.val (-nI 1000000) rfl (fun w h => ?_) (fun w h => ?_) w hc hr hb hnf
    · unfold f_X11_most
      simp (maxSteps := 3000000) (disch := omega) only [pv_v, pv_b2, pv_b1, pv_x, pv_lit, pv_ofN, pu_chk, pu_cl, nI_add, pk_mul, nI_leI, nI_ltI, nI_eq, pu_nar0, pu_nar1, pu_narb, bI_0, bI_1, ↓reduceIte, pu_leT, pu_leF, pu_ltT, pu_ltF, pu_eqT, pu_eqF, pu_x1, pu_x2, pu_x3, pu_x4, pu_x5, pu_x6, pu_x7, pu_x8, Nat.zero_add, pu_m31I, pu_m31, pu_shlI, eq_self, Bool.false_eq_true, Bool.true_eq_false, h.n0 n0]
    · unfold f_X12_most f_X12_most_17
      simp (maxSteps := 3000000) (disch := omega) only [pv_v, pv_b2, pv_b1, pv_x, pv_lit, pv_ofN, pu_chk, pu_cl, nI_add, pk_mul, nI_leI, nI_ltI, nI_eq, pu_nar0, pu_nar1, pu_narb, bI_0, bI_1, ↓reduceIte, pu_leT, pu_leF, pu_ltT, pu_ltF, pu_eqT, pu_eqF, pu_x1, pu_x2, pu_x3, pu_x4, pu_x5, pu_x6, pu_x7, pu_x8, Nat.zero_add, pu_m31I, pu_m31, pu_shlI, eq_self, Bool.false_eq_true, Bool.true_eq_false, h.n0 n0]
  · have hnn : True := trivial
    rcases rng a 0 8 (by omega) (by omega) with ⟨s, s1, s2, s3⟩ | ⟨s1, s2, s3⟩ | ⟨s1, s2, s3, s4, s5, s6, s7⟩
    · subst s3
      rcases (show s = 0 ∨ s = 1 ∨ s = 2 ∨ s = 3 ∨ s = 4 ∨ s = 5 ∨ s = 6 ∨ s = 7 ∨ s = 8 by omega) with e | e | e | e | e | e | e | e | e <;> subst e
      · refine Both.ask (· = nI (pu_sd (2 ^ (fd 0 0) - 1) (pu_u fd z.1))) eq_2 (fun w h => ?_) (fun w h => ⟨(nI (pu_sd (2 ^ (fd 0 0) - 1) (pu_u fd z.1)), w), ?_, rfl, eqx.rf⟩) w hc hr hb hnf
        · obtain ⟨w1, e1, hW⟩ := h.look n0
          have hS1 : ∀ u, u < 10 → w1.2.1 25 u = lN (z.1 1 u) := fun u hu => by rw [hW.2.2.l]; exact h.S.2.1 u hu
          refine ⟨(nI (pu_sd (2 ^ (fd 0 0) - 1) (pu_u fd z.1)), w1), ?_, rfl, hW.e⟩
          unfold f_X11_most
          simp (maxSteps := 3000000) (disch := omega) only [pv_v, pv_b2, pv_b1, pv_x, pv_lit, pv_ofN, pu_chk, pu_cl, nI_add, pk_mul, nI_leI, nI_ltI, nI_eq, pu_nar0, pu_nar1, pu_narb, bI_0, bI_1, ↓reduceIte, pu_leT, pu_leF, pu_ltT, pu_ltF, pu_eqT, pu_eqF, pu_x1, pu_x2, pu_x3, pu_x4, pu_x5, pu_x6, pu_x7, pu_x8, Nat.zero_add, pu_m31I, pu_m31, pu_shlI, eq_self, Bool.false_eq_true, Bool.true_eq_false, h.n1 n0, e1, c_everyone hW.n h10, hW.u, pu_andn]
        · unfold f_X12_most f_X12_shelfAt
          simp (maxSteps := 3000000) (disch := omega) only [pv_v, pv_b2, pv_b1, pv_x, pv_lit, pv_ofN, pu_chk, pu_cl, nI_add, pk_mul, nI_leI, nI_ltI, nI_eq, pu_nar0, pu_nar1, pu_narb, bI_0, bI_1, ↓reduceIte, pu_leT, pu_leF, pu_ltT, pu_ltF, pu_eqT, pu_eqF, pu_x1, pu_x2, pu_x3, pu_x4, pu_x5, pu_x6, pu_x7, pu_x8, Nat.zero_add, pu_m31I, pu_m31, pu_shlI, eq_self, Bool.false_eq_true, Bool.true_eq_false, h.n1 n0, r_inY, r_knownSet h.Q]
      · refine Both.ask (· = nI (pu_my (fun s => cn (pu_o fd z.1 s)) ((fd 0 1) * (fd 0 2)))) eq_2 (fun w h => ?_) (fun w h => ⟨(nI (pu_my (fun s => cn (pu_o fd z.1 s)) ((fd 0 1) * (fd 0 2))), w), ?_, rfl, eqx.rf⟩) w hc hr hb hnf
        · obtain ⟨w1, e1, hW⟩ := h.look n0
          have hS1 : ∀ u, u < 10 → w1.2.1 25 u = lN (z.1 1 u) := fun u hu => by rw [hW.2.2.l]; exact h.S.2.1 u hu
          refine ⟨(nI (pu_my (fun s => cn (pu_o fd z.1 s)) ((fd 0 1) * (fd 0 2))), w1), ?_, rfl, hW.e⟩
          unfold f_X11_most
          simp (maxSteps := 3000000) (disch := omega) only [pv_v, pv_b2, pv_b1, pv_x, pv_lit, pv_ofN, pu_chk, pu_cl, nI_add, pk_mul, nI_leI, nI_ltI, nI_eq, pu_nar0, pu_nar1, pu_narb, bI_0, bI_1, ↓reduceIte, pu_leT, pu_leF, pu_ltT, pu_ltF, pu_eqT, pu_eqF, pu_x1, pu_x2, pu_x3, pu_x4, pu_x5, pu_x6, pu_x7, pu_x8, Nat.zero_add, pu_m31I, pu_m31, pu_shlI, eq_self, Bool.false_eq_true, Bool.true_eq_false, h.n1 n0, e1, c_fullestSlot hW]
        · unfold f_X12_most f_X12_shelfAt
          simp (maxSteps := 3000000) (disch := omega) only [pv_v, pv_b2, pv_b1, pv_x, pv_lit, pv_ofN, pu_chk, pu_cl, nI_add, pk_mul, nI_leI, nI_ltI, nI_eq, pu_nar0, pu_nar1, pu_narb, bI_0, bI_1, ↓reduceIte, pu_leT, pu_leF, pu_ltT, pu_ltF, pu_eqT, pu_eqF, pu_x1, pu_x2, pu_x3, pu_x4, pu_x5, pu_x6, pu_x7, pu_x8, Nat.zero_add, pu_m31I, pu_m31, pu_shlI, eq_self, Bool.false_eq_true, Bool.true_eq_false, h.n1 n0, r_inY, r_fullestSlot h.Q n0]
      · refine Both.ask (· = nI (pu_my (fun u => cL (z.1 1 u)) (fd 0 0))) eq_2 (fun w h => ?_) (fun w h => ⟨(nI (pu_my (fun u => cL (z.1 1 u)) (fd 0 0)), w), ?_, rfl, eqx.rf⟩) w hc hr hb hnf
        · obtain ⟨w1, e1, hW⟩ := h.look n0
          have hS1 : ∀ u, u < 10 → w1.2.1 25 u = lN (z.1 1 u) := fun u hu => by rw [hW.2.2.l]; exact h.S.2.1 u hu
          refine ⟨(nI (pu_my (fun u => cL (z.1 1 u)) (fd 0 0)), w1), ?_, rfl, hW.e⟩
          unfold f_X11_most
          simp (maxSteps := 3000000) (disch := omega) only [pv_v, pv_b2, pv_b1, pv_x, pv_lit, pv_ofN, pu_chk, pu_cl, nI_add, pk_mul, nI_leI, nI_ltI, nI_eq, pu_nar0, pu_nar1, pu_narb, bI_0, bI_1, ↓reduceIte, pu_leT, pu_leF, pu_ltT, pu_ltF, pu_eqT, pu_eqF, pu_x1, pu_x2, pu_x3, pu_x4, pu_x5, pu_x6, pu_x7, pu_x8, Nat.zero_add, pu_m31I, pu_m31, pu_shlI, eq_self, Bool.false_eq_true, Bool.true_eq_false, h.n1 n0, e1, c_busiestUser (p := 23) hF n0 hc.wS hW.n hS1]
        · unfold f_X12_most f_X12_shelfAt
          simp (maxSteps := 3000000) (disch := omega) only [pv_v, pv_b2, pv_b1, pv_x, pv_lit, pv_ofN, pu_chk, pu_cl, nI_add, pk_mul, nI_leI, nI_ltI, nI_eq, pu_nar0, pu_nar1, pu_narb, bI_0, bI_1, ↓reduceIte, pu_leT, pu_leF, pu_ltT, pu_ltF, pu_eqT, pu_eqF, pu_x1, pu_x2, pu_x3, pu_x4, pu_x5, pu_x6, pu_x7, pu_x8, Nat.zero_add, pu_m31I, pu_m31, pu_shlI, eq_self, Bool.false_eq_true, Bool.true_eq_false, h.n1 n0, r_inY, r_busiest h.Q n0]
      · refine Both.ask (· = nI (pu_my (fun u => (pu_f fd u).toNat) (fd 0 0))) eq_2 (fun w h => ?_) (fun w h => ⟨(nI (pu_my (fun u => (pu_f fd u).toNat) (fd 0 0)), w), ?_, rfl, eqx.rf⟩) w hc hr hb hnf
        · obtain ⟨w1, e1, hW⟩ := h.look n0
          have hS1 : ∀ u, u < 10 → w1.2.1 25 u = lN (z.1 1 u) := fun u hu => by rw [hW.2.2.l]; exact h.S.2.1 u hu
          refine ⟨(nI (pu_my (fun u => (pu_f fd u).toNat) (fd 0 0)), w1), ?_, rfl, hW.e⟩
          unfold f_X11_most
          simp (maxSteps := 3000000) (disch := omega) only [pv_v, pv_b2, pv_b1, pv_x, pv_lit, pv_ofN, pu_chk, pu_cl, nI_add, pk_mul, nI_leI, nI_ltI, nI_eq, pu_nar0, pu_nar1, pu_narb, bI_0, bI_1, ↓reduceIte, pu_leT, pu_leF, pu_ltT, pu_ltF, pu_eqT, pu_eqF, pu_x1, pu_x2, pu_x3, pu_x4, pu_x5, pu_x6, pu_x7, pu_x8, Nat.zero_add, pu_m31I, pu_m31, pu_shlI, eq_self, Bool.false_eq_true, Bool.true_eq_false, h.n1 n0, e1, c_strongestUser hW]
        · unfold f_X12_most f_X12_shelfAt
          simp (maxSteps := 3000000) (disch := omega) only [pv_v, pv_b2, pv_b1, pv_x, pv_lit, pv_ofN, pu_chk, pu_cl, nI_add, pk_mul, nI_leI, nI_ltI, nI_eq, pu_nar0, pu_nar1, pu_narb, bI_0, bI_1, ↓reduceIte, pu_leT, pu_leF, pu_ltT, pu_ltF, pu_eqT, pu_eqF, pu_x1, pu_x2, pu_x3, pu_x4, pu_x5, pu_x6, pu_x7, pu_x8, Nat.zero_add, pu_m31I, pu_m31, pu_shlI, eq_self, Bool.false_eq_true, Bool.true_eq_false, h.n1 n0, r_inY, r_strongest h.Q n0]
      · refine Both.ask (· = nI (pu_C (fun s => cn (pu_o fd z.1 s) == 0) ((fd 0 1) * (fd 0 2)))) eq_2 (fun w h => ?_) (fun w h => ⟨(nI (pu_C (fun s => cn (pu_o fd z.1 s) == 0) ((fd 0 1) * (fd 0 2))), w), ?_, rfl, eqx.rf⟩) w hc hr hb hnf
        · obtain ⟨w1, e1, hW⟩ := h.look n0
          have hS1 : ∀ u, u < 10 → w1.2.1 25 u = lN (z.1 1 u) := fun u hu => by rw [hW.2.2.l]; exact h.S.2.1 u hu
          refine ⟨(nI (pu_C (fun s => cn (pu_o fd z.1 s) == 0) ((fd 0 1) * (fd 0 2))), w1), ?_, rfl, hW.e⟩
          unfold f_X11_most
          simp (maxSteps := 3000000) (disch := omega) only [pv_v, pv_b2, pv_b1, pv_x, pv_lit, pv_ofN, pu_chk, pu_cl, nI_add, pk_mul, nI_leI, nI_ltI, nI_eq, pu_nar0, pu_nar1, pu_narb, bI_0, bI_1, ↓reduceIte, pu_leT, pu_leF, pu_ltT, pu_ltF, pu_eqT, pu_eqF, pu_x1, pu_x2, pu_x3, pu_x4, pu_x5, pu_x6, pu_x7, pu_x8, Nat.zero_add, pu_m31I, pu_m31, pu_shlI, eq_self, Bool.false_eq_true, Bool.true_eq_false, h.n1 n0, e1, c_slotsWith hW (k := 0) (by omega)]
        · unfold f_X12_most f_X12_shelfAt
          simp (maxSteps := 3000000) (disch := omega) only [pv_v, pv_b2, pv_b1, pv_x, pv_lit, pv_ofN, pu_chk, pu_cl, nI_add, pk_mul, nI_leI, nI_ltI, nI_eq, pu_nar0, pu_nar1, pu_narb, bI_0, bI_1, ↓reduceIte, pu_leT, pu_leF, pu_ltT, pu_ltF, pu_eqT, pu_eqF, pu_x1, pu_x2, pu_x3, pu_x4, pu_x5, pu_x6, pu_x7, pu_x8, Nat.zero_add, pu_m31I, pu_m31, pu_shlI, eq_self, Bool.false_eq_true, Bool.true_eq_false, h.n1 n0, r_inY, r_slotsWith h.Q (k := 0) (by omega)]
      · refine Both.ask (· = nI (pu_C (fun s => cn (pu_o fd z.1 s) == 1) ((fd 0 1) * (fd 0 2)))) eq_2 (fun w h => ?_) (fun w h => ⟨(nI (pu_C (fun s => cn (pu_o fd z.1 s) == 1) ((fd 0 1) * (fd 0 2))), w), ?_, rfl, eqx.rf⟩) w hc hr hb hnf
        · obtain ⟨w1, e1, hW⟩ := h.look n0
          have hS1 : ∀ u, u < 10 → w1.2.1 25 u = lN (z.1 1 u) := fun u hu => by rw [hW.2.2.l]; exact h.S.2.1 u hu
          refine ⟨(nI (pu_C (fun s => cn (pu_o fd z.1 s) == 1) ((fd 0 1) * (fd 0 2))), w1), ?_, rfl, hW.e⟩
          unfold f_X11_most
          simp (maxSteps := 3000000) (disch := omega) only [pv_v, pv_b2, pv_b1, pv_x, pv_lit, pv_ofN, pu_chk, pu_cl, nI_add, pk_mul, nI_leI, nI_ltI, nI_eq, pu_nar0, pu_nar1, pu_narb, bI_0, bI_1, ↓reduceIte, pu_leT, pu_leF, pu_ltT, pu_ltF, pu_eqT, pu_eqF, pu_x1, pu_x2, pu_x3, pu_x4, pu_x5, pu_x6, pu_x7, pu_x8, Nat.zero_add, pu_m31I, pu_m31, pu_shlI, eq_self, Bool.false_eq_true, Bool.true_eq_false, h.n1 n0, e1, c_slotsWith hW (k := 1) (by omega)]
        · unfold f_X12_most f_X12_shelfAt
          simp (maxSteps := 3000000) (disch := omega) only [pv_v, pv_b2, pv_b1, pv_x, pv_lit, pv_ofN, pu_chk, pu_cl, nI_add, pk_mul, nI_leI, nI_ltI, nI_eq, pu_nar0, pu_nar1, pu_narb, bI_0, bI_1, ↓reduceIte, pu_leT, pu_leF, pu_ltT, pu_ltF, pu_eqT, pu_eqF, pu_x1, pu_x2, pu_x3, pu_x4, pu_x5, pu_x6, pu_x7, pu_x8, Nat.zero_add, pu_m31I, pu_m31, pu_shlI, eq_self, Bool.false_eq_true, Bool.true_eq_false, h.n1 n0, r_inY, r_slotsWith h.Q (k := 1) (by omega)]
      · refine Both.ask (· = nI (pu_sum (fun u => cL (z.1 1 u)) 10)) eq_2 (fun w h => ?_) (fun w h => ⟨(nI (pu_sum (fun u => cL (z.1 1 u)) 10), w), ?_, rfl, eqx.rf⟩) w hc hr hb hnf
        · obtain ⟨w1, e1, hW⟩ := h.look n0
          have hS1 : ∀ u, u < 10 → w1.2.1 25 u = lN (z.1 1 u) := fun u hu => by rw [hW.2.2.l]; exact h.S.2.1 u hu
          refine ⟨(nI (pu_sum (fun u => cL (z.1 1 u)) 10), w1), ?_, rfl, hW.e⟩
          unfold f_X11_most
          simp (maxSteps := 3000000) (disch := omega) only [pv_v, pv_b2, pv_b1, pv_x, pv_lit, pv_ofN, pu_chk, pu_cl, nI_add, pk_mul, nI_leI, nI_ltI, nI_eq, pu_nar0, pu_nar1, pu_narb, bI_0, bI_1, ↓reduceIte, pu_leT, pu_leF, pu_ltT, pu_ltF, pu_eqT, pu_eqF, pu_x1, pu_x2, pu_x3, pu_x4, pu_x5, pu_x6, pu_x7, pu_x8, Nat.zero_add, pu_m31I, pu_m31, pu_shlI, eq_self, Bool.false_eq_true, Bool.true_eq_false, h.n1 n0, e1, c_copyCount (p := 23) hF hc.wS hS1]
        · unfold f_X12_most f_X12_shelfAt
          simp (maxSteps := 3000000) (disch := omega) only [pv_v, pv_b2, pv_b1, pv_x, pv_lit, pv_ofN, pu_chk, pu_cl, nI_add, pk_mul, nI_leI, nI_ltI, nI_eq, pu_nar0, pu_nar1, pu_narb, bI_0, bI_1, ↓reduceIte, pu_leT, pu_leF, pu_ltT, pu_ltF, pu_eqT, pu_eqF, pu_x1, pu_x2, pu_x3, pu_x4, pu_x5, pu_x6, pu_x7, pu_x8, Nat.zero_add, pu_m31I, pu_m31, pu_shlI, eq_self, Bool.false_eq_true, Bool.true_eq_false, h.n1 n0, r_inY, r_copiesOfAll h.Q]
      · refine Both.ask (· = nI (z.1 3 0 + z.1 3 1 + z.1 3 2)) eq_2 (fun w h => ?_) (fun w h => ⟨(nI (z.1 3 0 + z.1 3 1 + z.1 3 2), w), ?_, rfl, eqx.rf⟩) w hc hr hb hnf
        · obtain ⟨w1, e1, hW⟩ := h.look n0
          have g : ∀ i, i < 3 → w1.1 27 i = nI (z.1 3 i) := fun i hi => by rw [hW.2.2.r (by decide)]; exact h.S.2.2.2.1 i hi
          refine ⟨(nI (z.1 3 0 + z.1 3 1 + z.1 3 2), w1), ?_, rfl, hW.e⟩
          unfold f_X11_most
          simp (maxSteps := 3000000) (disch := omega) only [pv_v, pv_b2, pv_b1, pv_x, pv_lit, pv_ofN, pu_chk, pu_cl, nI_add, pk_mul, nI_leI, nI_ltI, nI_eq, pu_nar0, pu_nar1, pu_narb, bI_0, bI_1, ↓reduceIte, pu_leT, pu_leF, pu_ltT, pu_ltF, pu_eqT, pu_eqF, pu_x1, pu_x2, pu_x3, pu_x4, pu_x5, pu_x6, pu_x7, pu_x8, Nat.zero_add, pu_m31I, pu_m31, pu_shlI, eq_self, Bool.false_eq_true, Bool.true_eq_false, h.n1 n0, e1, g 0 (by omega), g 1 (by omega), g 2 (by omega)]
        · have g0 : w.1 281 31 = nI (z.1 3 0) := h.Q.2.2.2.1.2.2.2.2.1 0 (by omega)
          have g1 : w.1 281 42 = nI (z.1 3 1) := h.Q.2.2.2.1.2.2.2.2.1 1 (by omega)
          have g2 : w.1 281 53 = nI (z.1 3 2) := h.Q.2.2.2.1.2.2.2.2.1 2 (by omega)
          unfold f_X12_most f_X12_shelfAt
          simp (maxSteps := 3000000) (disch := omega) only [pv_v, pv_b2, pv_b1, pv_x, pv_lit, pv_ofN, pu_chk, pu_cl, nI_add, pk_mul, nI_leI, nI_ltI, nI_eq, pu_nar0, pu_nar1, pu_narb, bI_0, bI_1, ↓reduceIte, pu_leT, pu_leF, pu_ltT, pu_ltF, pu_eqT, pu_eqF, pu_x1, pu_x2, pu_x3, pu_x4, pu_x5, pu_x6, pu_x7, pu_x8, Nat.zero_add, pu_m31I, pu_m31, pu_shlI, eq_self, Bool.false_eq_true, Bool.true_eq_false, h.n1 n0, r_inY, g0, g1, g2, Nat.reduceMul, Nat.reduceAdd]
      · refine Both.ask (fun v => ∃ r, isK (pu_o fd z.1) ((fd 0 1) * (fd 0 2)) (pu_u fd z.1) r ∧ v = nI r) (fun a b h1 h2 => ?_) (fun w h => ?_) (fun w h => ?_) w hc hr hb hnf
        · obtain ⟨r, r1, r2⟩ := h1
          obtain ⟨r', r1', r2'⟩ := h2
          rw [r2, r2', r1.uq r1']
        · obtain ⟨w1, e1, hW⟩ := h.look n0
          obtain ⟨r, r1, r2⟩ := c_partsOfUnknown hW U_lt
          refine ⟨(nI r, w1), ?_, ⟨r, r1, rfl⟩, hW.e⟩
          unfold f_X11_most
          simp (maxSteps := 3000000) (disch := omega) only [pv_v, pv_b2, pv_b1, pv_x, pv_lit, pv_ofN, pu_chk, pu_cl, nI_add, pk_mul, nI_leI, nI_ltI, nI_eq, pu_nar0, pu_nar1, pu_narb, bI_0, bI_1, ↓reduceIte, pu_leT, pu_leF, pu_ltT, pu_ltF, pu_eqT, pu_eqF, pu_x1, pu_x2, pu_x3, pu_x4, pu_x5, pu_x6, pu_x7, pu_x8, Nat.zero_add, pu_m31I, pu_m31, pu_shlI, eq_self, Bool.false_eq_true, Bool.true_eq_false, h.n1 n0, e1, r2]
        · obtain ⟨r, r1, r2⟩ := r_parts h.Q
          refine ⟨(nI r, w), ?_, ⟨r, r1, rfl⟩, eqx.rf⟩
          unfold f_X12_most
          simp (maxSteps := 3000000) (disch := omega) only [pv_v, pv_b2, pv_b1, pv_x, pv_lit, pv_ofN, pu_chk, pu_cl, nI_add, pk_mul, nI_leI, nI_ltI, nI_eq, pu_nar0, pu_nar1, pu_narb, bI_0, bI_1, ↓reduceIte, pu_leT, pu_leF, pu_ltT, pu_ltF, pu_eqT, pu_eqF, pu_x1, pu_x2, pu_x3, pu_x4, pu_x5, pu_x6, pu_x7, pu_x8, Nat.zero_add, pu_m31I, pu_m31, pu_shlI, eq_self, Bool.false_eq_true, Bool.true_eq_false, h.n1 n0, r_inY, r2]
    · refine Both.ask (· = -nI 1000000) eq_2 (fun w h => ?_) (fun w h => ⟨(-nI 1000000, w), ?_, rfl, eqx.rf⟩) w hc hr hb hnf
      · obtain ⟨w1, e1, hW⟩ := h.look n0
        refine ⟨(-nI 1000000, w1), ?_, rfl, hW.e⟩
        unfold f_X11_most
        simp (maxSteps := 3000000) (disch := omega) only [pv_v, pv_b2, pv_b1, pv_x, pv_lit, pv_ofN, pu_chk, pu_cl, nI_add, pk_mul, nI_leI, nI_ltI, nI_eq, pu_nar0, pu_nar1, pu_narb, bI_0, bI_1, ↓reduceIte, pu_leT, pu_leF, pu_ltT, pu_ltF, pu_eqT, pu_eqF, pu_x1, pu_x2, pu_x3, pu_x4, pu_x5, pu_x6, pu_x7, pu_x8, Nat.zero_add, pu_m31I, pu_m31, pu_shlI, eq_self, Bool.false_eq_true, Bool.true_eq_false, h.n1 n0, e1, s3]
      · unfold f_X12_most f_X12_most_17
        simp (maxSteps := 3000000) (disch := omega) only [pv_v, pv_b2, pv_b1, pv_x, pv_lit, pv_ofN, pu_chk, pu_cl, nI_add, pk_mul, nI_leI, nI_ltI, nI_eq, pu_nar0, pu_nar1, pu_narb, bI_0, bI_1, ↓reduceIte, pu_leT, pu_leF, pu_ltT, pu_ltF, pu_eqT, pu_eqF, pu_x1, pu_x2, pu_x3, pu_x4, pu_x5, pu_x6, pu_x7, pu_x8, Nat.zero_add, pu_m31I, pu_m31, pu_shlI, eq_self, Bool.false_eq_true, Bool.true_eq_false, h.n1 n0, r_inL s1]
    · refine Both.ask (· = -nI 1000000) eq_2 (fun w h => ?_) (fun w h => ⟨(-nI 1000000, w), ?_, rfl, eqx.rf⟩) w hc hr hb hnf
      · obtain ⟨w1, e1, hW⟩ := h.look n0
        refine ⟨(-nI 1000000, w1), ?_, rfl, hW.e⟩
        unfold f_X11_most
        simp (maxSteps := 3000000) (disch := omega) only [pv_v, pv_b2, pv_b1, pv_x, pv_lit, pv_ofN, pu_chk, pu_cl, nI_add, pk_mul, nI_leI, nI_ltI, nI_eq, pu_nar0, pu_nar1, pu_narb, bI_0, bI_1, ↓reduceIte, pu_leT, pu_leF, pu_ltT, pu_ltF, pu_eqT, pu_eqF, pu_x1, pu_x2, pu_x3, pu_x4, pu_x5, pu_x6, pu_x7, pu_x8, Nat.zero_add, pu_m31I, pu_m31, pu_shlI, eq_self, Bool.false_eq_true, Bool.true_eq_false, h.n1 n0, e1, s7]
      · unfold f_X12_most f_X12_most_17
        simp (maxSteps := 3000000) (disch := omega) only [pv_v, pv_b2, pv_b1, pv_x, pv_lit, pv_ofN, pu_chk, pu_cl, nI_add, pk_mul, nI_leI, nI_ltI, nI_eq, pu_nar0, pu_nar1, pu_narb, bI_0, bI_1, ↓reduceIte, pu_leT, pu_leF, pu_ltT, pu_ltF, pu_eqT, pu_eqF, pu_x1, pu_x2, pu_x3, pu_x4, pu_x5, pu_x6, pu_x7, pu_x8, Nat.zero_add, pu_m31I, pu_m31, pu_shlI, eq_self, Bool.false_eq_true, Bool.true_eq_false, h.n1 n0, r_inH s1 s4]
end ASKS3
