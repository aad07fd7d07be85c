/-! pure part: why an ACT can't be, of the class (wip/whole/pure/14.b.cwhy.src) -/
/-- the class's side at place p -/
def cX (fd st : Nat → Nat → Nat) (p : Nat) (w : am_S) : Prop := wF fd ∧ wS fd st ∧ cF fd w ∧ cT fd w ∧ cS st p w
section CWHY
variable {fd st : Nat → Nat → Nat} {w : am_S} {p : Nat}
theorem cX.look (h : cX fd st p w) (hp : p + 4 < 250) (hp2 : 18 < p) (hn : 0 < (fd 0 0)) : Wp (f_X7_lookAt p w) (fun w' => cW fd (pu_o fd st) (st 2 0) (pu_u fd st) w w') := c_look hp hp2 h.1 hn h.2.1 h.2.2.1 h.2.2.2.1 h.2.2.2.2
theorem cX.ex {w' : am_S} (h : cX fd st p w) (hp : p + 4 < 250) (hx : eqx [250, 253, 254] w w') (ht : cT fd w') : cX fd st p w' := by
  refine ⟨h.1, h.2.1, h.2.2.1.ex hx (by decide), ht, h.2.2.2.2.ex hx (fun q hq => ?_)⟩
  simp only [List.mem_cons, List.not_mem_nil, or_false] at hq ⊢
  omega
theorem sA_A : sA (pu_k fd (st 2 0)) (pu_o fd st) (fun _ => true) (pu_u fd st) ((fd 0 1) * (fd 0 2)) = pu_A fd st 0 := by
  unfold pu_A
  rw [sel_0]
theorem c_refusalOf (h : cX fd st p w) (hp : p + 4 < 250) (hp2 : 18 < p) {k : Nat} (hk : k ≤ 8) (a b : Int32) : Wp (f_X2_refusalOf p (nI k) a b w) (fun q => q.1 = oI (aW fd st k a b) ∧ eqx [250, 253, 254] w q.2 ∧ cT fd q.2) := by
  obtain ⟨hF, hS, hf, ht, hs⟩ := id h
  obtain ⟨s1, s2, s3, s4, s5⟩ := hs
  obtain ⟨e1, e2, e3, e4, e5, e6, e7⟩ := id hf
  have h10 := hF.1
  have hT := pu_T48 hF
  have hu := c_noUserI2 e1 h10
  have hall := c_allSlots e2 e3
  have hw3 : ∀ u, st 0 u ≤ 3 := hS.2.1
  have hf10 : ∀ j, st 3 j ≤ 10 := hS.2.2.2.2
  have hc := hS.1
  unfold f_X2_refusalOf
  by_cases n0 : (fd 0 0) = 0
  · have : aW fd st k a b = some 0 := by unfold aW; rw [if_pos n0]
    rw [this, e1, n0, if_pos (show nI 0 = 0 from rfl)]
    exact Wp.some ⟨rfl, eqx.rf, ht⟩
  have ne : ¬ nI (fd 0 0) = 0 := nI_ne0 (by omega) (by omega)
  rw [e1, if_neg ne]
  by_cases k0 : k ≤ 1
  · have hcl : Wp (f_X2_refusalOf_60 p (nI k) a b w) (fun q => q.1 = oI (aW fd st k a b) ∧ eqx [250, 253, 254] w q.2 ∧ cT fd q.2) := by
      unfold f_X2_refusalOf_60 f_X2_refusalOf_90
      refine Wp.b1 ((h.look hp hp2 (by omega)).mono ?_)
      intro w1 hw1
      rw [hw1.u]
      refine Wp.b2 ((c_clearAnywhere hw1 pu_u_lt).mono ?_)
      rintro ⟨r, w2⟩ ⟨hr, hw2⟩
      have hr : r = nI (pu_A fd st 0) := by rw [← sA_A]; exact hr
      subst hr
      have hA := pu_k10 (sb_lt (sA_sb (pu_k_M hF hS.1)) pu_u_lt : pu_A fd st 0 < 2 ^ (fd 0 0)) h10
      have hW : aW fd st k a b = if pu_A fd st 0 = 0 then some 2 else none := by unfold aW; rw [if_neg n0, if_pos k0]
      rw [hW]
      by_cases z : pu_A fd st 0 = 0
      · simp (disch := omega) only [pv_v, pv_b2, pv_b1, pv_x, pv_lit, pv_ofN, pu_chk, pu_cl, nI_add, pk_mul, nI_leI, nI_ltI, nI_eq, pu_nar0, pu_nar1, pu_narb, bI_0, bI_1, ↓reduceIte, pu_leT, pu_leF, pu_ltT, pu_ltF, pu_eqT, pu_eqF, pu_x1, pu_x2, pu_x3, pu_x4, pu_x5, pu_x6, pu_x7, pu_x8, Nat.zero_add, pu_m31I, pu_m31, pu_shlI, eq_self, Bool.false_eq_true, Bool.true_eq_false, z]
        exact Wp.some ⟨rfl, hw2.2.2, hw2.1.T⟩
      · simp (disch := omega) only [pv_v, pv_b2, pv_b1, pv_x, pv_lit, pv_ofN, pu_chk, pu_cl, nI_add, pk_mul, nI_leI, nI_ltI, nI_eq, pu_nar0, pu_nar1, pu_narb, bI_0, bI_1, ↓reduceIte, pu_leT, pu_leF, pu_ltT, pu_ltF, pu_eqT, pu_eqF, pu_x1, pu_x2, pu_x3, pu_x4, pu_x5, pu_x6, pu_x7, pu_x8, Nat.zero_add, pu_m31I, pu_m31, pu_shlI, eq_self, Bool.false_eq_true, Bool.true_eq_false, z]
        exact Wp.some ⟨rfl, hw2.2.2, hw2.1.T⟩
    rcases Nat.le_one_iff_eq_zero_or_eq_one.mp k0 with rfl | rfl
    · simp (disch := omega) only [pv_v, pv_b2, pv_b1, pv_x, pv_lit, pv_ofN, pu_chk, pu_cl, nI_add, pk_mul, nI_leI, nI_ltI, nI_eq, pu_nar0, pu_nar1, pu_narb, bI_0, bI_1, ↓reduceIte, pu_leT, pu_leF, pu_ltT, pu_ltF, pu_eqT, pu_eqF, pu_x1, pu_x2, pu_x3, pu_x4, pu_x5, pu_x6, pu_x7, pu_x8, Nat.zero_add, pu_m31I, pu_m31, pu_shlI, eq_self, Bool.false_eq_true, Bool.true_eq_false]
      exact hcl
    · simp (disch := omega) only [pv_v, pv_b2, pv_b1, pv_x, pv_lit, pv_ofN, pu_chk, pu_cl, nI_add, pk_mul, nI_leI, nI_ltI, nI_eq, pu_nar0, pu_nar1, pu_narb, bI_0, bI_1, ↓reduceIte, pu_leT, pu_leF, pu_ltT, pu_ltF, pu_eqT, pu_eqF, pu_x1, pu_x2, pu_x3, pu_x4, pu_x5, pu_x6, pu_x7, pu_x8, Nat.zero_add, pu_m31I, pu_m31, pu_shlI, eq_self, Bool.false_eq_true, Bool.true_eq_false]
      exact hcl
  suffices hq : ∃ x : Option (Int32 × am_S), x = some (oI (aW fd st k a b), w) ∧ (if nI k = nI 5 then am_b2 (f_X2_refusalOfCapture p a w) fun r_45 w_43 => some (r_45, w_43) else if nI k = nI 7 then am_b2 (f_X2_refusalOfFile p a b w) fun r_48 w_46 => some (r_48, w_46) else f_X2_refusalOf_107 p (nI k) a b w) = x by
    obtain ⟨x, hx, hy⟩ := hq
    refine Wp.of (r := (oI (aW fd st k a b), w)) ?_ ⟨rfl, eqx.rf, ht⟩
    rw [← hx, ← hy]
    rcases (by omega : k = 2 ∨ k = 3 ∨ k = 4 ∨ k = 5 ∨ k = 6 ∨ k = 7 ∨ k = 8) with rfl | rfl | rfl | rfl | rfl | rfl | rfl <;> simp (disch := omega) only [pv_v, pv_b2, pv_b1, pv_x, pv_lit, pv_ofN, pu_chk, pu_cl, nI_add, pk_mul, nI_leI, nI_ltI, nI_eq, pu_nar0, pu_nar1, pu_narb, bI_0, bI_1, ↓reduceIte, pu_leT, pu_leF, pu_ltT, pu_ltF, pu_eqT, pu_eqF, pu_x1, pu_x2, pu_x3, pu_x4, pu_x5, pu_x6, pu_x7, pu_x8, Nat.zero_add, pu_m31I, pu_m31, pu_shlI, eq_self, Bool.false_eq_true, Bool.true_eq_false]
  refine ⟨_, ?_, rfl⟩
  unfold aW
  rw [if_neg n0, if_neg k0]
  by_cases k5 : k = 5
  · subst k5
    rw [if_pos rfl, if_pos rfl]
    unfold f_X2_refusalOfCapture f_X2_refusalOfCapture_10 f_X2_refusalOfCapture_25
    cases e : ix 100 a with
    | none =>
      have := ix_n e
      rw [show (0 : Int32) = nI 0 from rfl, show (99 : Int32) = nI 99 from rfl]
      simp only [lt_ti, le_ti, show (nI 0).toInt = 0 by decide, show (nI 99).toInt = 99 by decide]
      by_cases z : a.toInt < 0
      · rw [if_pos z]; rfl
      · rw [if_neg z, if_neg (by omega)]; rfl
    | some c =>
      obtain ⟨q1, rfl, q3⟩ := ix_s e
      by_cases qc : (st 2 0) = c
      · simp (disch := omega) only [pv_v, pv_b2, pv_b1, pv_x, pv_lit, pv_ofN, pu_chk, pu_cl, nI_add, pk_mul, nI_leI, nI_ltI, nI_eq, pu_nar0, pu_nar1, pu_narb, bI_0, bI_1, ↓reduceIte, pu_leT, pu_leF, pu_ltT, pu_ltF, pu_eqT, pu_eqF, pu_x1, pu_x2, pu_x3, pu_x4, pu_x5, pu_x6, pu_x7, pu_x8, Nat.zero_add, pu_m31I, pu_m31, pu_shlI, eq_self, Bool.false_eq_true, Bool.true_eq_false, s3, qc]; rfl
      · simp (disch := omega) only [pv_v, pv_b2, pv_b1, pv_x, pv_lit, pv_ofN, pu_chk, pu_cl, nI_add, pk_mul, nI_leI, nI_ltI, nI_eq, pu_nar0, pu_nar1, pu_narb, bI_0, bI_1, ↓reduceIte, pu_leT, pu_leF, pu_ltT, pu_ltF, pu_eqT, pu_eqF, pu_x1, pu_x2, pu_x3, pu_x4, pu_x5, pu_x6, pu_x7, pu_x8, Nat.zero_add, pu_m31I, pu_m31, pu_shlI, eq_self, Bool.false_eq_true, Bool.true_eq_false, s3, qc]; rfl
  rw [if_neg k5, if_neg (fun q => k5 ((nI_eq (by omega) (by omega)).mp q))]
  by_cases k7 : k = 7
  · subst k7
    rw [if_pos rfl, if_pos rfl]
    unfold f_X2_refusalOfFile f_X2_refusalOfFile_17 f_X2_refusalOfFile_53 f_X2_refusalOfFile_58
    cases e : ix 3 a with
    | none =>
      have := ix_n e
      rw [show (0 : Int32) = nI 0 from rfl, show (3 : Int32) = nI 3 from rfl]
      simp only [lt_ti, le_ti, show (nI 0).toInt = 0 by decide, show (nI 3).toInt = 3 by decide]
      by_cases z : a.toInt < 0
      · rw [if_pos z]; rfl
      · rw [if_neg z, if_pos (by omega)]; rfl
    | some j =>
      obtain ⟨q1, rfl, q3⟩ := ix_s e
      have hub := hu b
      cases e2 : ix (fd 0 0) b with
      | none => rw [e2] at hub; simp (disch := omega) only [pv_v, pv_b2, pv_b1, pv_x, pv_lit, pv_ofN, pu_chk, pu_cl, nI_add, pk_mul, nI_leI, nI_ltI, nI_eq, pu_nar0, pu_nar1, pu_narb, bI_0, bI_1, ↓reduceIte, pu_leT, pu_leF, pu_ltT, pu_ltF, pu_eqT, pu_eqF, pu_x1, pu_x2, pu_x3, pu_x4, pu_x5, pu_x6, pu_x7, pu_x8, Nat.zero_add, pu_m31I, pu_m31, pu_shlI, eq_self, Bool.false_eq_true, Bool.true_eq_false, hub, Option.isNone_none]; rfl
      | some u =>
        obtain ⟨p1, rfl, p3⟩ := ix_s e2
        rw [e2] at hub
        have w3 := hw3 u
        have f10 := hf10 j
        by_cases z : st 0 u = 0
        · simp (disch := omega) only [pv_v, pv_b2, pv_b1, pv_x, pv_lit, pv_ofN, pu_chk, pu_cl, nI_add, pk_mul, nI_leI, nI_ltI, nI_eq, pu_nar0, pu_nar1, pu_narb, bI_0, bI_1, ↓reduceIte, pu_leT, pu_leF, pu_ltT, pu_ltF, pu_eqT, pu_eqF, pu_x1, pu_x2, pu_x3, pu_x4, pu_x5, pu_x6, pu_x7, pu_x8, Nat.zero_add, pu_m31I, pu_m31, pu_shlI, eq_self, Bool.false_eq_true, Bool.true_eq_false, hub, Option.isNone_some, s1 u (by omega), z]; rfl
        · by_cases z2 : st 0 u = j + 1
          · by_cases z3 : st 3 j < 10
            · have z4 : ¬ st 3 j = 10 := by omega
              simp (disch := omega) only [pv_v, pv_b2, pv_b1, pv_x, pv_lit, pv_ofN, pu_chk, pu_cl, nI_add, pk_mul, nI_leI, nI_ltI, nI_eq, pu_nar0, pu_nar1, pu_narb, bI_0, bI_1, ↓reduceIte, pu_leT, pu_leF, pu_ltT, pu_ltF, pu_eqT, pu_eqF, pu_x1, pu_x2, pu_x3, pu_x4, pu_x5, pu_x6, pu_x7, pu_x8, Nat.zero_add, pu_m31I, pu_m31, pu_shlI, eq_self, Bool.false_eq_true, Bool.true_eq_false, hub, Option.isNone_some, s1 u (by omega), z, z2, s4 j (by omega)]
              simp [oI, z4, pu_b2]
            · have z4 : st 3 j = 10 := by omega
              simp (disch := omega) only [pv_v, pv_b2, pv_b1, pv_x, pv_lit, pv_ofN, pu_chk, pu_cl, nI_add, pk_mul, nI_leI, nI_ltI, nI_eq, pu_nar0, pu_nar1, pu_narb, bI_0, bI_1, ↓reduceIte, pu_leT, pu_leF, pu_ltT, pu_ltF, pu_eqT, pu_eqF, pu_x1, pu_x2, pu_x3, pu_x4, pu_x5, pu_x6, pu_x7, pu_x8, Nat.zero_add, pu_m31I, pu_m31, pu_shlI, eq_self, Bool.false_eq_true, Bool.true_eq_false, hub, Option.isNone_some, s1 u (by omega), z, z2, s4 j (by omega), z4]
              simp [oI, pu_b2]
          · simp (disch := omega) only [pv_v, pv_b2, pv_b1, pv_x, pv_lit, pv_ofN, pu_chk, pu_cl, nI_add, pk_mul, nI_leI, nI_ltI, nI_eq, pu_nar0, pu_nar1, pu_narb, bI_0, bI_1, ↓reduceIte, pu_leT, pu_leF, pu_ltT, pu_ltF, pu_eqT, pu_eqF, pu_x1, pu_x2, pu_x3, pu_x4, pu_x5, pu_x6, pu_x7, pu_x8, Nat.zero_add, pu_m31I, pu_m31, pu_shlI, eq_self, Bool.false_eq_true, Bool.true_eq_false, hub, Option.isNone_some, s1 u (by omega), z, z2]
            simp [oI, pu_b2]
  rw [if_neg k7, if_neg (fun q => k7 ((nI_eq (by omega) (by omega)).mp q))]
  have hua := hu a
  unfold f_X2_refusalOf_107
  cases e : ix (fd 0 0) a with
  | none =>
    rw [e] at hua
    unfold f_X2_refusalOfUserAct
    simp (disch := omega) only [pv_v, pv_b2, pv_b1, pv_x, pv_lit, pv_ofN, pu_chk, pu_cl, nI_add, pk_mul, nI_leI, nI_ltI, nI_eq, pu_nar0, pu_nar1, pu_narb, bI_0, bI_1, ↓reduceIte, pu_leT, pu_leF, pu_ltT, pu_ltF, pu_eqT, pu_eqF, pu_x1, pu_x2, pu_x3, pu_x4, pu_x5, pu_x6, pu_x7, pu_x8, Nat.zero_add, pu_m31I, pu_m31, pu_shlI, eq_self, Bool.false_eq_true, Bool.true_eq_false, hua, Option.isNone_none]
    rfl
  | some u =>
    obtain ⟨q1, rfl, q3⟩ := ix_s e
    rw [e] at hua
    have hua : f_X2_noUser (nI u) w = some (bI false, w) := hua
    have w3 := hw3 u
    unfold f_X2_refusalOfUserAct f_X2_refusalOfUserAct_58 f_X2_refusalOfUserAct_73 f_X2_refusalOfUserAct_97 f_X2_refusalOfUserAct_98
    rcases (by omega : k = 2 ∨ k = 3 ∨ k = 4 ∨ k = 6 ∨ k = 8) with rfl | rfl | rfl | rfl | rfl
    · by_cases z : st 0 u = 0
      · simp (disch := omega) only [pv_v, pv_b2, pv_b1, pv_x, pv_lit, pv_ofN, pu_chk, pu_cl, nI_add, pk_mul, nI_leI, nI_ltI, nI_eq, pu_nar0, pu_nar1, pu_narb, bI_0, bI_1, ↓reduceIte, pu_leT, pu_leF, pu_ltT, pu_ltF, pu_eqT, pu_eqF, pu_x1, pu_x2, pu_x3, pu_x4, pu_x5, pu_x6, pu_x7, pu_x8, Nat.zero_add, pu_m31I, pu_m31, pu_shlI, eq_self, Bool.false_eq_true, Bool.true_eq_false, hua, s1 u (by omega), z]; rfl
      · simp (disch := omega) only [pv_v, pv_b2, pv_b1, pv_x, pv_lit, pv_ofN, pu_chk, pu_cl, nI_add, pk_mul, nI_leI, nI_ltI, nI_eq, pu_nar0, pu_nar1, pu_narb, bI_0, bI_1, ↓reduceIte, pu_leT, pu_leF, pu_ltT, pu_ltF, pu_eqT, pu_eqF, pu_x1, pu_x2, pu_x3, pu_x4, pu_x5, pu_x6, pu_x7, pu_x8, Nat.zero_add, pu_m31I, pu_m31, pu_shlI, eq_self, Bool.false_eq_true, Bool.true_eq_false, hua, s1 u (by omega), z]; rfl
    · by_cases z : st 0 u = 0
      · simp (disch := omega) only [pv_v, pv_b2, pv_b1, pv_x, pv_lit, pv_ofN, pu_chk, pu_cl, nI_add, pk_mul, nI_leI, nI_ltI, nI_eq, pu_nar0, pu_nar1, pu_narb, bI_0, bI_1, ↓reduceIte, pu_leT, pu_leF, pu_ltT, pu_ltF, pu_eqT, pu_eqF, pu_x1, pu_x2, pu_x3, pu_x4, pu_x5, pu_x6, pu_x7, pu_x8, Nat.zero_add, pu_m31I, pu_m31, pu_shlI, eq_self, Bool.false_eq_true, Bool.true_eq_false, hua, s1 u (by omega), z]; rfl
      · simp (disch := omega) only [pv_v, pv_b2, pv_b1, pv_x, pv_lit, pv_ofN, pu_chk, pu_cl, nI_add, pk_mul, nI_leI, nI_ltI, nI_eq, pu_nar0, pu_nar1, pu_narb, bI_0, bI_1, ↓reduceIte, pu_leT, pu_leF, pu_ltT, pu_ltF, pu_eqT, pu_eqF, pu_x1, pu_x2, pu_x3, pu_x4, pu_x5, pu_x6, pu_x7, pu_x8, Nat.zero_add, pu_m31I, pu_m31, pu_shlI, eq_self, Bool.false_eq_true, Bool.true_eq_false, hua, s1 u (by omega), z]; rfl
    · obtain ⟨l1, l2, l3, l4⟩ := pu_lo_up hF q1
      unfold f_X2_refusalOfTurn f_X2_refusalOfTurn_15 f_X2_refusalOfTurn_41 f_X2_refusalOfTurn_46
      cases e2 : ix ((fd 0 1) * (fd 0 2)) b with
      | none =>
        have := ix_n e2
        by_cases z : b.toInt < 0
        · have z1 : (b < nI 0) = True := by rw [lt_ti]; exact eq_true (by rw [show (nI 0).toInt = 0 by decide]; exact z)
          simp (disch := omega) only [pv_v, pv_b2, pv_b1, pv_x, pv_lit, pv_ofN, pu_chk, pu_cl, nI_add, pk_mul, nI_leI, nI_ltI, nI_eq, pu_nar0, pu_nar1, pu_narb, bI_0, bI_1, ↓reduceIte, pu_leT, pu_leF, pu_ltT, pu_ltF, pu_eqT, pu_eqF, pu_x1, pu_x2, pu_x3, pu_x4, pu_x5, pu_x6, pu_x7, pu_x8, Nat.zero_add, pu_m31I, pu_m31, pu_shlI, eq_self, Bool.false_eq_true, Bool.true_eq_false, hua, z1]; rfl
        · have z1 : (b < nI 0) = False := by rw [lt_ti]; exact eq_false (by rw [show (nI 0).toInt = 0 by decide]; exact z)
          have z2 : (b < nI ((fd 0 1) * (fd 0 2))) = False := by rw [lt_ti]; exact eq_false (by rw [nI_toInt (by omega)]; omega)
          simp (disch := omega) only [pv_v, pv_b2, pv_b1, pv_x, pv_lit, pv_ofN, pu_chk, pu_cl, nI_add, pk_mul, nI_leI, nI_ltI, nI_eq, pu_nar0, pu_nar1, pu_narb, bI_0, bI_1, ↓reduceIte, pu_leT, pu_leF, pu_ltT, pu_ltF, pu_eqT, pu_eqF, pu_x1, pu_x2, pu_x3, pu_x4, pu_x5, pu_x6, pu_x7, pu_x8, Nat.zero_add, pu_m31I, pu_m31, pu_shlI, eq_self, Bool.false_eq_true, Bool.true_eq_false, hua, z1, hall, z2]; rfl
      | some s =>
        obtain ⟨p1, rfl, p3⟩ := ix_s e2
        by_cases z1 : s < pu_lo fd u
        · have z : ¬ (pu_lo fd u ≤ s ∧ s < pu_up fd u) := by omega
          simp (disch := omega) only [pv_v, pv_b2, pv_b1, pv_x, pv_lit, pv_ofN, pu_chk, pu_cl, nI_add, pk_mul, nI_leI, nI_ltI, nI_eq, pu_nar0, pu_nar1, pu_narb, bI_0, bI_1, ↓reduceIte, pu_leT, pu_leF, pu_ltT, pu_ltF, pu_eqT, pu_eqF, pu_x1, pu_x2, pu_x3, pu_x4, pu_x5, pu_x6, pu_x7, pu_x8, Nat.zero_add, pu_m31I, pu_m31, pu_shlI, eq_self, Bool.false_eq_true, Bool.true_eq_false, hua, hall, c_reachFrom hF hf q1]
          simp [oI]
        · by_cases z2 : s < pu_up fd u
          · simp (disch := omega) only [pv_v, pv_b2, pv_b1, pv_x, pv_lit, pv_ofN, pu_chk, pu_cl, nI_add, pk_mul, nI_leI, nI_ltI, nI_eq, pu_nar0, pu_nar1, pu_narb, bI_0, bI_1, ↓reduceIte, pu_leT, pu_leF, pu_ltT, pu_ltF, pu_eqT, pu_eqF, pu_x1, pu_x2, pu_x3, pu_x4, pu_x5, pu_x6, pu_x7, pu_x8, Nat.zero_add, pu_m31I, pu_m31, pu_shlI, eq_self, Bool.false_eq_true, Bool.true_eq_false, hua, hall, c_reachFrom hF hf q1, c_reachTo hF hf q1]
            simp [oI]
          · simp (disch := omega) only [pv_v, pv_b2, pv_b1, pv_x, pv_lit, pv_ofN, pu_chk, pu_cl, nI_add, pk_mul, nI_leI, nI_ltI, nI_eq, pu_nar0, pu_nar1, pu_narb, bI_0, bI_1, ↓reduceIte, pu_leT, pu_leF, pu_ltT, pu_ltF, pu_eqT, pu_eqF, pu_x1, pu_x2, pu_x3, pu_x4, pu_x5, pu_x6, pu_x7, pu_x8, Nat.zero_add, pu_m31I, pu_m31, pu_shlI, eq_self, Bool.false_eq_true, Bool.true_eq_false, hua, hall, c_reachFrom hF hf q1, c_reachTo hF hf q1]
            simp [oI]
    · have hW : pu_W fd ≤ 594 := hF.2.2.2.2.2.2.2.2
      have e5 : w.1 11 13 = nI (pu_W fd) := e5
      by_cases z : pu_W fd = 0
      · simp (disch := omega) only [pv_v, pv_b2, pv_b1, pv_x, pv_lit, pv_ofN, pu_chk, pu_cl, nI_add, pk_mul, nI_leI, nI_ltI, nI_eq, pu_nar0, pu_nar1, pu_narb, bI_0, bI_1, ↓reduceIte, pu_leT, pu_leF, pu_ltT, pu_ltF, pu_eqT, pu_eqF, pu_x1, pu_x2, pu_x3, pu_x4, pu_x5, pu_x6, pu_x7, pu_x8, Nat.zero_add, pu_m31I, pu_m31, pu_shlI, eq_self, Bool.false_eq_true, Bool.true_eq_false, hua, e5, z]; rfl
      · simp (disch := omega) only [pv_v, pv_b2, pv_b1, pv_x, pv_lit, pv_ofN, pu_chk, pu_cl, nI_add, pk_mul, nI_leI, nI_ltI, nI_eq, pu_nar0, pu_nar1, pu_narb, bI_0, bI_1, ↓reduceIte, pu_leT, pu_leF, pu_ltT, pu_ltF, pu_eqT, pu_eqF, pu_x1, pu_x2, pu_x3, pu_x4, pu_x5, pu_x6, pu_x7, pu_x8, Nat.zero_add, pu_m31I, pu_m31, pu_shlI, eq_self, Bool.false_eq_true, Bool.true_eq_false, hua, e5, z]; rfl
    · have hub := hu b
      unfold f_X2_refusalOfSwap f_X2_refusalOfSwap_54
      cases e2 : ix (fd 0 0) b with
      | none => rw [e2] at hub; simp (disch := omega) only [pv_v, pv_b2, pv_b1, pv_x, pv_lit, pv_ofN, pu_chk, pu_cl, nI_add, pk_mul, nI_leI, nI_ltI, nI_eq, pu_nar0, pu_nar1, pu_narb, bI_0, bI_1, ↓reduceIte, pu_leT, pu_leF, pu_ltT, pu_ltF, pu_eqT, pu_eqF, pu_x1, pu_x2, pu_x3, pu_x4, pu_x5, pu_x6, pu_x7, pu_x8, Nat.zero_add, pu_m31I, pu_m31, pu_shlI, eq_self, Bool.false_eq_true, Bool.true_eq_false, hua, hub, Option.isNone_none]; rfl
      | some o =>
        obtain ⟨p1, rfl, p3⟩ := ix_s e2
        rw [e2] at hub
        have hub : f_X2_noUser (nI o) w = some (bI false, w) := hub
        have t0 := hF.2.2.1
        have t1 := (hF.2.2.2.2.2.1 u q1).2.2.2.2
        have t2 := (hF.2.2.2.2.2.1 o p1).2.2.2.2
        have lu := wS_lt hF hS u
        have lo := wS_lt hF hS o
        by_cases z : fd 3 u = fd 3 o
        · by_cases z2 : st 1 u = st 1 o
          · simp (disch := omega) only [pv_v, pv_b2, pv_b1, pv_x, pv_lit, pv_ofN, pu_chk, pu_cl, nI_add, pk_mul, nI_leI, nI_ltI, nI_eq, pu_nar0, pu_nar1, pu_narb, bI_0, bI_1, ↓reduceIte, pu_leT, pu_leF, pu_ltT, pu_ltF, pu_eqT, pu_eqF, pu_x1, pu_x2, pu_x3, pu_x4, pu_x5, pu_x6, pu_x7, pu_x8, Nat.zero_add, pu_m31I, pu_m31, pu_shlI, eq_self, Bool.false_eq_true, Bool.true_eq_false, hua, hub, (e6 u q1).2.2, (e6 o p1).2.2, z, s2 u (by omega), s2 o (by omega), lc_0, z2]; rfl
          · simp (disch := omega) only [pv_v, pv_b2, pv_b1, pv_x, pv_lit, pv_ofN, pu_chk, pu_cl, nI_add, pk_mul, nI_leI, nI_ltI, nI_eq, pu_nar0, pu_nar1, pu_narb, bI_0, bI_1, ↓reduceIte, pu_leT, pu_leF, pu_ltT, pu_ltF, pu_eqT, pu_eqF, pu_x1, pu_x2, pu_x3, pu_x4, pu_x5, pu_x6, pu_x7, pu_x8, Nat.zero_add, pu_m31I, pu_m31, pu_shlI, eq_self, Bool.false_eq_true, Bool.true_eq_false, hua, hub, (e6 u q1).2.2, (e6 o p1).2.2, z, s2 u (by omega), s2 o (by omega), lc_0, z2]; rfl
        · simp (disch := omega) only [pv_v, pv_b2, pv_b1, pv_x, pv_lit, pv_ofN, pu_chk, pu_cl, nI_add, pk_mul, nI_leI, nI_ltI, nI_eq, pu_nar0, pu_nar1, pu_narb, bI_0, bI_1, ↓reduceIte, pu_leT, pu_leF, pu_ltT, pu_ltF, pu_eqT, pu_eqF, pu_x1, pu_x2, pu_x3, pu_x4, pu_x5, pu_x6, pu_x7, pu_x8, Nat.zero_add, pu_m31I, pu_m31, pu_shlI, eq_self, Bool.false_eq_true, Bool.true_eq_false, hua, hub, (e6 u q1).2.2, (e6 o p1).2.2, z]; rfl
end CWHY
