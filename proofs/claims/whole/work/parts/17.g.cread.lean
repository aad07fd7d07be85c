/-! pure part: a FIELD is read, the class's loops (wip/whole/pure/17.g.cread.src) -/
def uok (p : Pt) (u : Nat) : Bool := decide (p.2.2.2.1 u 2 < p.2.1 1) && (decide (p.2.2.2.1 u 3 < 2 ^ p.2.1 0) && decide (p.2.2.2.1 u 4 < (if p.2.2.2.1 u 2 + 1 < p.2.1 1 then 2 ^ p.2.1 0 else 1)))
def whP (p : Pt) : Prop := 0 < p.2.2.1 ∧ ∀ u, u < p.2.2.1 → uok p u = true
section CREAD
variable {T : Nat} {tp : Nat → Nat} {w w' : am_S} {i j o : Nat} {p : Pt}
theorem itR_0 : itR T tp 0 i = itm T tp 0 5 0 (itus 0) i := rfl
theorem itR_1 : itR T tp 1 i = itm T tp 1 6 0 (itus 1) i := rfl
theorem itR_2 : itR T tp 2 i = itm T tp 2 3 0 (itus 2) i := rfl
theorem itR_le {t : Nat} (h : i ≤ T) : (itR T tp t i).2.1 ≤ T := itm_le h
theorem cls_W : ∀ {f i : Nat} {p : Pt}, pW p → pW (cls T tp f p i).2 := by
  intro f
  induction f with
  | zero => intro i p h; exact h
  | succ f ih =>
    intro i p h
    by_cases c3 : kl p (sg T tp (nB T tp i)) = 3
    · rw [cls_3 c3]; exact h
    · have hlt : kl p (sg T tp (nB T tp i)) < 3 := by have := kl_le (p := p) (c := sg T tp (nB T tp i)); omega
      generalize ht : kl p (sg T tp (nB T tp i)) = t at hlt
      by_cases c1 : (itR T tp t (nB T tp i + 1)).1 = 1
      · by_cases c0 : sg T tp (itR T tp t (nB T tp i + 1)).2.1 = 0
        · rw [cls_e ht hlt c1 c0]; exact h.A ht hlt
        · rw [cls_g ht hlt c1 c0]; exact ih (h.A ht hlt)
      · rw [cls_f ht hlt c1]; exact h
theorem cls_le (hT : tW T tp) : ∀ {f i e : Nat} {p : Pt}, i ≤ T → (cls T tp f p i).1 = some e → e ≤ T := by
  intro f
  induction f with
  | zero => intro i e p h he; cases he; exact h
  | succ f ih =>
    intro i e p h he
    have hn := nB_le (tp := tp) h
    by_cases c3 : kl p (sg T tp (nB T tp i)) = 3
    · rw [cls_3 c3] at he; cases he; exact hn.2
    · have hj := kl_lt (c := 0) hT c3
      have hlt : kl p (sg T tp (nB T tp i)) < 3 := by have := kl_le (p := p) (c := sg T tp (nB T tp i)); omega
      generalize ht : kl p (sg T tp (nB T tp i)) = t at hlt
      have hr : (itR T tp t (nB T tp i + 1)).2.1 ≤ T := itR_le hj
      by_cases c1 : (itR T tp t (nB T tp i + 1)).1 = 1
      · by_cases c0 : sg T tp (itR T tp t (nB T tp i + 1)).2.1 = 0
        · rw [cls_e ht hlt c1 c0] at he; cases he
        · rw [cls_g ht hlt c1 c0] at he
          refine ih ?_ he
          rcases Nat.lt_or_ge (itR T tp t (nB T tp i + 1)).2.1 T with q | q
          · exact q
          · exact absurd ((sg_0 hT).mpr q) c0
      · rw [cls_f ht hlt c1] at he; cases he; exact hr
theorem oL_1 : ∀ q ∈ [1, o + 1], q ∈ oL o := by
  intro q hq
  simp only [List.mem_cons, List.not_mem_nil, or_false] at hq
  unfold oL
  simp only [List.mem_cons, List.not_mem_nil, or_false]
  omega
theorem c1.oo (h : c1 w w') : eqx (oL o) w w' := h.2.up (fun q hq => by simp only [List.mem_cons, List.not_mem_nil, or_false] at hq; subst hq; simp [oL])
theorem c_readClause (ho : 2 < o) (hT : tW T tp) (h : cTp T tp w) (hp : pW p) (hC : cPt o p w) (hi : i ≤ T) (ha : w.1 1 2 = nI i) {t : Nat} (ht : kl p (sg T tp (nB T tp i)) = t) : Wp (f_X1_readClause o w) (fun q => (t = 3 → q.1 = nI 0 ∧ q.2.1 1 2 = nI (nB T tp i)) ∧ (t < 3 → (itR T tp t (nB T tp i + 1)).1 ≠ 1 → q.1 = nI 0 ∧ q.2.1 1 2 = nI (itR T tp t (nB T tp i + 1)).2.1) ∧ (t < 3 → (itR T tp t (nB T tp i + 1)).1 = 1 → q.1 = nI 1 ∧ q.2.1 1 2 = nI (itR T tp t (nB T tp i + 1)).2.1 ∧ cPt o (pA p t (itR T tp t (nB T tp i + 1)).2.2) q.2) ∧ q.2.1 1 1 = w.1 1 1 ∧ eqx (oL o) w q.2) := by
  have hT1 := hT.1
  have hn := nB_le (tp := tp) hi
  obtain ⟨⟨v, w1⟩, t1, t2, t3, t4, t5⟩ := c_nextSign hT h hi ha
  have t2 : v = nI (sg T tp (nB T tp i)) := t2
  subst t2
  have t3 : w1.1 1 2 = nI (nB T tp i) := t3
  have t5 : c1 w w1 := t5
  have hs := sg_lt hT (i := nB T tp i)
  have hC1 : cPt o p w1 := hC.fr (t5.2.r (by simp only [List.mem_cons, List.not_mem_nil, or_false]; omega)) (fun k k1 k2 => t5.2.r (by simp only [List.mem_cons, List.not_mem_nil, or_false]; omega))
  have x1 : eqx (oL o) w w1 := t5.oo
  have hj3 : kl p (sg T tp (nB T tp i)) ≠ 3 → nB T tp i < T := fun q => kl_lt (c := 0) hT q
  generalize hc : sg T tp (nB T tp i) = c at *
  generalize nB T tp i = j at *
  obtain ⟨g7, g8, g9, g10, g11, g12, g13, g14, g15, g16⟩ := id hC1
  have hu10 := hp.1
  have hd6 := hp.2.1
  have ht3 : t ≤ 3 := by rw [← ht]; exact kl_le
  have h' : t = 0 ∨ t = 1 ∨ t = 2 ∨ t = 3 := by omega
  unfold f_X1_readClause f_X1_readClause_55 f_X1_readClause_98 f_X1_readClause_141 f_X1_readClause_143
  rcases h' with rfl | rfl | rfl | rfl
  · obtain ⟨rfl, k2⟩ := kl_0 ht
    rw [k2] at g14
    have hj := hj3 (by rw [ht]; omega)
    obtain ⟨⟨v, w2⟩, u1, u2, u3, u4, u5, u6⟩ := c_readItems0 (by omega) hT (t5.t h) ho hj t3
    rw [← itR_0] at u2 u3 u4
    have u2 : v = bI (decide ((itR T tp 0 (j + 1)).1 = 1)) := u2
    subst u2
    have u3 : w2.1 1 2 = nI (itR T tp 0 (j + 1)).2.1 := u3
    have u6 : eqx [1, o + 1] w1 w2 := u6
    have x2 : eqx (oL o) w w2 := x1.on (u6.up oL_1)
    have m2 : w2.1 1 1 = w.1 1 1 := u5.trans t5.1
    by_cases e : (itR T tp 0 (j + 1)).1 = 1
    · rw [decide_eq_true e] at u1
      have hC2 : cPt o p w2 := hC1.fr (u6.r (by simp only [List.mem_cons, List.not_mem_nil, or_false]; omega)) (fun k k1 k2 => u6.r (by simp only [List.mem_cons, List.not_mem_nil, or_false]; omega))
      obtain ⟨w3, y1, y2, y3, y4⟩ := c_keepRules ho hC2 (it := (itR T tp 0 (j + 1)).2.2) (fun k hk => u4 k hk e)
      refine Wp.of (r := (nI 1, am_pi w3 o 14 (nI 1))) (by simp (disch := omega) only [pv_v, pv_b2, pv_b1, pv_x, pv_lit, pv_ofN, pu_chk, pu_cl, nI_add, pk_mul, nI_leI, nI_ltI, nI_eq, pu_nar0, pu_nar1, pu_narb, bI_0, bI_1, ↓reduceIte, pu_leT, pu_leF, pu_ltT, pu_ltF, pu_eqT, pu_eqF, pu_x1, pu_x2, pu_x3, pu_x4, pu_x5, pu_x6, pu_x7, pu_x8, Nat.zero_add, pu_m31I, pu_m31, pu_shlI, eq_self, Bool.false_eq_true, Bool.true_eq_false, t1, g14, u1, y1]) ⟨fun q => absurd q (by omega), fun _ q => absurd e q, fun _ _ => ⟨rfl, ?_, y2⟩, ?_, (x2.on y4).on (eqx.pi (by simp [oL]))⟩
      · show (am_pi w3 o 14 (nI 1)).1 1 2 = _
        rw [pi_p (by omega), y3]; exact u3
      · show (am_pi w3 o 14 (nI 1)).1 1 1 = _
        rw [pi_p (by omega), y3]; exact m2
    · rw [decide_eq_false e] at u1
      exact Wp.of (r := (nI 0, w2)) (by simp (disch := omega) only [pv_v, pv_b2, pv_b1, pv_x, pv_lit, pv_ofN, pu_chk, pu_cl, nI_add, pk_mul, nI_leI, nI_ltI, nI_eq, pu_nar0, pu_nar1, pu_narb, bI_0, bI_1, ↓reduceIte, pu_leT, pu_leF, pu_ltT, pu_ltF, pu_eqT, pu_eqF, pu_x1, pu_x2, pu_x3, pu_x4, pu_x5, pu_x6, pu_x7, pu_x8, Nat.zero_add, pu_m31I, pu_m31, pu_shlI, eq_self, Bool.false_eq_true, Bool.true_eq_false, t1, g14, u1]) ⟨fun q => absurd q (by omega), fun _ _ => ⟨rfl, u3⟩, fun _ q => absurd q e, m2, x2⟩
  · obtain ⟨rfl, k2⟩ := kl_1 ht
    have hj := hj3 (by rw [ht]; omega)
    obtain ⟨⟨v, w2⟩, u1, u2, u3, u4, u5, u6⟩ := c_readItems1 (by omega) hT (t5.t h) ho hj t3
    rw [← itR_1] at u2 u3 u4
    have u2 : v = bI (decide ((itR T tp 1 (j + 1)).1 = 1)) := u2
    subst u2
    have u3 : w2.1 1 2 = nI (itR T tp 1 (j + 1)).2.1 := u3
    have u6 : eqx [1, o + 1] w1 w2 := u6
    have x2 : eqx (oL o) w w2 := x1.on (u6.up oL_1)
    have m2 : w2.1 1 1 = w.1 1 1 := u5.trans t5.1
    by_cases e : (itR T tp 1 (j + 1)).1 = 1
    · rw [decide_eq_true e] at u1
      have hC2 : cPt o p w2 := hC1.fr (u6.r (by simp only [List.mem_cons, List.not_mem_nil, or_false]; omega)) (fun k k1 k2 => u6.r (by simp only [List.mem_cons, List.not_mem_nil, or_false]; omega))
      obtain ⟨w3, y1, y2, y3, y4⟩ := c_keepUser ho hC2 k2 (it := (itR T tp 1 (j + 1)).2.2) (fun k hk => u4 k hk e)
      refine Wp.of (r := (nI 1, w3)) (by simp (disch := omega) only [pv_v, pv_b2, pv_b1, pv_x, pv_lit, pv_ofN, pu_chk, pu_cl, nI_add, pk_mul, nI_leI, nI_ltI, nI_eq, pu_nar0, pu_nar1, pu_narb, bI_0, bI_1, ↓reduceIte, pu_leT, pu_leF, pu_ltT, pu_ltF, pu_eqT, pu_eqF, pu_x1, pu_x2, pu_x3, pu_x4, pu_x5, pu_x6, pu_x7, pu_x8, Nat.zero_add, pu_m31I, pu_m31, pu_shlI, eq_self, Bool.false_eq_true, Bool.true_eq_false, t1, g11, u1, y1]) ⟨fun q => absurd q (by omega), fun _ q => absurd e q, fun _ _ => ⟨rfl, ?_, y2⟩, ?_, x2.on y4⟩
      · show w3.1 1 2 = _
        rw [y3]; exact u3
      · show w3.1 1 1 = _
        rw [y3]; exact m2
    · rw [decide_eq_false e] at u1
      exact Wp.of (r := (nI 0, w2)) (by simp (disch := omega) only [pv_v, pv_b2, pv_b1, pv_x, pv_lit, pv_ofN, pu_chk, pu_cl, nI_add, pk_mul, nI_leI, nI_ltI, nI_eq, pu_nar0, pu_nar1, pu_narb, bI_0, bI_1, ↓reduceIte, pu_leT, pu_leF, pu_ltT, pu_ltF, pu_eqT, pu_eqF, pu_x1, pu_x2, pu_x3, pu_x4, pu_x5, pu_x6, pu_x7, pu_x8, Nat.zero_add, pu_m31I, pu_m31, pu_shlI, eq_self, Bool.false_eq_true, Bool.true_eq_false, t1, g11, u1]) ⟨fun q => absurd q (by omega), fun _ _ => ⟨rfl, u3⟩, fun _ q => absurd q e, m2, x2⟩
  · obtain ⟨rfl, k2⟩ := kl_2 ht
    have hj := hj3 (by rw [ht]; omega)
    obtain ⟨⟨v, w2⟩, u1, u2, u3, u4, u5, u6⟩ := c_readItems2 (by omega) hT (t5.t h) ho hj t3
    rw [← itR_2] at u2 u3 u4
    have u2 : v = bI (decide ((itR T tp 2 (j + 1)).1 = 1)) := u2
    subst u2
    have u3 : w2.1 1 2 = nI (itR T tp 2 (j + 1)).2.1 := u3
    have u6 : eqx [1, o + 1] w1 w2 := u6
    have x2 : eqx (oL o) w w2 := x1.on (u6.up oL_1)
    have m2 : w2.1 1 1 = w.1 1 1 := u5.trans t5.1
    by_cases e : (itR T tp 2 (j + 1)).1 = 1
    · rw [decide_eq_true e] at u1
      have hC2 : cPt o p w2 := hC1.fr (u6.r (by simp only [List.mem_cons, List.not_mem_nil, or_false]; omega)) (fun k k1 k2 => u6.r (by simp only [List.mem_cons, List.not_mem_nil, or_false]; omega))
      have hv : (itR T tp 2 (j + 1)).2.2 0 ≤ 6 := (itR_v (T := T) (tp := tp) (i := j + 1) (t := 2) (k := 0) (by omega) (by decide)).2
      obtain ⟨w3, y1, y2, y3, y4⟩ := c_keepDegree ho hC2 (it := (itR T tp 2 (j + 1)).2.2) (fun k hk => u4 k hk e) (by omega)
      refine Wp.of (r := (nI 1, w3)) (by simp (disch := omega) only [pv_v, pv_b2, pv_b1, pv_x, pv_lit, pv_ofN, pu_chk, pu_cl, nI_add, pk_mul, nI_leI, nI_ltI, nI_eq, pu_nar0, pu_nar1, pu_narb, bI_0, bI_1, ↓reduceIte, pu_leT, pu_leF, pu_ltT, pu_ltF, pu_eqT, pu_eqF, pu_x1, pu_x2, pu_x3, pu_x4, pu_x5, pu_x6, pu_x7, pu_x8, Nat.zero_add, pu_m31I, pu_m31, pu_shlI, eq_self, Bool.false_eq_true, Bool.true_eq_false, t1, g12, u1, y1]) ⟨fun q => absurd q (by omega), fun _ q => absurd e q, fun _ _ => ⟨rfl, ?_, y2⟩, ?_, x2.on y4⟩
      · show w3.1 1 2 = _
        rw [y3]; exact u3
      · show w3.1 1 1 = _
        rw [y3]; exact m2
    · rw [decide_eq_false e] at u1
      exact Wp.of (r := (nI 0, w2)) (by simp (disch := omega) only [pv_v, pv_b2, pv_b1, pv_x, pv_lit, pv_ofN, pu_chk, pu_cl, nI_add, pk_mul, nI_leI, nI_ltI, nI_eq, pu_nar0, pu_nar1, pu_narb, bI_0, bI_1, ↓reduceIte, pu_leT, pu_leF, pu_ltT, pu_ltF, pu_eqT, pu_eqF, pu_x1, pu_x2, pu_x3, pu_x4, pu_x5, pu_x6, pu_x7, pu_x8, Nat.zero_add, pu_m31I, pu_m31, pu_shlI, eq_self, Bool.false_eq_true, Bool.true_eq_false, t1, g12, u1]) ⟨fun q => absurd q (by omega), fun _ _ => ⟨rfl, u3⟩, fun _ q => absurd q e, m2, x2⟩
  · obtain ⟨k1, k2, k3⟩ := kl_3 ht
    refine Wp.of (r := (nI 0, w1)) ?_ ⟨fun _ => ⟨rfl, t3⟩, fun q => absurd q (by omega), fun q => absurd q (by omega), t5.1, x1⟩
    by_cases c1 : c = 115
    · subst c1
      have e1 : p.1 = true := by cases e : p.1 with | false => exact absurd ⟨rfl, e⟩ k1 | true => rfl
      rw [e1] at g14
      simp (disch := omega) only [pv_v, pv_b2, pv_b1, pv_x, pv_lit, pv_ofN, pu_chk, pu_cl, nI_add, pk_mul, nI_leI, nI_ltI, nI_eq, pu_nar0, pu_nar1, pu_narb, bI_0, bI_1, ↓reduceIte, pu_leT, pu_leF, pu_ltT, pu_ltF, pu_eqT, pu_eqF, pu_x1, pu_x2, pu_x3, pu_x4, pu_x5, pu_x6, pu_x7, pu_x8, Nat.zero_add, pu_m31I, pu_m31, pu_shlI, eq_self, Bool.false_eq_true, Bool.true_eq_false, t1, g14]
    · by_cases c2 : c = 117
      · subst c2
        have : ¬ p.2.2.1 < 10 := fun q => k2 ⟨rfl, q⟩
        simp (disch := omega) only [pv_v, pv_b2, pv_b1, pv_x, pv_lit, pv_ofN, pu_chk, pu_cl, nI_add, pk_mul, nI_leI, nI_ltI, nI_eq, pu_nar0, pu_nar1, pu_narb, bI_0, bI_1, ↓reduceIte, pu_leT, pu_leF, pu_ltT, pu_ltF, pu_eqT, pu_eqF, pu_x1, pu_x2, pu_x3, pu_x4, pu_x5, pu_x6, pu_x7, pu_x8, Nat.zero_add, pu_m31I, pu_m31, pu_shlI, eq_self, Bool.false_eq_true, Bool.true_eq_false, t1, g11]
      · by_cases c3 : c = 100
        · subst c3
          have : ¬ p.2.2.2.2.1 < 6 := fun q => k3 ⟨rfl, q⟩
          simp (disch := omega) only [pv_v, pv_b2, pv_b1, pv_x, pv_lit, pv_ofN, pu_chk, pu_cl, nI_add, pk_mul, nI_leI, nI_ltI, nI_eq, pu_nar0, pu_nar1, pu_narb, bI_0, bI_1, ↓reduceIte, pu_leT, pu_leF, pu_ltT, pu_ltF, pu_eqT, pu_eqF, pu_x1, pu_x2, pu_x3, pu_x4, pu_x5, pu_x6, pu_x7, pu_x8, Nat.zero_add, pu_m31I, pu_m31, pu_shlI, eq_self, Bool.false_eq_true, Bool.true_eq_false, t1, g12]
        · simp (disch := omega) only [pv_v, pv_b2, pv_b1, pv_x, pv_lit, pv_ofN, pu_chk, pu_cl, nI_add, pk_mul, nI_leI, nI_ltI, nI_eq, pu_nar0, pu_nar1, pu_narb, bI_0, bI_1, ↓reduceIte, pu_leT, pu_leF, pu_ltT, pu_ltF, pu_eqT, pu_eqF, pu_x1, pu_x2, pu_x3, pu_x4, pu_x5, pu_x6, pu_x7, pu_x8, Nat.zero_add, pu_m31I, pu_m31, pu_shlI, eq_self, Bool.false_eq_true, Bool.true_eq_false, t1, c1, c2, c3]
theorem pu_div0 {a n : Nat} : (a / 2 ^ n = 0) = (a < 2 ^ n) := propext (Nat.div_eq_zero_iff_lt (Nat.two_pow_pos n))
theorem c_fits (hp : pW p) (hC : cPt o p w) : Wp (f_X1_fitsTogether o w) (fun q => q.2 = w ∧ (whP p → q.1 = nI 1) ∧ (¬ whP p → q.1 = nI 0)) := by
  obtain ⟨g7, g8, g9, g10, g11, g12, g13, g14, g15, g16⟩ := id hC
  obtain ⟨p1, p2, p3, p4, p5⟩ := hp
  have hS : p.2.1 0 ≤ 12 := (p3 0 (by omega)).2
  have hF : p.2.1 1 ≤ 4 := (p3 1 (by omega)).2
  unfold f_X1_fitsTogether f_X1_fitsTogether_2
  refine Wp.for (fun u w => (nI u, w)) (fun u w' => w' = w ∧ ∀ v, v < u → uok p v = true) p.2.2.1 (by omega) (w := w) rfl ⟨rfl, fun v hv => absurd hv (by omega)⟩ (fun u w' hu hI => ?_) (fun w' hI => ?_)
  · obtain ⟨rfl, i1⟩ := hI
    have e2 : w'.1 (o + 4) u = nI (p.2.2.2.1 u 2) := g15 u hu 2 (by omega)
    have e3 : w'.1 (o + 5) u = nI (p.2.2.2.1 u 3) := g15 u hu 3 (by omega)
    have e4 : w'.1 (o + 6) u = nI (p.2.2.2.1 u 4) := g15 u hu 4 (by omega)
    have b2 : p.2.2.2.1 u 2 ≤ 3 := (p4 u hu 2 (by omega)).2
    have b3 : p.2.2.2.1 u 3 ≤ 4095 := (p4 u hu 3 (by omega)).2
    have b4 : p.2.2.2.1 u 4 ≤ 4095 := (p4 u hu 4 (by omega)).2
    have d3 : p.2.2.2.1 u 3 / 2 ^ p.2.1 0 ≤ 4095 := Nat.le_trans (Nat.div_le_self _ _) b3
    have d4 : p.2.2.2.1 u 4 / 2 ^ p.2.1 0 ≤ 4095 := Nat.le_trans (Nat.div_le_self _ _) b4
    unfold f_X1_fitsTogether_2b f_X1_fitsTogether_30 f_X1_fitsTogether_58 f_X1_fitsTogether_92 f_X1_fitsTogether_90
    have bad : uok p u = false → Wp (some (Sum.inl (nI 0, w') : (Int32 × am_S) ⊕ (Int32 × am_S))) (Sum.elim (fun q => q.2 = w' ∧ (whP p → q.1 = nI 1) ∧ (¬ whP p → q.1 = nI 0)) (fun s' => ∃ w'', s' = (nI (u + 1), w'') ∧ w'' = w' ∧ ∀ v, v < u + 1 → uok p v = true)) := fun hb => Wp.some ⟨rfl, fun q => absurd (q.2 u hu) (by rw [hb]; decide), fun _ => rfl⟩
    have good : uok p u = true → Wp (some (Sum.inr (nI (u + 1), w') : (Int32 × am_S) ⊕ (Int32 × am_S))) (Sum.elim (fun q => q.2 = w' ∧ (whP p → q.1 = nI 1) ∧ (¬ whP p → q.1 = nI 0)) (fun s' => ∃ w'', s' = (nI (u + 1), w'') ∧ w'' = w' ∧ ∀ v, v < u + 1 → uok p v = true)) := fun hb => Wp.some ⟨w', rfl, rfl, fun v hv => by
      by_cases c : v = u
      · rw [c]; exact hb
      · exact i1 v (by omega)⟩
    by_cases c1 : p.2.2.2.1 u 2 < p.2.1 1
    · by_cases c3 : p.2.2.2.1 u 3 < 2 ^ p.2.1 0
      · have z3 : p.2.2.2.1 u 3 / 2 ^ p.2.1 0 = 0 := by rw [pu_div0]; exact c3
        by_cases c2 : p.2.2.2.1 u 2 + 1 < p.2.1 1
        · by_cases c4 : p.2.2.2.1 u 4 < 2 ^ p.2.1 0
          · have z4 : p.2.2.2.1 u 4 / 2 ^ p.2.1 0 = 0 := by rw [pu_div0]; exact c4
            have hb : uok p u = true := by unfold uok; rw [if_pos c2, decide_eq_true c1, decide_eq_true c3, decide_eq_true c4]; rfl
            conv => arg 1; simp (disch := omega) only [pv_v, pv_b2, pv_b1, pv_x, pv_lit, pv_ofN, pu_chk, pu_cl, nI_add, pk_mul, nI_leI, nI_ltI, nI_eq, pu_nar0, pu_nar1, pu_narb, bI_0, bI_1, ↓reduceIte, pu_leT, pu_leF, pu_ltT, pu_ltF, pu_eqT, pu_eqF, pu_x1, pu_x2, pu_x3, pu_x4, pu_x5, pu_x6, pu_x7, pu_x8, Nat.zero_add, pu_m31I, pu_m31, pu_shlI, eq_self, Bool.false_eq_true, Bool.true_eq_false, g11, e2, e3, e4, g7, g8, pu_shrI, z3, z4]
            exact good hb
          · have z4 : ¬ p.2.2.2.1 u 4 / 2 ^ p.2.1 0 = 0 := by rw [pu_div0]; exact c4
            have hb : uok p u = false := by unfold uok; rw [if_pos c2, decide_eq_false c4, Bool.and_false, Bool.and_false]
            conv => arg 1; simp (disch := omega) only [pv_v, pv_b2, pv_b1, pv_x, pv_lit, pv_ofN, pu_chk, pu_cl, nI_add, pk_mul, nI_leI, nI_ltI, nI_eq, pu_nar0, pu_nar1, pu_narb, bI_0, bI_1, ↓reduceIte, pu_leT, pu_leF, pu_ltT, pu_ltF, pu_eqT, pu_eqF, pu_x1, pu_x2, pu_x3, pu_x4, pu_x5, pu_x6, pu_x7, pu_x8, Nat.zero_add, pu_m31I, pu_m31, pu_shlI, eq_self, Bool.false_eq_true, Bool.true_eq_false, g11, e2, e3, e4, g7, g8, pu_shrI, z3, z4]
            exact bad hb
        · by_cases c4 : p.2.2.2.1 u 4 = 0
          · have hb : uok p u = true := by unfold uok; rw [if_neg c2, decide_eq_true c1, decide_eq_true c3, c4]; rfl
            rw [c4] at e4
            conv => arg 1; simp (disch := omega) only [pv_v, pv_b2, pv_b1, pv_x, pv_lit, pv_ofN, pu_chk, pu_cl, nI_add, pk_mul, nI_leI, nI_ltI, nI_eq, pu_nar0, pu_nar1, pu_narb, bI_0, bI_1, ↓reduceIte, pu_leT, pu_leF, pu_ltT, pu_ltF, pu_eqT, pu_eqF, pu_x1, pu_x2, pu_x3, pu_x4, pu_x5, pu_x6, pu_x7, pu_x8, Nat.zero_add, pu_m31I, pu_m31, pu_shlI, eq_self, Bool.false_eq_true, Bool.true_eq_false, g11, e2, e3, e4, g7, g8, pu_shrI, z3]
            exact good hb
          · have hb : uok p u = false := by unfold uok; rw [if_neg c2, decide_eq_false (show ¬ p.2.2.2.1 u 4 < 1 by omega), Bool.and_false, Bool.and_false]
            conv => arg 1; simp (disch := omega) only [pv_v, pv_b2, pv_b1, pv_x, pv_lit, pv_ofN, pu_chk, pu_cl, nI_add, pk_mul, nI_leI, nI_ltI, nI_eq, pu_nar0, pu_nar1, pu_narb, bI_0, bI_1, ↓reduceIte, pu_leT, pu_leF, pu_ltT, pu_ltF, pu_eqT, pu_eqF, pu_x1, pu_x2, pu_x3, pu_x4, pu_x5, pu_x6, pu_x7, pu_x8, Nat.zero_add, pu_m31I, pu_m31, pu_shlI, eq_self, Bool.false_eq_true, Bool.true_eq_false, g11, e2, e3, e4, g7, g8, pu_shrI, z3, c4]
            exact bad hb
      · have z3 : ¬ p.2.2.2.1 u 3 / 2 ^ p.2.1 0 = 0 := by rw [pu_div0]; exact c3
        have hb : uok p u = false := by unfold uok; rw [decide_eq_false c3, Bool.false_and, Bool.and_false]
        by_cases c2 : p.2.2.2.1 u 2 + 1 < p.2.1 1
        · conv => arg 1; simp (disch := omega) only [pv_v, pv_b2, pv_b1, pv_x, pv_lit, pv_ofN, pu_chk, pu_cl, nI_add, pk_mul, nI_leI, nI_ltI, nI_eq, pu_nar0, pu_nar1, pu_narb, bI_0, bI_1, ↓reduceIte, pu_leT, pu_leF, pu_ltT, pu_ltF, pu_eqT, pu_eqF, pu_x1, pu_x2, pu_x3, pu_x4, pu_x5, pu_x6, pu_x7, pu_x8, Nat.zero_add, pu_m31I, pu_m31, pu_shlI, eq_self, Bool.false_eq_true, Bool.true_eq_false, g11, e2, e3, g7, g8, pu_shrI, z3]
          exact bad hb
        · conv => arg 1; simp (disch := omega) only [pv_v, pv_b2, pv_b1, pv_x, pv_lit, pv_ofN, pu_chk, pu_cl, nI_add, pk_mul, nI_leI, nI_ltI, nI_eq, pu_nar0, pu_nar1, pu_narb, bI_0, bI_1, ↓reduceIte, pu_leT, pu_leF, pu_ltT, pu_ltF, pu_eqT, pu_eqF, pu_x1, pu_x2, pu_x3, pu_x4, pu_x5, pu_x6, pu_x7, pu_x8, Nat.zero_add, pu_m31I, pu_m31, pu_shlI, eq_self, Bool.false_eq_true, Bool.true_eq_false, g11, e2, e3, g7, g8, pu_shrI, z3]
          exact bad hb
    · have hb : uok p u = false := by unfold uok; rw [decide_eq_false c1, Bool.false_and]
      conv => arg 1; simp (disch := omega) only [pv_v, pv_b2, pv_b1, pv_x, pv_lit, pv_ofN, pu_chk, pu_cl, nI_add, pk_mul, nI_leI, nI_ltI, nI_eq, pu_nar0, pu_nar1, pu_narb, bI_0, bI_1, ↓reduceIte, pu_leT, pu_leF, pu_ltT, pu_ltF, pu_eqT, pu_eqF, pu_x1, pu_x2, pu_x3, pu_x4, pu_x5, pu_x6, pu_x7, pu_x8, Nat.zero_add, pu_m31I, pu_m31, pu_shlI, eq_self, Bool.false_eq_true, Bool.true_eq_false, g11, e2, g8]
      exact bad hb
  · obtain ⟨rfl, i1⟩ := hI
    unfold f_X1_fitsTogether_2b f_X1_fitsTogether_110
    by_cases c : 0 < p.2.2.1
    · refine Wp.ofl (a := (nI 1, w')) (by simp (disch := omega) only [pv_v, pv_b2, pv_b1, pv_x, pv_lit, pv_ofN, pu_chk, pu_cl, nI_add, pk_mul, nI_leI, nI_ltI, nI_eq, pu_nar0, pu_nar1, pu_narb, bI_0, bI_1, ↓reduceIte, pu_leT, pu_leF, pu_ltT, pu_ltF, pu_eqT, pu_eqF, pu_x1, pu_x2, pu_x3, pu_x4, pu_x5, pu_x6, pu_x7, pu_x8, Nat.zero_add, pu_m31I, pu_m31, pu_shlI, eq_self, Bool.false_eq_true, Bool.true_eq_false, g11]) ⟨rfl, fun _ => rfl, fun q => absurd ⟨c, i1⟩ q⟩
    · have c0 : p.2.2.1 = 0 := by omega
      rw [c0] at g11
      rw [c0]
      refine Wp.ofl (a := (nI 0, w')) (by simp (disch := omega) only [pv_v, pv_b2, pv_b1, pv_x, pv_lit, pv_ofN, pu_chk, pu_cl, nI_add, pk_mul, nI_leI, nI_ltI, nI_eq, pu_nar0, pu_nar1, pu_narb, bI_0, bI_1, ↓reduceIte, pu_leT, pu_leF, pu_ltT, pu_ltF, pu_eqT, pu_eqF, pu_x1, pu_x2, pu_x3, pu_x4, pu_x5, pu_x6, pu_x7, pu_x8, Nat.zero_add, pu_m31I, pu_m31, pu_shlI, eq_self, Bool.false_eq_true, Bool.true_eq_false, g11]) ⟨rfl, fun q => absurd q.1 c, fun _ => rfl⟩
theorem oL_2 (ho : 2 < o) : 2 ∉ oL o := by
  unfold oL
  simp only [List.mem_cons, List.not_mem_nil, or_false]
  omega
theorem c_begin (ho : 2 < o) : ∃ w', f_X1_begin o w = some w' ∧ cPt o p0 w' ∧ w'.1 1 = w.1 1 ∧ eqx (oL o) w w' := by
  have v0 := svu0 0 (by omega)
  have v1 := svu0 1 (by omega)
  have v2 := svu0 2 (by omega)
  have v3 := svu0 3 (by omega)
  have hx : eqx (oL o) w (am_pi (am_pi (am_pi (am_pi (am_pi (am_pi (am_pi (am_pi w o 7 (nI (itus 0 0))) o 8 (nI (itus 0 1))) o 9 (nI (itus 0 2))) o 10 (nI (itus 0 3))) o 11 (nI 0)) o 12 (nI 0)) o 13 (nI 0)) o 14 (nI 0)) := (((((((eqx.pi (by simp [oL])).on (eqx.pi (by simp [oL]))).on (eqx.pi (by simp [oL]))).on (eqx.pi (by simp [oL]))).on (eqx.pi (by simp [oL]))).on (eqx.pi (by simp [oL]))).on (eqx.pi (by simp [oL]))).on (eqx.pi (by simp [oL]))
  refine ⟨am_fill (am_pi (am_pi (am_pi (am_pi (am_pi (am_pi (am_pi (am_pi w o 7 (nI (itus 0 0))) o 8 (nI (itus 0 1))) o 9 (nI (itus 0 2))) o 10 (nI (itus 0 3))) o 11 (nI 0)) o 12 (nI 0)) o 13 (nI 0)) o 14 (nI 0)) (o + 7) 7 (nI 0), ?_, ?_, ?_, hx.on (eqx.fill (by simp [oL]))⟩
  · unfold f_X1_begin f_X1_keepRules_x0
    simp (disch := omega) only [pv_v, pv_b2, pv_b1, pv_x, pv_lit, pv_ofN, pu_chk, pu_cl, nI_add, pk_mul, nI_leI, nI_ltI, nI_eq, pu_nar0, pu_nar1, pu_narb, bI_0, bI_1, ↓reduceIte, pu_leT, pu_leF, pu_ltT, pu_ltF, pu_eqT, pu_eqF, pu_x1, pu_x2, pu_x3, pu_x4, pu_x5, pu_x6, pu_x7, pu_x8, Nat.zero_add, pu_m31I, pu_m31, pu_shlI, eq_self, Bool.false_eq_true, Bool.true_eq_false, v0, v1, v2, v3, c_fill]
  · refine ⟨?_, ?_, ?_, ?_, ?_, ?_, ?_, ?_, fun u hu => absurd hu (Nat.not_lt_zero _), fun k hk => ?_⟩
    · rw [fill_p (by omega)]; simp only [pi_g]; simp; rfl
    · rw [fill_p (by omega)]; simp only [pi_g]; simp; rfl
    · rw [fill_p (by omega)]; simp only [pi_g]; simp; rfl
    · rw [fill_p (by omega)]; simp only [pi_g]; simp; rfl
    · rw [fill_p (by omega)]; simp only [pi_g]; simp; rfl
    · rw [fill_p (by omega)]; simp only [pi_g]; simp; rfl
    · rw [fill_p (by omega)]; simp only [pi_g]; simp; rfl
    · rw [fill_p (by omega)]; simp only [pi_g]; simp; rfl
    · rw [fill_in hk]; rfl
  · rw [fill_p (by omega), pi_p (by omega), pi_p (by omega), pi_p (by omega), pi_p (by omega), pi_p (by omega), pi_p (by omega), pi_p (by omega), pi_p (by omega)]
theorem pW_0 : pW p0 := ⟨Nat.zero_le _, Nat.zero_le _, us_in 0 (by omega), fun u hu => absurd hu (Nat.not_lt_zero _), fun u hu => absurd hu (Nat.not_lt_zero _)⟩
theorem c_readFrom (ho : 2 < o) (hT : tW T tp) (h : cTp T tp w) : Wp (f_X1_readFrom o w) (fun q => (∀ e, (cls T tp 241 p0 0).1 = some e → q.1 = nI e) ∧ ((cls T tp 241 p0 0).1 = none → whP (cls T tp 241 p0 0).2 → q.1 = -nI 1 ∧ cPt o (cls T tp 241 p0 0).2 q.2) ∧ ((cls T tp 241 p0 0).1 = none → ¬ whP (cls T tp 241 p0 0).2 → q.1 = nI T) ∧ q.2.1 1 1 = w.1 1 1 ∧ eqx (oL o) w q.2) := by
  have hT1 := hT.1
  obtain ⟨w0, b1, b2, b3, b4⟩ := c_begin (w := w) ho
  generalize hR : cls T tp 241 p0 0 = R
  unfold f_X1_readFrom
  rw [b1, pv_b1, pv_v, show (0 : Int32) = nI 0 from rfl]
  unfold f_X1_readFrom_11
  refine Wp.loop (fun c s => ∃ w' f p' i', s = (nI c, w') ∧ f + c = 241 ∧ cls T tp f p' i' = R ∧ pW p' ∧ cPt o p' w' ∧ i' ≤ T ∧ w'.1 1 2 = nI i' ∧ w'.1 1 1 = w.1 1 1 ∧ eqx (oL o) w w') 241 (by decide) ⟨_, 241, p0, 0, rfl, rfl, hR, pW_0, b2.fr (pi_p (by omega)) (fun k k1 k2 => pi_p (by omega)), Nat.zero_le _, pi_same, by rw [pi_k (by omega), b3], b4.on (eqx.pi (by simp [oL]))⟩ ?_
  rintro c s hc ⟨w', f, p', i', rfl, hf, hcl, a1, a2, a3, a4, a5, a6⟩
  have hTw : cTp T tp w' := h.fr a5 (a6.r (oL_2 ho))
  unfold f_X1_readFrom_11b f_X1_readFrom_53
  cases f with
  | zero =>
    rw [cls] at hcl
    subst hcl
    exact Wp.ofl (a := (nI i', w')) (by simp (disch := omega) only [pv_v, pv_b2, pv_b1, pv_x, pv_lit, pv_ofN, pu_chk, pu_cl, nI_add, pk_mul, nI_leI, nI_ltI, nI_eq, pu_nar0, pu_nar1, pu_narb, bI_0, bI_1, ↓reduceIte, pu_leT, pu_leF, pu_ltT, pu_ltF, pu_eqT, pu_eqF, pu_x1, pu_x2, pu_x3, pu_x4, pu_x5, pu_x6, pu_x7, pu_x8, Nat.zero_add, pu_m31I, pu_m31, pu_shlI, eq_self, Bool.false_eq_true, Bool.true_eq_false, a4]) ⟨(fun e he => by cases he; rfl), (fun q => by cases q), (fun q => by cases q), a5, a6⟩
  | succ f =>
    have hn := nB_le (tp := tp) a3
    generalize ht : kl p' (sg T tp (nB T tp i')) = t
    have ht3 : t ≤ 3 := by rw [← ht]; exact kl_le
    obtain ⟨⟨v, w1⟩, t1, t2, t3, t4, q5, q6⟩ := c_readClause ho hT hTw a1 a2 a3 a4 ht
    have t5 : w1.1 1 1 = w.1 1 1 := q5.trans a5
    have t6 : eqx (oL o) w w1 := a6.on q6
    clear q5 q6
    by_cases c3 : t = 3
    · obtain ⟨u1, u2⟩ := t2 c3
      have u1 : v = nI 0 := u1
      subst u1
      have u2 : w1.1 1 2 = nI (nB T tp i') := u2
      rw [cls_3 (by rw [ht]; exact c3)] at hcl
      subst hcl
      exact Wp.ofl (a := (nI (nB T tp i'), w1)) (by simp (disch := omega) only [pv_v, pv_b2, pv_b1, pv_x, pv_lit, pv_ofN, pu_chk, pu_cl, nI_add, pk_mul, nI_leI, nI_ltI, nI_eq, pu_nar0, pu_nar1, pu_narb, bI_0, bI_1, ↓reduceIte, pu_leT, pu_leF, pu_ltT, pu_ltF, pu_eqT, pu_eqF, pu_x1, pu_x2, pu_x3, pu_x4, pu_x5, pu_x6, pu_x7, pu_x8, Nat.zero_add, pu_m31I, pu_m31, pu_shlI, eq_self, Bool.false_eq_true, Bool.true_eq_false, t1, u2]) ⟨(fun e he => by cases he; rfl), (fun q => by cases q), (fun q => by cases q), t5, t6⟩
    · have hlt : t < 3 := by omega
      have hj := kl_lt (c := 0) hT (show kl p' (sg T tp (nB T tp i')) ≠ 3 by rw [ht]; exact c3)
      have hr : (itR T tp t (nB T tp i' + 1)).2.1 ≤ T := itR_le hj
      by_cases e1 : (itR T tp t (nB T tp i' + 1)).1 = 1
      · obtain ⟨u1, u2, u3⟩ := t4 hlt e1
        have u1 : v = nI 1 := u1
        subst u1
        have u2 : w1.1 1 2 = nI (itR T tp t (nB T tp i' + 1)).2.1 := u2
        have u3 : cPt o (pA p' t (itR T tp t (nB T tp i' + 1)).2.2) w1 := u3
        have hW2 : pW (pA p' t (itR T tp t (nB T tp i' + 1)).2.2) := a1.A ht hlt
        have hnb : nB T tp (itR T tp t (nB T tp i' + 1)).2.1 = (itR T tp t (nB T tp i' + 1)).2.1 := (itm_s hj).2.2 (by show (itR T tp t (nB T tp i' + 1)).1 ≤ 1; omega)
        have hT2 : cTp T tp w1 := h.fr t5 (t6.r (oL_2 ho))
        obtain ⟨⟨v, w2⟩, y1, y2, y3, y4, y5⟩ := c_nextSign hT hT2 hr u2
        rw [hnb] at y2 y3
        have y2 : v = nI (sg T tp (itR T tp t (nB T tp i' + 1)).2.1) := y2
        subst y2
        have y3 : w2.1 1 2 = nI (itR T tp t (nB T tp i' + 1)).2.1 := y3
        have y5 : c1 w1 w2 := y5
        have x2 : eqx (oL o) w w2 := t6.on y5.oo
        have m2 : w2.1 1 1 = w.1 1 1 := y5.1.trans t5
        have hs := sg_lt hT (i := (itR T tp t (nB T tp i' + 1)).2.1)
        have hC2 : cPt o (pA p' t (itR T tp t (nB T tp i' + 1)).2.2) w2 := u3.fr (y5.2.r (by simp only [List.mem_cons, List.not_mem_nil, or_false]; omega)) (fun k k1 k2 => y5.2.r (by simp only [List.mem_cons, List.not_mem_nil, or_false]; omega))
        by_cases e0 : sg T tp (itR T tp t (nB T tp i' + 1)).2.1 = 0
        · rw [cls_e ht hlt e1 e0] at hcl
          subst hcl
          obtain ⟨⟨v, w3⟩, z1, z2, z3, z4⟩ := c_fits hW2 hC2
          have z2 : w3 = w2 := z2
          subst z2
          rw [e0] at y1
          by_cases hw : whP (pA p' t (itR T tp t (nB T tp i' + 1)).2.2)
          · have z5 : v = nI 1 := z3 hw
            subst z5
            exact Wp.ofl (a := (-nI 1, w3)) (by simp (disch := omega) only [pv_v, pv_b2, pv_b1, pv_x, pv_lit, pv_ofN, pu_chk, pu_cl, nI_add, pk_mul, nI_leI, nI_ltI, nI_eq, pu_nar0, pu_nar1, pu_narb, bI_0, bI_1, ↓reduceIte, pu_leT, pu_leF, pu_ltT, pu_ltF, pu_eqT, pu_eqF, pu_x1, pu_x2, pu_x3, pu_x4, pu_x5, pu_x6, pu_x7, pu_x8, Nat.zero_add, pu_m31I, pu_m31, pu_shlI, eq_self, Bool.false_eq_true, Bool.true_eq_false, t1, y1, z1]) ⟨fun e he => (by cases he), fun _ _ => ⟨rfl, hC2⟩, fun _ q => absurd hw q, m2, x2⟩
          · have z5 : v = nI 0 := z4 hw
            subst z5
            have m3 : w3.1 1 1 = nI T := m2.trans h.1
            exact Wp.ofl (a := (nI T, w3)) (by simp (disch := omega) only [pv_v, pv_b2, pv_b1, pv_x, pv_lit, pv_ofN, pu_chk, pu_cl, nI_add, pk_mul, nI_leI, nI_ltI, nI_eq, pu_nar0, pu_nar1, pu_narb, bI_0, bI_1, ↓reduceIte, pu_leT, pu_leF, pu_ltT, pu_ltF, pu_eqT, pu_eqF, pu_x1, pu_x2, pu_x3, pu_x4, pu_x5, pu_x6, pu_x7, pu_x8, Nat.zero_add, pu_m31I, pu_m31, pu_shlI, eq_self, Bool.false_eq_true, Bool.true_eq_false, t1, y1, z1, m3]) ⟨fun e he => (by cases he), fun _ q => absurd q hw, fun _ _ => rfl, m2, x2⟩
        · rw [cls_g ht hlt e1 e0] at hcl
          have hlt2 : (itR T tp t (nB T tp i' + 1)).2.1 < T := by
            rcases Nat.lt_or_ge (itR T tp t (nB T tp i' + 1)).2.1 T with q | q
            · exact q
            · exact absurd ((sg_0 hT).mpr q) e0
          exact Wp.ofr (a := (nI (c + 1), am_pi w2 1 2 (nI ((itR T tp t (nB T tp i' + 1)).2.1 + 1)))) (by simp (disch := omega) only [pv_v, pv_b2, pv_b1, pv_x, pv_lit, pv_ofN, pu_chk, pu_cl, nI_add, pk_mul, nI_leI, nI_ltI, nI_eq, pu_nar0, pu_nar1, pu_narb, bI_0, bI_1, ↓reduceIte, pu_leT, pu_leF, pu_ltT, pu_ltF, pu_eqT, pu_eqF, pu_x1, pu_x2, pu_x3, pu_x4, pu_x5, pu_x6, pu_x7, pu_x8, Nat.zero_add, pu_m31I, pu_m31, pu_shlI, eq_self, Bool.false_eq_true, Bool.true_eq_false, t1, y1, e0, y3]) ⟨by omega, _, f, _, _, rfl, by omega, hcl, hW2, hC2.fr (pi_p (by omega)) (fun k k1 k2 => pi_p (by omega)), hlt2, pi_same, by rw [pi_k (by omega)]; exact m2, x2.on (eqx.pi (by simp [oL]))⟩
      · obtain ⟨u1, u2⟩ := t3 hlt e1
        have u1 : v = nI 0 := u1
        subst u1
        have u2 : w1.1 1 2 = nI (itR T tp t (nB T tp i' + 1)).2.1 := u2
        rw [cls_f ht hlt e1] at hcl
        subst hcl
        exact Wp.ofl (a := (nI (itR T tp t (nB T tp i' + 1)).2.1, w1)) (by simp (disch := omega) only [pv_v, pv_b2, pv_b1, pv_x, pv_lit, pv_ofN, pu_chk, pu_cl, nI_add, pk_mul, nI_leI, nI_ltI, nI_eq, pu_nar0, pu_nar1, pu_narb, bI_0, bI_1, ↓reduceIte, pu_leT, pu_leF, pu_ltT, pu_ltF, pu_eqT, pu_eqF, pu_x1, pu_x2, pu_x3, pu_x4, pu_x5, pu_x6, pu_x7, pu_x8, Nat.zero_add, pu_m31I, pu_m31, pu_shlI, eq_self, Bool.false_eq_true, Bool.true_eq_false, t1, u2]) ⟨(fun e he => by cases he; rfl), (fun q => by cases q), (fun q => by cases q), t5, t6⟩
end CREAD
