/-! pure part: a FIELD is read, the reference's loop (wip/whole/pure/17.i.rfield.src) -/
section RFIELD
variable {T : Nat} {tp : Nat → Nat} {w w' : am_S} {i j o : Nat} {p : Pt}
theorem rPt.A0 {it : Nat → Nat} (h : rPt p w) (hx : r2 273 w w') (hit : ∀ k, k < 4 → w'.1 273 k = nI (it k)) : rPt (pA p 0 it) w' := by
  obtain ⟨g8, g9, g3, g4, g5⟩ := h
  rw [pA_0]
  refine ⟨by rw [hx.1 8 (by omega) (by omega)]; exact g8, by rw [hx.1 9 (by omega) (by omega)]; exact g9, hit, ?_, ?_⟩
  · rw [hx.2.r (by decide)]; exact g4
  · rw [hx.2.r (by decide)]; exact g5
theorem rPt.A1 {it : Nat → Nat} (h : rPt p w) (hx : r2 274 w w') (hit : ∀ k, k < 5 → w'.1 274 (5 * p.2.2.1 + k) = nI (it k)) (hold : ∀ j, j < 5 * p.2.2.1 ∨ 5 * p.2.2.1 + 5 ≤ j → w'.1 274 j = w.1 274 j) : rPt (pA p 1 it) (am_pi w' 271 8 (nI (p.2.2.1 + 1))) := by
  obtain ⟨g8, g9, g3, g4, g5⟩ := h
  rw [pA_1]
  refine ⟨pi_same, ?_, ?_, fun u hu k hk => ?_, ?_⟩
  · rw [pi_k (by omega), hx.1 9 (by omega) (by omega)]; exact g9
  · rw [pi_p (by omega), hx.2.r (by decide)]; exact g3
  · have hu : u < p.2.2.1 + 1 := hu
    rw [pi_p (by omega)]
    show _ = nI (upp p.2.2.2.1 p.2.2.1 it u k)
    unfold upp
    by_cases c : u = p.2.2.1
    · rw [if_pos c, c]; exact hit k hk
    · rw [if_neg c, hold _ (by omega)]; exact g4 u (by omega) k hk
  · rw [pi_p (by omega), hx.2.r (by decide)]; exact g5
theorem rPt.A2 {it : Nat → Nat} (h : rPt p w) (hx : r2 275 w w') (hit : ∀ k, k < 2 → w'.1 275 (2 * p.2.2.2.2.1 + k) = nI (it k)) (hold : ∀ j, j < 2 * p.2.2.2.2.1 ∨ 2 * p.2.2.2.2.1 + 2 ≤ j → w'.1 275 j = w.1 275 j) : rPt (pA p 2 it) (am_pi w' 271 9 (nI (p.2.2.2.2.1 + 1))) := by
  obtain ⟨g8, g9, g3, g4, g5⟩ := h
  rw [pA_2]
  refine ⟨?_, pi_same, ?_, ?_, fun u hu k hk => ?_⟩
  · rw [pi_k (by omega), hx.1 8 (by omega) (by omega)]; exact g8
  · rw [pi_p (by omega), hx.2.r (by decide)]; exact g3
  · rw [pi_p (by omega), hx.2.r (by decide)]; exact g4
  · have hu : u < p.2.2.2.2.1 + 1 := hu
    rw [pi_p (by omega)]
    show _ = nI (upp p.2.2.2.2.2 p.2.2.2.2.1 it u k)
    unfold upp
    by_cases c : u = p.2.2.2.2.1
    · rw [if_pos c, c]; exact hit k hk
    · rw [if_neg c, hold _ (by omega)]; exact g5 u (by omega) k hk
theorem rPt.pi3 {k : Nat} {v : Int32} (h : rPt p w) (hk : k = 3 ∨ k = 4) : rPt p (am_pi w 271 k v) := h.r1 (r1.pi hk)
theorem itm_c {t : Nat} : ∀ {f had i : Nat} {it : Nat → Nat}, (itm T tp t f had it i).1 ≤ 3 := by
  intro f
  induction f with
  | zero => intro had i it; exact Nat.le_refl 3
  | succ f ih =>
    intro had i it
    by_cases c : sg T tp (nB T tp i) = 0 ∨ sg T tp (nB T tp i) = 59
    · rw [itm_e c]; show 1 ≤ 3; omega
    · cases e : lx t (sg T tp (nB T tp i)) with
      | none => rw [itm_n c e]; show 0 ≤ 3; omega
      | some k =>
        cases eh : had.testBit k with
        | true => rw [itm_h c e eh]; show 0 ≤ 3; omega
        | false =>
          cases en : (nM T tp (itlo t k) (ithi t k) (nB T tp i + 1)).1 with
          | false => rw [itm_f c e eh en]; show 2 ≤ 3; omega
          | true => rw [itm_g c e eh en]; exact ih
/-- a CLAUSE, up to its ITEMS -/
theorem r_clause (hT : tW T tp) (h : rTp T tp w) (hp : pW p) (hC : rPt p w) (hi : i ≤ T) (ha : w.1 271 3 = nI i) (hw : w.1 271 4 = -nI 1) {t : Nat} (ht : kl p (sg T tp (nB T tp i)) = t) : ∃ w1 x1, f_X12_readField_49b (bI p.1) (nI 1) w = f_X12_readField_214 x1 w1 ∧ r3 w w1 ∧ (t = 3 → w1.1 271 4 = nI (nB T tp i) ∧ w1.1 271 3 = nI (nB T tp i)) ∧ (t < 3 → w1.1 271 3 = nI (itR T tp t (nB T tp i + 1)).2.1 ∧ w1.1 271 4 = (if (itR T tp t (nB T tp i + 1)).1 = 2 then nI (itR T tp t (nB T tp i + 1)).2.1 else -nI 1) ∧ ((itR T tp t (nB T tp i + 1)).1 = 1 → x1 = bI (pA p t (itR T tp t (nB T tp i + 1)).2.2).1 ∧ rPt (pA p t (itR T tp t (nB T tp i + 1)).2.2) w1)) := by
  have hT1 := hT.1
  have hn := nB_le (tp := tp) hi
  obtain ⟨⟨v, w1⟩, t1, q2, q3, q4, q5⟩ := r_next hT h hi ha
  have t2 : v = sI (sg T tp (nB T tp i)) := q2
  subst t2
  have t3 : w1.1 271 3 = nI (nB T tp i) := q3
  have t4' : w1.1 271 4 = -nI 1 := q4.trans hw
  have t5 : r1 w w1 := q5
  clear q2 q3 q4 q5
  have hs := sg_lt hT (i := nB T tp i)
  have hC1 : rPt p w1 := hC.r1 t5
  have hj3 : kl p (sg T tp (nB T tp i)) ≠ 3 → nB T tp i < T := fun q => kl_lt (c := 0) hT q
  have hs0 := sg_0 hT (i := nB T tp i)
  generalize hc : sg T tp (nB T tp i) = c at *
  generalize nB T tp i = j at *
  obtain ⟨g8, g9, g3, g4, g5⟩ := id hC1
  have hu10 := hp.1
  have hd6 := hp.2.1
  have ht3 : t ≤ 3 := by rw [← ht]; exact kl_le
  have h' : t = 0 ∨ t = 1 ∨ t = 2 ∨ t = 3 := by omega
  have a3 : rTp T tp (am_pi w1 271 3 (nI (j + 1))) := (t5.on (r1.pi (k := 3) (by omega))).t h
  have a4 : (am_pi w1 271 3 (nI (j + 1))).1 271 4 = -nI 1 := by rw [pi_k (by omega)]; exact t4'
  have b8 : (am_pi w1 271 3 (nI (j + 1))).1 271 8 = nI p.2.2.1 := by rw [pi_k (by omega)]; exact g8
  have b9 : (am_pi w1 271 3 (nI (j + 1))).1 271 9 = nI p.2.2.2.2.1 := by rw [pi_k (by omega)]; exact g9
  have hC2 : rPt p (am_pi w1 271 3 (nI (j + 1))) := hC1.pi3 (by omega)
  have x2 : r3 w (am_pi w1 271 3 (nI (j + 1))) := (t5.on (r1.pi (by omega))).r3
  unfold f_X12_readField_49b f_X12_readField_102 f_X12_readField_156 f_X12_readField_210
  rcases h' with rfl | rfl | rfl | rfl
  · obtain ⟨rfl, k2⟩ := kl_0 ht
    have hj := hj3 (by rw [ht]; omega)
    obtain ⟨w2, u1, u2, u3, u4, u5, u6⟩ := r_items0 (w := am_pi w1 271 3 (nI (j + 1))) (p2 := 273) (m2 := 4) (fr := 0) (by omega) (by omega) (by omega) hT a3 hj pi_same a4
    rw [← itR_0] at u2 u3 u4
    refine ⟨w2, nI 1, ?_, x2.on (u6.r3 (by omega)), fun q => absurd q (by omega), fun _ => ⟨u2, u3, fun e => ⟨rfl, hC2.A0 u6 (fun k hk => ?_)⟩⟩⟩
    · rw [k2, bI_f]
      have e5 : sI 115 = nI 115 := rfl
      simp (disch := omega) only [pv_v, pv_b2, pv_b1, pv_x, pv_lit, pv_ofN, pu_chk, pu_cl, nI_add, pk_mul, nI_leI, nI_ltI, nI_eq, pu_nar0, pu_nar1, pu_narb, bI_0, bI_1, ↓reduceIte, pu_leT, pu_leF, pu_ltT, pu_ltF, pu_eqT, pu_eqF, pu_x1, pu_x2, pu_x3, pu_x4, pu_x5, pu_x6, pu_x7, pu_x8, Nat.zero_add, pu_m31I, pu_m31, pu_shlI, eq_self, Bool.false_eq_true, Bool.true_eq_false, hw, t1, e5, t3, u1]
    · have := u4 e k hk
      rwa [Nat.zero_add] at this
  · obtain ⟨rfl, k2⟩ := kl_1 ht
    have hj := hj3 (by rw [ht]; omega)
    obtain ⟨w2, u1, u2, u3, u4, u5, u6⟩ := r_items1 (w := am_pi w1 271 3 (nI (j + 1))) (p2 := 274) (m2 := 50) (fr := 5 * p.2.2.1) (by omega) (by omega) (by omega) hT a3 hj pi_same a4
    rw [← itR_1] at u2 u3 u4
    have z8 : w2.1 271 8 = nI p.2.2.1 := by rw [u6.1 8 (by omega) (by omega)]; exact b8
    refine ⟨am_pi w2 271 8 (nI (p.2.2.1 + 1)), bI p.1, ?_, (x2.on (u6.r3 (by omega))).on (r3.pi (by omega)), fun q => absurd q (by omega), fun _ => ⟨by rw [pi_k (by omega)]; exact u2, by rw [pi_k (by omega)]; exact u3, fun e => ⟨rfl, hC2.A1 u6 (fun k hk => u4 e k hk) u5⟩⟩⟩
    have e5 : sI 117 = nI 117 := rfl
    simp (disch := omega) only [pv_v, pv_b2, pv_b1, pv_x, pv_lit, pv_ofN, pu_chk, pu_cl, nI_add, pk_mul, nI_leI, nI_ltI, nI_eq, pu_nar0, pu_nar1, pu_narb, bI_0, bI_1, ↓reduceIte, pu_leT, pu_leF, pu_ltT, pu_ltF, pu_eqT, pu_eqF, pu_x1, pu_x2, pu_x3, pu_x4, pu_x5, pu_x6, pu_x7, pu_x8, Nat.zero_add, pu_m31I, pu_m31, pu_shlI, eq_self, Bool.false_eq_true, Bool.true_eq_false, hw, t1, e5, t3, g8, b8, u1, z8]
  · obtain ⟨rfl, k2⟩ := kl_2 ht
    have hj := hj3 (by rw [ht]; omega)
    obtain ⟨w2, u1, u2, u3, u4, u5, u6⟩ := r_items2 (w := am_pi w1 271 3 (nI (j + 1))) (p2 := 275) (m2 := 12) (fr := 2 * p.2.2.2.2.1) (by omega) (by omega) (by omega) hT a3 hj pi_same a4
    rw [← itR_2] at u2 u3 u4
    have z9 : w2.1 271 9 = nI p.2.2.2.2.1 := by rw [u6.1 9 (by omega) (by omega)]; exact b9
    refine ⟨am_pi w2 271 9 (nI (p.2.2.2.2.1 + 1)), bI p.1, ?_, (x2.on (u6.r3 (by omega))).on (r3.pi (by omega)), fun q => absurd q (by omega), fun _ => ⟨by rw [pi_k (by omega)]; exact u2, by rw [pi_k (by omega)]; exact u3, fun e => ⟨rfl, hC2.A2 u6 (fun k hk => u4 e k hk) u5⟩⟩⟩
    have e5 : sI 100 = nI 100 := rfl
    simp (disch := omega) only [pv_v, pv_b2, pv_b1, pv_x, pv_lit, pv_ofN, pu_chk, pu_cl, nI_add, pk_mul, nI_leI, nI_ltI, nI_eq, pu_nar0, pu_nar1, pu_narb, bI_0, bI_1, ↓reduceIte, pu_leT, pu_leF, pu_ltT, pu_ltF, pu_eqT, pu_eqF, pu_x1, pu_x2, pu_x3, pu_x4, pu_x5, pu_x6, pu_x7, pu_x8, Nat.zero_add, pu_m31I, pu_m31, pu_shlI, eq_self, Bool.false_eq_true, Bool.true_eq_false, hw, t1, e5, t3, g9, b9, u1, z9]
  · obtain ⟨k1, k2, k3⟩ := kl_3 ht
    refine ⟨am_pi w1 271 4 (nI j), bI p.1, ?_, (t5.on (r1.pi (by omega))).r3, fun _ => ⟨pi_same, by rw [pi_k (by omega)]; exact t3⟩, fun q => absurd q (by omega)⟩
    have hb := r_bad t3 t4'
    have es : ∀ m, 0 < m → m < 2 ^ 31 → (sI c = nI m) = (c = m) := fun m h1 h2 => sI_eq (by omega) h1 h2
    by_cases c1 : c = 115
    · subst c1
      have e1 : p.1 = true := by cases e : p.1 with | false => exact absurd ⟨rfl, e⟩ k1 | true => rfl
      rw [e1, bI_t]
      have e5 : sI 115 = nI 115 := rfl
      simp (disch := omega) only [pv_v, pv_b2, pv_b1, pv_x, pv_lit, pv_ofN, pu_chk, pu_cl, nI_add, pk_mul, nI_leI, nI_ltI, nI_eq, pu_nar0, pu_nar1, pu_narb, bI_0, bI_1, ↓reduceIte, pu_leT, pu_leF, pu_ltT, pu_ltF, pu_eqT, pu_eqF, pu_x1, pu_x2, pu_x3, pu_x4, pu_x5, pu_x6, pu_x7, pu_x8, Nat.zero_add, pu_m31I, pu_m31, pu_shlI, eq_self, Bool.false_eq_true, Bool.true_eq_false, hw, t1, e5, hb]
    · by_cases c2 : c = 117
      · subst c2
        have : ¬ p.2.2.1 < 10 := fun q => k2 ⟨rfl, q⟩
        have e5 : sI 117 = nI 117 := rfl
        simp (disch := omega) only [pv_v, pv_b2, pv_b1, pv_x, pv_lit, pv_ofN, pu_chk, pu_cl, nI_add, pk_mul, nI_leI, nI_ltI, nI_eq, pu_nar0, pu_nar1, pu_narb, bI_0, bI_1, ↓reduceIte, pu_leT, pu_leF, pu_ltT, pu_ltF, pu_eqT, pu_eqF, pu_x1, pu_x2, pu_x3, pu_x4, pu_x5, pu_x6, pu_x7, pu_x8, Nat.zero_add, pu_m31I, pu_m31, pu_shlI, eq_self, Bool.false_eq_true, Bool.true_eq_false, hw, t1, e5, g8, hb]
      · by_cases c3 : c = 100
        · subst c3
          have : ¬ p.2.2.2.2.1 < 6 := fun q => k3 ⟨rfl, q⟩
          have e5 : sI 100 = nI 100 := rfl
          simp (disch := omega) only [pv_v, pv_b2, pv_b1, pv_x, pv_lit, pv_ofN, pu_chk, pu_cl, nI_add, pk_mul, nI_leI, nI_ltI, nI_eq, pu_nar0, pu_nar1, pu_narb, bI_0, bI_1, ↓reduceIte, pu_leT, pu_leF, pu_ltT, pu_ltF, pu_eqT, pu_eqF, pu_x1, pu_x2, pu_x3, pu_x4, pu_x5, pu_x6, pu_x7, pu_x8, Nat.zero_add, pu_m31I, pu_m31, pu_shlI, eq_self, Bool.false_eq_true, Bool.true_eq_false, hw, t1, e5, g9, hb]
        · simp (disch := omega) only [pv_v, pv_b2, pv_b1, pv_x, pv_lit, pv_ofN, pu_chk, pu_cl, nI_add, pk_mul, nI_leI, nI_ltI, nI_eq, pu_nar0, pu_nar1, pu_narb, bI_0, bI_1, ↓reduceIte, pu_leT, pu_leF, pu_ltT, pu_ltF, pu_eqT, pu_eqF, pu_x1, pu_x2, pu_x3, pu_x4, pu_x5, pu_x6, pu_x7, pu_x8, Nat.zero_add, pu_m31I, pu_m31, pu_shlI, eq_self, Bool.false_eq_true, Bool.true_eq_false, hw, t1, es, c1, c2, c3, hb]
theorem r_258 (hT : tW T tp) (h : rTp T tp w) {R : Option Nat × Pt} (hf : (∃ e, R.1 = some e ∧ e ≤ T ∧ w.1 271 4 = nI e) ∨ (∃ e, R.1 = some e ∧ e ≤ T ∧ w.1 271 4 = -nI 1 ∧ w.1 271 3 = nI e ∧ nB T tp e = e ∧ sg T tp e ≠ 0) ∨ (R.1 = none ∧ w.1 271 4 = -nI 1 ∧ w.1 271 3 = nI T ∧ rPt R.2 w ∧ pW R.2)) : Wp (f_X12_readField_258 w) (fun q => (∀ e, R.1 = some e → q.1 = nI e) ∧ (R.1 = none → whP R.2 → q.1 = -nI 1 ∧ rPt R.2 q.2) ∧ (R.1 = none → ¬ whP R.2 → q.1 = nI T) ∧ r3 w q.2) := by
  have hT1 := hT.1
  unfold f_X12_readField_258 f_X12_readField_281 f_X12_readField_285
  rcases hf with ⟨e, r1', e1, e2⟩ | ⟨e, r1', e1, e2, e3, e4, e5⟩ | ⟨r1', e2, e3, e4, e5⟩
  · exact Wp.of (r := (nI e, w)) (by simp (disch := omega) only [pv_v, pv_b2, pv_b1, pv_x, pv_lit, pv_ofN, pu_chk, pu_cl, nI_add, pk_mul, nI_leI, nI_ltI, nI_eq, pu_nar0, pu_nar1, pu_narb, bI_0, bI_1, ↓reduceIte, pu_leT, pu_leF, pu_ltT, pu_ltF, pu_eqT, pu_eqF, pu_x1, pu_x2, pu_x3, pu_x4, pu_x5, pu_x6, pu_x7, pu_x8, Nat.zero_add, pu_m31I, pu_m31, pu_shlI, eq_self, Bool.false_eq_true, Bool.true_eq_false, e2]) ⟨fun e' he => by rw [r1'] at he; cases he; rfl, (fun q => by rw [r1'] at q; cases q), (fun q => by rw [r1'] at q; cases q), r1.rf.r3⟩
  · obtain ⟨⟨v, w1⟩, t1, q2, q3, q4, q5⟩ := r_next hT h e1 e3
    rw [e4] at q2 q3
    have t2 : v = sI (sg T tp e) := q2
    subst t2
    have t3 : w1.1 271 3 = nI e := q3
    have t4 : w1.1 271 4 = -nI 1 := q4.trans e2
    have t5 : r1 w w1 := q5
    have hs := sg_lt hT (i := e)
    have es : (sI (sg T tp e) = -nI 1) = False := by rw [sI_m1 (by omega)]; exact eq_false e5
    have hb := r_bad t3 t4
    have hb4 : (am_pi w1 271 4 (nI e)).1 271 4 = nI e := pi_same
    exact Wp.of (r := (nI e, am_pi w1 271 4 (nI e))) (by simp (disch := omega) only [pv_v, pv_b2, pv_b1, pv_x, pv_lit, pv_ofN, pu_chk, pu_cl, nI_add, pk_mul, nI_leI, nI_ltI, nI_eq, pu_nar0, pu_nar1, pu_narb, bI_0, bI_1, ↓reduceIte, pu_leT, pu_leF, pu_ltT, pu_ltF, pu_eqT, pu_eqF, pu_x1, pu_x2, pu_x3, pu_x4, pu_x5, pu_x6, pu_x7, pu_x8, Nat.zero_add, pu_m31I, pu_m31, pu_shlI, eq_self, Bool.false_eq_true, Bool.true_eq_false, e2, t1, es, hb, hb4]) ⟨fun e' he => by rw [r1'] at he; cases he; rfl, (fun q => by rw [r1'] at q; cases q), (fun q => by rw [r1'] at q; cases q), (t5.on (r1.pi (by omega))).r3⟩
  · obtain ⟨⟨v, w1⟩, t1, q2, q3, q4, q5⟩ := r_next hT h (Nat.le_refl T) e3
    have hnT : nB T tp T = T := by have := nB_le (T := T) (tp := tp) (Nat.le_refl T); omega
    rw [hnT] at q2 q3
    have e0 : sg T tp T = 0 := (sg_0 hT).mpr (Nat.le_refl _)
    rw [e0] at q2
    have t2 : v = -nI 1 := q2
    subst t2
    have t3 : w1.1 271 3 = nI T := q3
    have t4 : w1.1 271 4 = -nI 1 := q4.trans e2
    have t5 : r1 w w1 := q5
    obtain ⟨⟨v, w2⟩, z1, z2, z3, z4⟩ := r_isWhole e5 (e4.r1 t5)
    have z2 : w2 = w1 := z2
    subst z2
    by_cases hw : whP R.2
    · have z5 : v = nI 1 := z3 hw
      subst z5
      exact Wp.of (r := (-nI 1, w2)) (by simp (disch := omega) only [pv_v, pv_b2, pv_b1, pv_x, pv_lit, pv_ofN, pu_chk, pu_cl, nI_add, pk_mul, nI_leI, nI_ltI, nI_eq, pu_nar0, pu_nar1, pu_narb, bI_0, bI_1, ↓reduceIte, pu_leT, pu_leF, pu_ltT, pu_ltF, pu_eqT, pu_eqF, pu_x1, pu_x2, pu_x3, pu_x4, pu_x5, pu_x6, pu_x7, pu_x8, Nat.zero_add, pu_m31I, pu_m31, pu_shlI, eq_self, Bool.false_eq_true, Bool.true_eq_false, e2, t1, z1, t4]) ⟨fun e' he => (by rw [r1'] at he; cases he), fun _ _ => ⟨rfl, e4.r1 t5⟩, fun _ q => absurd hw q, t5.r3⟩
    · have z5 : v = nI 0 := z4 hw
      subst z5
      have hb := r_bad t3 t4
      have hb4 : (am_pi w2 271 4 (nI T)).1 271 4 = nI T := pi_same
      exact Wp.of (r := (nI T, am_pi w2 271 4 (nI T))) (by simp (disch := omega) only [pv_v, pv_b2, pv_b1, pv_x, pv_lit, pv_ofN, pu_chk, pu_cl, nI_add, pk_mul, nI_leI, nI_ltI, nI_eq, pu_nar0, pu_nar1, pu_narb, bI_0, bI_1, ↓reduceIte, pu_leT, pu_leF, pu_ltT, pu_ltF, pu_eqT, pu_eqF, pu_x1, pu_x2, pu_x3, pu_x4, pu_x5, pu_x6, pu_x7, pu_x8, Nat.zero_add, pu_m31I, pu_m31, pu_shlI, eq_self, Bool.false_eq_true, Bool.true_eq_false, e2, t1, z1, hb, hb4]) ⟨fun e' he => (by rw [r1'] at he; cases he), fun _ q => absurd q hw, fun _ _ => rfl, (t5.on (r1.pi (by omega))).r3⟩
theorem r_readField (hT : tW T tp) (h : rTp T tp w) : Wp (f_X12_readField w) (fun q => (∀ e, (cls T tp 241 p0 0).1 = some e → q.1 = nI e) ∧ ((cls T tp 241 p0 0).1 = none → whP (cls T tp 241 p0 0).2 → q.1 = -nI 1 ∧ rPt (cls T tp 241 p0 0).2 q.2) ∧ ((cls T tp 241 p0 0).1 = none → ¬ whP (cls T tp 241 p0 0).2 → q.1 = nI T) ∧ r3 w q.2) := by
  have hT1 := hT.1
  generalize hR : cls T tp 241 p0 0 = R
  unfold f_X12_readField
  rw [pv_v, pv_v, pv_v, pv_v, show (0 : Int32) = nI 0 from rfl, show (-1 : Int32) = -nI 1 from rfl]
  have x0 : r3 w (am_pi (am_pi (am_pi (am_pi w 271 3 (nI 0)) 271 4 (-nI 1)) 271 8 (nI 0)) 271 9 (nI 0)) := (((r3.pi (by omega)).on (r3.pi (by omega))).on (r3.pi (by omega))).on (r3.pi (by omega))
  have y3 : (am_pi (am_pi (am_pi (am_pi w 271 3 (nI 0)) 271 4 (-nI 1)) 271 8 (nI 0)) 271 9 (nI 0)).1 271 3 = nI 0 := by simp only [pi_g]; simp
  have y4 : (am_pi (am_pi (am_pi (am_pi w 271 3 (nI 0)) 271 4 (-nI 1)) 271 8 (nI 0)) 271 9 (nI 0)).1 271 4 = -nI 1 := by simp only [pi_g]; simp
  have y8 : (am_pi (am_pi (am_pi (am_pi w 271 3 (nI 0)) 271 4 (-nI 1)) 271 8 (nI 0)) 271 9 (nI 0)).1 271 8 = nI 0 := by simp only [pi_g]; simp
  have y9 : (am_pi (am_pi (am_pi (am_pi w 271 3 (nI 0)) 271 4 (-nI 1)) 271 8 (nI 0)) 271 9 (nI 0)).1 271 9 = nI 0 := pi_same
  generalize am_pi (am_pi (am_pi (am_pi w 271 3 (nI 0)) 271 4 (-nI 1)) 271 8 (nI 0)) 271 9 (nI 0) = w0 at x0 y3 y4 y8 y9
  unfold f_X12_readField_24
  refine Wp.for (fun k w => (nI k, w)) (fun k w' => (∀ j, j < k → w'.1 273 j = nI (itus 0 j)) ∧ eqx [273] w0 w') 4 (by decide) (w := w0) rfl ⟨fun j hj => absurd hj (by omega), eqx.rf⟩ (fun k w' hk hI => ?_) (fun w1 hI => ?_)
  · obtain ⟨i1, i2⟩ := hI
    have hu := r_usual0 (w := w') hk
    refine Wp.ofr (a := (nI (k + 1), am_pi w' 273 k (nI (itus 0 k)))) (by unfold f_X12_readField_24b; simp (disch := omega) only [pv_v, pv_b2, pv_b1, pv_x, pv_lit, pv_ofN, pu_chk, pu_cl, nI_add, pk_mul, nI_leI, nI_ltI, nI_eq, pu_nar0, pu_nar1, pu_narb, bI_0, bI_1, ↓reduceIte, pu_leT, pu_leF, pu_ltT, pu_ltF, pu_eqT, pu_eqF, pu_x1, pu_x2, pu_x3, pu_x4, pu_x5, pu_x6, pu_x7, pu_x8, Nat.zero_add, pu_m31I, pu_m31, pu_shlI, eq_self, Bool.false_eq_true, Bool.true_eq_false, hu]) ⟨_, rfl, fun j hj => ?_, i2.on (eqx.pi (by simp))⟩
    rw [pi_ite]
    by_cases c : j = k
    · subst c; rw [if_pos rfl]
    · rw [if_neg c]; exact i1 j (by omega)
  · obtain ⟨i1, i2⟩ := hI
    have x1 : r3 w w1 := x0.on ⟨fun k _ _ _ _ => by rw [i2.r (by decide)], i2.up (by simp)⟩
    have hC : rPt p0 w1 := ⟨i2.t y8 (by decide), i2.t y9 (by decide), i1, fun u hu => absurd hu (Nat.not_lt_zero _), fun u hu => absurd hu (Nat.not_lt_zero _)⟩
    have hgo : Wp (f_X12_readField_49 (nI 0) (nI 1) w1) (fun q => (∀ e, R.1 = some e → q.1 = nI e) ∧ (R.1 = none → whP R.2 → q.1 = -nI 1 ∧ rPt R.2 q.2) ∧ (R.1 = none → ¬ whP R.2 → q.1 = nI T) ∧ r3 w q.2) := by
      unfold f_X12_readField_49
      refine Wp.loop (fun c s => (∃ w' f p' i', s = (bI p'.1, nI 1, w') ∧ f + c = 241 ∧ c ≤ i' ∧ i' ≤ T ∧ cls T tp f p' i' = R ∧ pW p' ∧ rPt p' w' ∧ w'.1 271 3 = nI i' ∧ w'.1 271 4 = -nI 1 ∧ r3 w w') ∨ (∃ w' x, s = (x, nI 0, w') ∧ c ≤ 242 ∧ r3 w w' ∧ ((∃ e, R.1 = some e ∧ e ≤ T ∧ w'.1 271 4 = nI e) ∨ (∃ e, R.1 = some e ∧ e ≤ T ∧ w'.1 271 4 = -nI 1 ∧ w'.1 271 3 = nI e ∧ nB T tp e = e ∧ sg T tp e ≠ 0) ∨ (R.1 = none ∧ w'.1 271 4 = -nI 1 ∧ w'.1 271 3 = nI T ∧ rPt R.2 w' ∧ pW R.2)))) 242 (by decide) (.inl ⟨w1, 241, p0, 0, rfl, rfl, Nat.zero_le _, Nat.zero_le _, hR, pW_0, hC, i2.t y3 (by decide), i2.t y4 (by decide), x1⟩) ?_
      rintro c s hc (⟨w', f, p', i', rfl, hf, hci, a0, hcl, a1, a2, a3, a4, a5⟩ | ⟨w', x, rfl, hcc, a5, hfin⟩)
      · cases f with
        | zero => omega
        | succ f =>
          have hn := nB_le (tp := tp) a0
          generalize ht : kl p' (sg T tp (nB T tp i')) = t
          have ht3 : t ≤ 3 := by rw [← ht]; exact kl_le
          obtain ⟨w2, x2, e1, e2, e3, e4⟩ := r_clause hT (a5.t h) a1 a2 a0 a3 a4 ht
          have x3 : r3 w w2 := a5.on e2
          by_cases c3 : t = 3
          · obtain ⟨u1, u2⟩ := e3 c3
            rw [cls_3 (by rw [ht]; exact c3)] at hcl
            subst hcl
            have hb := r_214_bad (x1 := x2) (by omega) u1 u2
            exact Wp.ofr (a := (x2, nI 0, am_pi w2 271 3 (nI (nB T tp i')))) (e1.trans hb) ⟨by omega, .inr ⟨_, _, rfl, by omega, x3.on (r3.pi (by omega)), .inl ⟨_, rfl, hn.2, by rw [pi_k (by omega)]; exact u1⟩⟩⟩
          · have hlt : t < 3 := by omega
            have hj := kl_lt (c := 0) hT (show kl p' (sg T tp (nB T tp i')) ≠ 3 by rw [ht]; exact c3)
            have hj1 : nB T tp i' + 1 ≤ T := hj
            have hr : (itR T tp t (nB T tp i' + 1)).2.1 ≤ T := itR_le hj1
            obtain ⟨u1, u2, u3⟩ := e4 hlt
            have h3 : (itR T tp t (nB T tp i' + 1)).1 ≠ 3 := itm_3 (by rw [pu_C_zero (fun u _ => Nat.zero_testBit u)]; omega)
            have hst := itm_s (T := T) (tp := tp) (t := t) (f := ln t + 1) (had := 0) (it := itus t) hj1
            have hge := itm_ge (T := T) (tp := tp) (t := t) hT (f := ln t + 1) (had := 0) (it := itus t) hj1
            rw [show itm T tp t (ln t + 1) 0 (itus t) (nB T tp i' + 1) = itR T tp t (nB T tp i' + 1) from rfl] at hst hge
            by_cases q2 : (itR T tp t (nB T tp i' + 1)).1 = 2
            · rw [if_pos q2] at u2
              rw [cls_f ht hlt (by omega)] at hcl
              subst hcl
              have hb := r_214_bad (x1 := x2) (by omega) u2 u1
              exact Wp.ofr (a := (x2, nI 0, am_pi w2 271 3 (nI (itR T tp t (nB T tp i' + 1)).2.1))) (e1.trans hb) ⟨by omega, .inr ⟨_, _, rfl, by omega, x3.on (r3.pi (by omega)), .inl ⟨_, rfl, hr, by rw [pi_k (by omega)]; exact u2⟩⟩⟩
            · rw [if_neg q2] at u2
              by_cases q1 : (itR T tp t (nB T tp i' + 1)).1 ≤ 1
              · have hnb := hst.2.2 q1
                obtain ⟨w3, v1, v2, v3, v4⟩ := r_214 (x1 := x2) hT (x3.t h) hr u2 u1 hnb
                have x4 : r3 w w3 := x3.on v4.r3
                by_cases q : (itR T tp t (nB T tp i' + 1)).1 = 1
                · obtain ⟨u4, u5⟩ := u3 q
                  have hW2 : pW (pA p' t (itR T tp t (nB T tp i' + 1)).2.2) := a1.A ht hlt
                  have hg := hge q
                  rcases hst.1 q with s0 | s9
                  · rw [cls_e ht hlt q s0] at hcl
                    subst hcl
                    rw [decide_eq_false (by omega)] at v1
                    rw [if_neg (by omega)] at v2
                    have hTe : (itR T tp t (nB T tp i' + 1)).2.1 = T := by have := (sg_0 hT).mp s0; omega
                    rw [hTe] at v2
                    exact Wp.ofr (a := (x2, nI 0, w3)) (e1.trans v1) ⟨by omega, .inr ⟨_, _, rfl, by omega, x4, .inr (.inr ⟨rfl, v3, v2, u5.r1 v4, hW2⟩)⟩⟩
                  · rw [cls_g ht hlt q (by omega)] at hcl
                    rw [decide_eq_true s9] at v1
                    rw [if_pos s9] at v2
                    subst u4
                    have hlt2 : (itR T tp t (nB T tp i' + 1)).2.1 < T := by
                      rcases Nat.lt_or_ge (itR T tp t (nB T tp i' + 1)).2.1 T with z | z
                      · exact z
                      · have := (sg_0 hT).mpr z; omega
                    exact Wp.ofr (a := (bI (pA p' t (itR T tp t (nB T tp i' + 1)).2.2).1, nI 1, w3)) (e1.trans v1) ⟨by omega, .inl ⟨w3, f, _, _, rfl, by omega, by omega, hlt2, hcl, hW2, u5.r1 v4, v2, v3, x4⟩⟩
                · have q0 : (itR T tp t (nB T tp i' + 1)).1 = 0 := by omega
                  have hs2 := hst.2.1 q0
                  rw [cls_f ht hlt q] at hcl
                  subst hcl
                  rw [decide_eq_false (fun z => hs2 (.inr z))] at v1
                  rw [if_neg (fun z => hs2 (.inr z))] at v2
                  exact Wp.ofr (a := (x2, nI 0, w3)) (e1.trans v1) ⟨by omega, .inr ⟨_, _, rfl, by omega, x4, .inr (.inl ⟨_, rfl, hr, v3, v2, hnb, fun z => hs2 (.inl z)⟩)⟩⟩
              · exfalso
                have : (itR T tp t (nB T tp i' + 1)).1 ≤ 3 := by
                  rcases itm_c (T := T) (tp := tp) (t := t) (f := ln t + 1) (had := 0) (it := itus t) (i := nB T tp i' + 1) with z
                  exact z
                omega
      · unfold f_X12_readField_49b
        rw [if_pos (show nI 0 = 0 from rfl)]
        exact Wp.x ((r_258 hT (a5.t h) hfin).mono (fun q hq => ⟨hq.1, hq.2.1, hq.2.2.1, a5.on hq.2.2.2⟩))
    unfold f_X12_readField_24b
    conv => arg 1; simp (disch := omega) only [pv_v, pv_b2, pv_b1, pv_x, pv_lit, pv_ofN, pu_chk, pu_cl, nI_add, pk_mul, nI_leI, nI_ltI, nI_eq, pu_nar0, pu_nar1, pu_narb, bI_0, bI_1, ↓reduceIte, pu_leT, pu_leF, pu_ltT, pu_ltF, pu_eqT, pu_eqF, pu_x1, pu_x2, pu_x3, pu_x4, pu_x5, pu_x6, pu_x7, pu_x8, Nat.zero_add, pu_m31I, pu_m31, pu_shlI, eq_self, Bool.false_eq_true, Bool.true_eq_false]
    exact Wp.x hgo
end RFIELD
