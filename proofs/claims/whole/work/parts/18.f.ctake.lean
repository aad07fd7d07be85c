/-! pure part: TAKE FIELD, the class (wip/whole/pure/18.f.ctake.src) -/
/-- what TAKE FIELD leaves, in the class -/
def ctf (w w' : am_S) : Prop := (∀ q, 18 < q → q ∉ [23, 24, 27, 38, 46, 250] → w'.1 q = w.1 q) ∧ (∀ k, k ≠ 18 → w'.1 0 k = w.1 0 k) ∧ w'.1 2 = w.1 2 ∧ (∀ q, q ≠ 25 → w'.2.1 q = w.2.1 q) ∧ ∀ q, q ≠ 251 → q ≠ 252 → w'.2.2 q = w.2.2 q
section CTAKE
variable {fd : Nat → Nat → Nat} {p : Pt} {w w' w'' : am_S} {T : Nat} {tp : Nat → Nat}
theorem c_takeField {R : Option Nat × Pt} (hR : cls T tp 241 p0 0 = R) (hT : tW T tp) (h : cTp T tp w) {nx : Nat} (hx : nx < 40) (hnx : w.1 46 1 = nI nx) {sts : Nat → Nat → Nat → Nat} {lg : Nat → Nat → Int32} : Wp (f_X11_takeField w) (fun q => (R.1 = none ∧ whP R.2 → q.1 = nI R.2.2.2.1 ∧ cZ (pF R.2) (pS R.2, sts, lg, 0, 0) q.2 ∧ q.2.1 1 1 = nI 0 ∧ q.2.1 0 18 = nI 0 ∧ ctf w q.2) ∧ (¬ (R.1 = none ∧ whP R.2) → q.1 = -nI 1 ∧ q.2.1 1 1 = w.1 1 1 ∧ eqx (oL 3) w q.2)) := by
  have hT1 := hT.1
  obtain ⟨⟨r1, w1⟩, e1, a1, a2, a3, a4, a5⟩ := c_readFrom (o := 3) (by omega) hT h
  rw [hR] at a1 a2 a3
  have a1 : ∀ e, R.1 = some e → r1 = nI e := a1
  have a2 : R.1 = none → whP R.2 → r1 = -nI 1 ∧ cPt 3 R.2 w1 := a2
  have a3 : R.1 = none → ¬ whP R.2 → r1 = nI T := a3
  have a4 : w1.1 1 1 = w.1 1 1 := a4
  have a5 : eqx (oL 3) w w1 := a5
  unfold f_X11_takeField
  rw [e1]
  show Wp (if r1 = (-1 : Int32) then _ else _) _
  by_cases c : R.1 = none ∧ whP R.2
  · obtain ⟨c1, c2⟩ := id c
    obtain ⟨b1, b2⟩ := a2 c1 c2
    rw [if_pos (show r1 = (-1 : Int32) from b1)]
    have hC1 : cTp T tp w1 := ⟨by rw [a4]; exact h.1, fun i hi => by rw [a5.2 2 (by decide)]; exact h.2 i hi⟩
    obtain ⟨⟨r2, w2⟩, e2, x1, x2, x3, x4, x5⟩ := c_readFrom (o := 11) (by omega) hT hC1
    rw [hR] at x2
    obtain ⟨y1, y2⟩ := x2 c1 c2
    have y2 : cPt 11 R.2 w2 := y2
    have x5 : eqx (oL 11) w1 w2 := x5
    have hW : pW R.2 := by rw [← hR]; exact cls_W pW_0
    have hF := pF_w hW c2
    conv => arg 1; simp (disch := omega) only [pv_v, pv_b2, pv_b1, pv_x, pv_lit, pv_ofN, pu_chk, pu_cl, nI_add, pk_mul, nI_leI, nI_ltI, nI_eq, pu_nar0, pu_nar1, pu_narb, bI_0, bI_1, ↓reduceIte, pu_leT, pu_leF, pu_ltT, pu_ltF, pu_eqT, pu_eqF, pu_x1, pu_x2, pu_x3, pu_x4, pu_x5, pu_x6, pu_x7, pu_x8, Nat.zero_add, pu_m31I, pu_m31, pu_shlI, eq_self, Bool.false_eq_true, Bool.true_eq_false, e2]
    have y3 : cPt 11 R.2 (am_pi w2 1 1 (nI 0)) := y2.fr (pi_p (by decide)) (fun k k1 k2 => pi_p (by omega))
    obtain ⟨w3, e3, z1, z2⟩ := c_begin9 hW c2 y3
    conv => arg 1; simp (disch := omega) only [pv_v, pv_b2, pv_b1, pv_x, pv_lit, pv_ofN, pu_chk, pu_cl, nI_add, pk_mul, nI_leI, nI_ltI, nI_eq, pu_nar0, pu_nar1, pu_narb, bI_0, bI_1, ↓reduceIte, pu_leT, pu_leF, pu_ltT, pu_ltF, pu_eqT, pu_eqF, pu_x1, pu_x2, pu_x3, pu_x4, pu_x5, pu_x6, pu_x7, pu_x8, Nat.zero_add, pu_m31I, pu_m31, pu_shlI, eq_self, Bool.false_eq_true, Bool.true_eq_false, e3]
    have z3 : cPt 11 R.2 w3 := y3.fr (z2.1 _ (by decide)) (fun k k1 k2 => z2.1 _ (by simp only [List.mem_cons, List.not_mem_nil, or_false]; omega))
    obtain ⟨w5, e5, v1, w4, v2, v3⟩ := c_begin7 hF (z3.F hW)
    conv => arg 1; simp (disch := omega) only [pv_v, pv_b2, pv_b1, pv_x, pv_lit, pv_ofN, pu_chk, pu_cl, nI_add, pk_mul, nI_leI, nI_ltI, nI_eq, pu_nar0, pu_nar1, pu_narb, bI_0, bI_1, ↓reduceIte, pu_leT, pu_leF, pu_ltT, pu_ltF, pu_eqT, pu_eqF, pu_x1, pu_x2, pu_x3, pu_x4, pu_x5, pu_x6, pu_x7, pu_x8, Nat.zero_add, pu_m31I, pu_m31, pu_shlI, eq_self, Bool.false_eq_true, Bool.true_eq_false, e5]
    have cf4 : cF (pF R.2) w4 := (z3.F hW).ef v2
    have g1 : ∀ q, q ∉ [0, 38, 46] → (am_pi (am_pi (am_pi w5 38 3 (nI 0)) 46 2 (nI 0)) 0 18 (nI 0)).1 q = w5.1 q := fun q hq => by
      simp only [List.mem_cons, List.not_mem_nil, or_false] at hq
      rw [pi_p (by omega), pi_p (by omega), pi_p (by omega)]
    have g2 : ∀ q, q ∉ [0, 38, 46, 250] → (am_pi (am_pi (am_pi w5 38 3 (nI 0)) 46 2 (nI 0)) 0 18 (nI 0)).1 q = w3.1 q := fun q hq => by
      simp only [List.mem_cons, List.not_mem_nil, or_false] at hq
      rw [g1 q (by simp only [List.mem_cons, List.not_mem_nil, or_false]; omega), v3, pi_p (by omega), v2.1]
    have g3 : ∀ q, q ∉ [0, 1, 23, 24, 27, 38, 46, 250] → (am_pi (am_pi (am_pi w5 38 3 (nI 0)) 46 2 (nI 0)) 0 18 (nI 0)).1 q = w2.1 q := fun q hq => by
      simp only [List.mem_cons, List.not_mem_nil, or_false] at hq
      rw [g2 q (by simp only [List.mem_cons, List.not_mem_nil, or_false]; omega), z2.1 q (by simp only [List.mem_cons, List.not_mem_nil, or_false]; omega), pi_p (by omega)]
    have g4 : ∀ q, (18 < q ∨ q = 2) → q ∉ [23, 24, 27, 38, 46, 250] → (am_pi (am_pi (am_pi w5 38 3 (nI 0)) 46 2 (nI 0)) 0 18 (nI 0)).1 q = w.1 q := fun q hq hq2 => by
      simp only [List.mem_cons, List.not_mem_nil, or_false] at hq2
      rw [g3 q (by simp only [List.mem_cons, List.not_mem_nil, or_false]; omega), x5.2 q (by simp only [oL, List.mem_cons, List.not_mem_nil, or_false]; omega), a5.2 q (by simp only [oL, List.mem_cons, List.not_mem_nil, or_false]; omega)]
    have g5 : ∀ q, q ∉ [1, 23, 24, 27, 250] → q ∉ oL 3 → q ∉ oL 11 → w5.1 q = w.1 q := fun q hq q3 q4 => by
      simp only [List.mem_cons, List.not_mem_nil, or_false] at hq
      rw [v3, pi_p (by omega), v2.1, z2.1 q (by simp only [List.mem_cons, List.not_mem_nil, or_false]; omega), pi_p (by omega), x5.2 q q4, a5.2 q q3]
    have l5 : w5.2.1 = w3.2.1 := by rw [v3]; exact v2.2.1
    have f5 : w5.2.2 = w4.2.2 := by rw [v3]; rfl
    refine ⟨(nI R.2.2.2.1, am_pi (am_pi (am_pi w5 38 3 (nI 0)) 46 2 (nI 0)) 0 18 (nI 0)), ?_, fun _ => ⟨rfl, ⟨⟨by show (0:Nat) ≤ 40; omega, Nat.le_refl _, fun d d1 d2 => by
        have d2 : d ≤ 0 := d2
        omega⟩, ⟨hF, pS_w hW c2, ?_, ?_, ?_⟩, ⟨nx, hx, ?_, ?_, fun d d1 d2 => by
        have d2 : d ≤ 0 := d2
        omega⟩, ?_, fun n t ht hn => by
        have hn : n < 0 := hn
        omega⟩, ?_, pi_same, fun q q1 q2 => g4 q (.inl q1) q2, fun k hk => ?_, g4 2 (.inr rfl) (by decide), fun q hq => ?_, fun q q1 q2 => ?_⟩, fun hc => absurd c hc⟩
    · rw [g3 11 (by decide), y2.2.2.2.2.1]
    · have := z3.F hW
      unfold cF at this ⊢
      rw [g2 11 (by decide), g2 13 (by decide), g2 14 (by decide), g2 15 (by decide), g2 18 (by decide)]
      exact this
    · obtain ⟨t1, t2, t3⟩ := v1
      refine ⟨t1, t2, ?_⟩
      rw [g1 250 (by decide), g1 253 (by decide)]
      exact t3
    · unfold cS at z1 ⊢
      rw [g2 (23 + 1) (by decide), g2 23 (by decide), g2 (23 + 4) (by decide), g2 (23 + 3) (by decide)]
      show _ ∧ (∀ u, u < 10 → w5.2.1 (23 + 2) u = _) ∧ _
      rw [l5]
      exact z1
    · rw [pi_p (by decide), pi_k (by decide), pi_p (by decide), g5 46 (by decide) (by decide) (by decide)]; exact hnx
    · rw [pi_p (by decide), pi_same]
    · rw [pi_p (by decide), pi_p (by decide), pi_same]
    · rw [g2 1 (by decide), z2.1 1 (by decide), pi_same]
    · rw [pi_k hk, pi_p (by decide), pi_p (by decide), g5 0 (by decide) (by decide) (by decide)]
    · show w5.2.1 q = w.2.1 q
      rw [l5, z2.2.1 q (by simp only [List.mem_cons, List.not_mem_nil, or_false]; omega)]
      show w2.2.1 q = _
      rw [x5.l, a5.l]
    · show w5.2.2 q = w.2.2 q
      rw [f5, v2.2.2 q q1 q2, z2.2.2]
      show w2.2.2 q = _
      rw [x5.f, a5.f]
  · have hne : r1 ≠ (-1 : Int32) := by
      cases e : R.1 with
      | none =>
        rw [a3 e (fun q => c ⟨e, q⟩)]
        exact pu_ne1 (by omega)
      | some x =>
        have hx := cls_le hT (f := 241) (i := 0) (e := x) (p := p0) (by omega) (by rw [hR]; exact e)
        rw [a1 x e]
        exact pu_ne1 (by omega)
    rw [if_neg hne]
    exact ⟨_, rfl, fun q => absurd q c, fun _ => ⟨rfl, a4, a5⟩⟩
end CTAKE
