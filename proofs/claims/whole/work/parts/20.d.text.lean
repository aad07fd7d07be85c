/-! pure part: TEXT (wip/whole/pure/20.d.text.src) -/
section TEXT2
variable {fd : Nat → Nat → Nat} {z z' : Zt} {o o' : Ot} {w w' w'' : am_S} {j : Nat}
theorem fA_ne {T : Nat} {tp : Nat → Nat} {R : Option Nat × Pt} {v : Int32} (hR : cls T tp 241 p0 0 = R) (hT : tW T tp) (h : fA T R v) (hn : ¬ (R.1 = none ∧ whP R.2)) : (v = -nI 1) = False := by
  have hT1 := hT.1
  cases e : R.1 with
  | some i =>
    have := cls_le hT (f := 241) (i := 0) (e := i) (p := p0) (by omega) (by rw [hR]; exact e)
    rw [h.1 i e]; exact pu_x1 (by omega)
  | none =>
    rw [h.2.2 e (fun c => hn ⟨e, c⟩)]; exact pu_x1 (by omega)
theorem both_text0 : Both j fd z o (fun a b => a = b) (f_X11_text (nI 0)) (f_X12_text (nI 0)) := by
  intro w hc hr hb hnf
  have hW := hc.2.1.1
  generalize hR : cls o.1.1 o.1.2 241 p0 0 = R
  by_cases c : R.1 = none ∧ whP R.2
  · have hp : pW R.2 := by rw [← hR]; exact cls_W pW_0
    refine Both.mk (j := j) (fd := fd) (z := z) (o := o) (· = nI R.2.2.2.1) (fun a b h1 h2 => by rw [h1, h2]) (pF R.2) (pS R.2, z.2.1, z.2.2.1, 0, 0) ((0, o.1.2), none, o.2.2) (fun h => ⟨Nat.zero_le _, fun a ha => by cases ha⟩) (fun w h => ?_) (fun w h => ?_) (fun _ h0 => absurd c.2.1 (by rw [show R.2.2.2.1 = 0 from h0]; omega)) w hc hr hb hnf
    · obtain ⟨nx, n1, n2, _⟩ := h.1.2.2.1
      obtain ⟨⟨q, w'⟩, e1, q1, _⟩ := c_takeField hR hW h.2.1.2 n1 n2 (sts := z.2.1) (lg := z.2.2.1)
      obtain ⟨q1, q2, q3, q4, q5⟩ := q1 c
      have q5 : ctf w w' := q5
      refine ⟨(q, w'), ?_, q1, ⟨q2, ⟨⟨Nat.zero_le _, fun i hi => absurd hi (Nat.not_lt_zero _)⟩, q3, fun i hi => absurd hi (Nat.not_lt_zero _)⟩, ⟨q4, fun a ha => by cases ha⟩, ⟨h.2.2.2.1.1, ?_, fun n hn => ⟨(h.2.2.2.1.2.2 n hn).1, (h.2.2.2.1.2.2 n hn).2.fr (q5.1 _ (by omega) (by simp only [List.mem_cons, List.not_mem_nil, or_false]; omega)) (q5.1 _ (by omega) (by simp only [List.mem_cons, List.not_mem_nil, or_false]; omega)) (q5.1 _ (by omega) (by simp only [List.mem_cons, List.not_mem_nil, or_false]; omega))⟩⟩, fun r hr => ?_⟩, fun q hq => ⟨q5.1 q (by omega) (by simp only [List.mem_cons, List.not_mem_nil, or_false]; omega), q5.2.2.2.1 q (by omega), q5.2.2.2.2 q (by omega) (by omega)⟩⟩
      · unfold f_X11_text
        simp (disch := omega) only [pv_v, pv_b2, pv_b1, pv_x, pv_lit, pv_ofN, pu_chk, pu_cl, nI_add, pk_mul, nI_leI, nI_ltI, nI_eq, pu_nar0, pu_nar1, pu_narb, bI_0, bI_1, ↓reduceIte, pu_leT, pu_leF, pu_ltT, pu_ltF, pu_eqT, pu_eqF, pu_x1, pu_x2, pu_x3, pu_x4, pu_x5, pu_x6, pu_x7, pu_x8, Nat.zero_add, pu_m31I, pu_m31, pu_shlI, eq_self, Bool.false_eq_true, Bool.true_eq_false, e1]
      · show w'.1 0 17 = _
        rw [q5.2.1 17 (by omega)]; exact h.2.2.2.1.2.1
      · show w'.1 248 r = _
        rw [q5.1 248 (by omega) (by decide)]; exact h.2.2.2.2 r hr
    · obtain ⟨⟨v, w1⟩, e1, q1, q2, q3, q4⟩ := r_readField hW h.2.1.2
      rw [hR] at q2
      obtain ⟨q2, q5⟩ := q2 c.1 c.2
      have q2 : v = -nI 1 := q2
      have q4 : r3 w w1 := q4
      have q5 : rPt R.2 w1 := q5
      have q6 : rPt R.2 (am_pi w1 271 2 (nI 0)) := by
        obtain ⟨g1, g2, g3, g4, g5⟩ := q5
        exact ⟨by rw [pi_k (by omega)]; exact g1, by rw [pi_k (by omega)]; exact g2, fun k hk => by rw [pi_p (by omega)]; exact g3 k hk, fun u hu k hk => by rw [pi_p (by omega)]; exact g4 u hu k hk, fun u hu k hk => by rw [pi_p (by omega)]; exact g5 u hu k hk⟩
      obtain ⟨⟨x, w2⟩, e2, t⟩ := r_takeField hp c.2 q6
      have hj : (am_pi w1 271 2 (nI 0)).2.1 271 20 = lN 0 := by
        rw [pi_l, q4.2.1]; exact h.1.2.1.2.2.2.2.1
      have hz := t.Z hp c.2 hj (sts := z.2.1) (lg := z.2.2.1)
      obtain ⟨t1, t2, t3, t4, t5, t6, t7⟩ := t
      have t1 : x = nI R.2.2.2.1 := t1
      have t6 : w2.1 271 29 = nI 0 := t6
      have t7 : rtf (am_pi w1 271 2 (nI 0)) w2 := t7
      have k2 : w2.1 271 2 = nI 0 := by rw [t7.2.1 2 (by omega) (by omega) (by omega), pi_same]
      have hi : ∀ q, q ∉ [271, 273, 274, 275, 276, 277, 278, 281] → w2.1 q = w.1 q := fun q hq => by
        simp only [List.mem_cons, List.not_mem_nil, or_false] at hq
        rw [t7.1 q (by simp only [List.mem_cons, List.not_mem_nil, or_false]; omega), pi_p (by omega), q4.2.2 q (by simp only [List.mem_cons, List.not_mem_nil, or_false]; omega)]
      refine ⟨(x, w2), ?_, t1, ⟨hz, ⟨⟨Nat.zero_le _, fun i hi => absurd hi (Nat.not_lt_zero _)⟩, k2, fun i hi => absurd hi (Nat.not_lt_zero _)⟩, ⟨t6, fun a ha => by cases ha⟩, ⟨h.2.2.2.1.1, ?_, fun n hn => ⟨(h.2.2.2.1.2.2 n hn).1, (h.2.2.2.1.2.2 n hn).2.fr (hi _ (by decide)) (hi _ (by decide))⟩⟩, fun r hr => ?_⟩, fun q hq => ⟨hi q (by simp only [List.mem_cons, List.not_mem_nil, or_false]; omega), ?_, ?_⟩⟩
      · unfold f_X12_text
        simp (disch := omega) only [pv_v, pv_b2, pv_b1, pv_x, pv_lit, pv_ofN, pu_chk, pu_cl, nI_add, pk_mul, nI_leI, nI_ltI, nI_eq, pu_nar0, pu_nar1, pu_narb, bI_0, bI_1, ↓reduceIte, pu_leT, pu_leF, pu_ltT, pu_ltF, pu_eqT, pu_eqF, pu_x1, pu_x2, pu_x3, pu_x4, pu_x5, pu_x6, pu_x7, pu_x8, Nat.zero_add, pu_m31I, pu_m31, pu_shlI, eq_self, Bool.false_eq_true, Bool.true_eq_false, e1, q2, e2]
      · show w2.1 271 16 = _
        rw [t7.2.1 16 (by omega) (by omega) (by omega), pi_k (by omega), q4.1 16 (by omega) (by omega) (by omega) (by omega)]; exact h.2.2.2.1.2.1
      · show w2.1 282 r = _
        rw [hi 282 (by decide)]; exact h.2.2.2.2 r hr
      · show w2.2.1 q = _
        rw [t7.2.2.1, pi_l, q4.2.1]
      · show w2.2.2 q = _
        rw [t7.2.2.2 q (by omega), pi_l, q4.2.1]
  · refine Both.mk (j := j) (fd := fd) (z := z) (o := o) (· = -nI 1) (fun a b h1 h2 => by rw [h1, h2]) fd z o bn.up (fun w h => ?_) (fun w h => ?_) (fun h => h) w hc hr hb hnf
    · obtain ⟨nx, n1, n2, _⟩ := h.1.2.2.1
      obtain ⟨⟨q, w'⟩, e1, _, q1⟩ := c_takeField hR hW h.2.1.2 n1 n2 (sts := z.2.1) (lg := z.2.2.1)
      obtain ⟨q1, q2, q3⟩ := q1 c
      refine ⟨(q, w'), ?_, q1, h.read q2 q3 (by decide)⟩
      unfold f_X11_text
      simp (disch := omega) only [pv_v, pv_b2, pv_b1, pv_x, pv_lit, pv_ofN, pu_chk, pu_cl, nI_add, pk_mul, nI_leI, nI_ltI, nI_eq, pu_nar0, pu_nar1, pu_narb, bI_0, bI_1, ↓reduceIte, pu_leT, pu_leF, pu_ltT, pu_ltF, pu_eqT, pu_eqF, pu_x1, pu_x2, pu_x3, pu_x4, pu_x5, pu_x6, pu_x7, pu_x8, Nat.zero_add, pu_m31I, pu_m31, pu_shlI, eq_self, Bool.false_eq_true, Bool.true_eq_false, e1]
    · obtain ⟨⟨v, w1⟩, e1, q1, q2, q3, q4⟩ := r_readField hW h.2.1.2
      have hA : fA o.1.1 R v := by rw [← hR]; exact ⟨q1, fun g1 g2 => (q2 g1 g2).1, q3⟩
      have hne := fA_ne hR hW hA c
      refine ⟨(-nI 1, w1), ?_, rfl, h.r3 q4⟩
      unfold f_X12_text f_X12_text_22 f_X12_text_69
      simp (disch := omega) only [pv_v, pv_b2, pv_b1, pv_x, pv_lit, pv_ofN, pu_chk, pu_cl, nI_add, pk_mul, nI_leI, nI_ltI, nI_eq, pu_nar0, pu_nar1, pu_narb, bI_0, bI_1, ↓reduceIte, pu_leT, pu_leF, pu_ltT, pu_ltF, pu_eqT, pu_eqF, pu_x1, pu_x2, pu_x3, pu_x4, pu_x5, pu_x6, pu_x7, pu_x8, Nat.zero_add, pu_m31I, pu_m31, pu_shlI, eq_self, Bool.false_eq_true, Bool.true_eq_false, e1, hne]
theorem eI_ne {T : Nat} {tp : Nat → Nat} (hT : tW T tp) : ∀ {f n i e : Nat} {sk : Nat → Nat} {sn : Nat → Int32}, i ≤ T → (scl T tp f n sk sn i).1 = some e → e ≤ T := by
  intro f
  induction f with
  | zero => intro n i e sk sn hi h; cases h; exact hi
  | succ f ih =>
    intro n i e sk sn hi h
    have hle := stp_le (tp := tp) hT hi
    have hb := nB_le (tp := tp) hle.1
    cases es : (stp T tp i).1 with
    | false => rw [scl_f es] at h; cases h; exact hle.1
    | true =>
      by_cases s0 : sg T tp (nB T tp (stp T tp i).2.1) = 0
      · rw [scl_0 es s0] at h; cases h
      · by_cases s5 : sg T tp (nB T tp (stp T tp i).2.1) = 59 ∧ n + 1 ≠ 16
        · rw [scl_g es s5.1 s5.2] at h
          have hbT : nB T tp (stp T tp i).2.1 < T := by
            rcases Nat.lt_or_ge (nB T tp (stp T tp i).2.1) T with c | c
            · exact c
            · exact absurd ((sg_0 hT).mpr c) s0
          exact ih hbT h
        · rw [scl_b es s0 s5] at h; cases h; exact hb.2
def ups2 (sc : Nat → Nat × (Nat → Nat) × (Nat → Int32)) (n : Nat) (v : Nat × (Nat → Nat) × (Nat → Int32)) : Nat → Nat × (Nat → Nat) × (Nat → Int32) := fun k => if k = n then v else sc k
theorem both_text1 : Both j fd z o (fun a b => a = b) (f_X11_text (nI 1)) (f_X12_text (nI 1)) := by
  intro w hc hr hb hnf
  have hW := hc.2.1.1
  have hT1 := hW.1
  have hs4 : o.2.2.1.1 ≤ 4 := hc.2.2.2.1.1
  by_cases c4 : 4 ≤ o.2.2.1.1
  · refine Both.val (-nI 1) rfl (fun w h => ?_) (fun w h => ?_) w hc hr hb hnf
    · have h1 : w.1 0 17 = nI o.2.2.1.1 := h.2.2.2.1.2.1
      unfold f_X11_text f_X11_text_22 f_X11_takeScript f_X11_takeScript_23
      simp (disch := omega) only [pv_v, pv_b2, pv_b1, pv_x, pv_lit, pv_ofN, pu_chk, pu_cl, nI_add, pk_mul, nI_leI, nI_ltI, nI_eq, pu_nar0, pu_nar1, pu_narb, bI_0, bI_1, ↓reduceIte, pu_leT, pu_leF, pu_ltT, pu_ltF, pu_eqT, pu_eqF, pu_x1, pu_x2, pu_x3, pu_x4, pu_x5, pu_x6, pu_x7, pu_x8, Nat.zero_add, pu_m31I, pu_m31, pu_shlI, eq_self, Bool.false_eq_true, Bool.true_eq_false, h1]
    · have h1 : w.1 271 16 = nI o.2.2.1.1 := h.2.2.2.1.2.1
      unfold f_X12_text f_X12_text_22 f_X12_text_69
      simp (disch := omega) only [pv_v, pv_b2, pv_b1, pv_x, pv_lit, pv_ofN, pu_chk, pu_cl, nI_add, pk_mul, nI_leI, nI_ltI, nI_eq, pu_nar0, pu_nar1, pu_narb, bI_0, bI_1, ↓reduceIte, pu_leT, pu_leF, pu_ltT, pu_ltF, pu_eqT, pu_eqF, pu_x1, pu_x2, pu_x3, pu_x4, pu_x5, pu_x6, pu_x7, pu_x8, Nat.zero_add, pu_m31I, pu_m31, pu_shlI, eq_self, Bool.false_eq_true, Bool.true_eq_false, h1]
  · generalize hR : scl o.1.1 o.1.2 16 0 sk0 sn0 0 = R
    cases eR : R.1 with
    | some e =>
      have he : e ≤ o.1.1 := eI_ne hW (f := 16) (n := 0) (i := 0) (sk := sk0) (sn := sn0) (by omega) (by rw [hR]; exact eR)
      refine Both.mk (j := j) (fd := fd) (z := z) (o := o) (· = -nI 1) (fun a b h1 h2 => by rw [h1, h2]) fd z o bn.up (fun w h => ?_) (fun w h => ?_) (fun h => h) w hc hr hb hnf
      · have h1 : w.1 0 17 = nI o.2.2.1.1 := h.2.2.2.1.2.1
        obtain ⟨⟨q, w'⟩, e1, q1, q2, q3, q4⟩ := c_readScript (o := 19) (by omega) hW h.2.1.2
        rw [hR, eR] at q1
        have q1 : q = nI e := q1
        refine ⟨(-nI 1, w'), ?_, rfl, h.read q3 q4 (by decide)⟩
        unfold f_X11_text f_X11_text_22 f_X11_takeScript f_X11_takeScript_23
        simp (disch := omega) only [pv_v, pv_b2, pv_b1, pv_x, pv_lit, pv_ofN, pu_chk, pu_cl, nI_add, pk_mul, nI_leI, nI_ltI, nI_eq, pu_nar0, pu_nar1, pu_narb, bI_0, bI_1, ↓reduceIte, pu_leT, pu_leF, pu_ltT, pu_ltF, pu_eqT, pu_eqF, pu_x1, pu_x2, pu_x3, pu_x4, pu_x5, pu_x6, pu_x7, pu_x8, Nat.zero_add, pu_m31I, pu_m31, pu_shlI, eq_self, Bool.false_eq_true, Bool.true_eq_false, h1, e1, q1]
      · have h1 : w.1 271 16 = nI o.2.2.1.1 := h.2.2.2.1.2.1
        obtain ⟨⟨q, w'⟩, e1, q1, q2, q3⟩ := r_readScript (n := o.2.2.1.1) (by omega) hW h.2.1.2
        rw [hR, eR] at q1
        have q1 : q = nI e := q1
        refine ⟨(-nI 1, w'), ?_, rfl, h.rsg (Nat.le_refl _) q3⟩
        unfold f_X12_text f_X12_text_22 f_X12_text_69
        simp (disch := omega) only [pv_v, pv_b2, pv_b1, pv_x, pv_lit, pv_ofN, pu_chk, pu_cl, nI_add, pk_mul, nI_leI, nI_ltI, nI_eq, pu_nar0, pu_nar1, pu_narb, bI_0, bI_1, ↓reduceIte, pu_leT, pu_leF, pu_ltT, pu_ltF, pu_eqT, pu_eqF, pu_x1, pu_x2, pu_x3, pu_x4, pu_x5, pu_x6, pu_x7, pu_x8, Nat.zero_add, pu_m31I, pu_m31, pu_shlI, eq_self, Bool.false_eq_true, Bool.true_eq_false, h1, e1, q1]
    | none =>
      have hsW : scW R.2.1 R.2.2.1 := by
        rw [← hR]
        exact scl_W hW (by omega) (by omega) (fun j hj => absurd hj (Nat.not_lt_zero _)) (by rw [hR]; exact eR)
      refine Both.mk (j := j) (fd := fd) (z := z) (o := o) (· = nI o.2.2.1.1) (fun a b h1 h2 => by rw [h1, h2]) fd z ((0, o.1.2), o.2.1, (o.2.2.1.1 + 1, ups2 o.2.2.1.2 o.2.2.1.1 R.2), o.2.2.2) (fun h => ⟨h.up.1, h.up.2⟩) (fun w h => ?_) (fun w h => ?_) (fun h => h) w hc hr hb hnf
      · have h1 : w.1 0 17 = nI o.2.2.1.1 := h.2.2.2.1.2.1
        obtain ⟨⟨q, w1⟩, e1, q1, q2, q3, q4⟩ := c_readScript (o := 19) (by omega) hW h.2.1.2
        rw [hR, eR] at q1
        have q1 : q = -nI 1 := q1
        have q3 : w1.1 1 1 = w.1 1 1 := q3
        have q4 : eqx [1, 19, 20, 21] w w1 := q4
        have g1 : w1.1 0 17 = nI o.2.2.1.1 := by rw [q4.r (by decide)]; exact h1
        obtain ⟨⟨y, w2⟩, e2, y1, y2, y3, y4⟩ := c_readScript (o := 259 + 3 * o.2.2.1.1) (by omega) hW (h.2.1.2.fr q3 (q4.r (by decide)))
        rw [hR] at y2
        have y2 : w2.1 (259 + 3 * o.2.2.1.1) 2 = nI R.2.1 ∧ ∀ j, j < R.2.1 → w2.1 (259 + 3 * o.2.2.1.1 + 1) j = nI (R.2.2.1 j) ∧ w2.1 (259 + 3 * o.2.2.1.1 + 2) j = R.2.2.2 j := y2 eR
        have y4 : eqx [1, 259 + 3 * o.2.2.1.1, 259 + 3 * o.2.2.1.1 + 1, 259 + 3 * o.2.2.1.1 + 2] w1 w2 := y4
        have g2 : (am_pi w2 1 1 (nI 0)).1 0 17 = nI o.2.2.1.1 := by rw [pi_p (by omega), y4.r (by simp only [List.mem_cons, List.not_mem_nil, or_false]; omega)]; exact g1
        generalize hw3 : am_pi (am_pi w2 1 1 (nI 0)) 0 17 (nI (o.2.2.1.1 + 1)) = w3
        have hi : ∀ q, q ≠ 0 → q ≠ 1 → q ≠ 19 → q ≠ 20 → q ≠ 21 → ¬ (258 + 3 * o.2.2.1.1 < q ∧ q < 262 + 3 * o.2.2.1.1) → w3.1 q = w.1 q := fun q a0 a1 a2 a3 a4 a5 => by
          rw [← hw3, pi_p a0, pi_p a1, y4.2 q (by simp only [List.mem_cons, List.not_mem_nil, or_false]; omega), q4.2 q (by simp only [List.mem_cons, List.not_mem_nil, or_false]; omega)]
        have hi2 : ∀ q, 258 + 3 * o.2.2.1.1 < q → w3.1 q = w2.1 q := fun q hq => by
          rw [← hw3, pi_p (by omega), pi_p (by omega)]
        have hl : w3.2 = w.2 := by rw [← hw3, pi_l, pi_l, y4.1, q4.1]
        have h0 : ∀ k, k ≠ 17 → w3.1 0 k = w.1 0 k := fun k hk => by
          rw [← hw3, pi_k hk, pi_p (by omega), y4.r (by simp only [List.mem_cons, List.not_mem_nil, or_false]; omega), q4.r (by decide)]
        refine ⟨(nI o.2.2.1.1, w3), ?_, rfl, ⟨h.1.fr (fun q hq => hi q (by omega) (by omega) (by omega) (by omega) (by omega) (by omega)) (fun q _ => by rw [hl]) (by rw [hl]) (by rw [hl]), ⟨⟨Nat.zero_le _, fun i hi => absurd hi (Nat.not_lt_zero _)⟩, ?_, fun i hi => absurd hi (Nat.not_lt_zero _)⟩, ?_, ⟨by show _ + 1 ≤ 4; omega, ?_, fun n hn => ?_⟩, fun r hr => ?_⟩, fun q hq => ⟨?_, by rw [hl], by rw [hl]⟩⟩
        · unfold f_X11_text f_X11_text_22 f_X11_takeScript f_X11_takeScript_23
          have g3 : w3.1 0 17 = nI (o.2.2.1.1 + 1) := by rw [← hw3, pi_same]
          simp (disch := omega) only [pv_v, pv_b2, pv_b1, pv_x, pv_lit, pv_ofN, pu_chk, pu_cl, nI_add, pk_mul, nI_leI, nI_ltI, nI_eq, pu_nar0, pu_nar1, pu_narb, bI_0, bI_1, ↓reduceIte, pu_leT, pu_leF, pu_ltT, pu_ltF, pu_eqT, pu_eqF, pu_x1, pu_x2, pu_x3, pu_x4, pu_x5, pu_x6, pu_x7, pu_x8, Nat.zero_add, pu_m31I, pu_m31, pu_shlI, eq_self, Bool.false_eq_true, Bool.true_eq_false, h1, e1, q1, g1, e2, g2, hw3, g3, pk_sub, Nat.add_sub_cancel]
        · show w3.1 1 1 = nI 0
          rw [← hw3, pi_p (by omega), pi_same]
        · exact h.2.2.1.fr (h0 18 (by omega)) (fun q hq => hi q (by omega) (by omega) (by omega) (by omega) (by omega) (by omega)) (by rw [hl])
        · show w3.1 0 17 = nI (o.2.2.1.1 + 1)
          rw [← hw3, pi_same]
        · have hn : n < o.2.2.1.1 + 1 := hn
          show scW (ups2 _ _ _ n).1 (ups2 _ _ _ n).2.1 ∧ scC n (ups2 _ _ _ n).1 (ups2 _ _ _ n).2.1 (ups2 _ _ _ n).2.2 w3
          unfold ups2
          by_cases c : n = o.2.2.1.1
          · rw [if_pos c, c]
            refine ⟨hsW, ?_, fun j hj => ⟨?_, ?_⟩⟩
            · rw [hi2 _ (by omega)]; exact y2.1
            · rw [hi2 _ (by omega)]; exact (y2.2 j hj).1
            · rw [hi2 _ (by omega)]; exact (y2.2 j hj).2
          · rw [if_neg c]
            have hk := h.2.2.2.1.2.2 n (by omega)
            exact ⟨hk.1, hk.2.fr (hi _ (by omega) (by omega) (by omega) (by omega) (by omega) (by omega)) (hi _ (by omega) (by omega) (by omega) (by omega) (by omega) (by omega)) (hi _ (by omega) (by omega) (by omega) (by omega) (by omega) (by omega))⟩
        · show w3.1 248 r = _
          rw [hi 248 (by omega) (by omega) (by omega) (by omega) (by omega) (by omega)]; exact h.2.2.2.2 r hr
        · exact hi q (by omega) (by omega) (by omega) (by omega) (by omega) (by omega)
      · have h1 : w.1 271 16 = nI o.2.2.1.1 := h.2.2.2.1.2.1
        obtain ⟨⟨q, w1⟩, e1, q1, q2, q3⟩ := r_readScript (n := o.2.2.1.1) (by omega) hW h.2.1.2
        rw [hR, eR] at q1
        rw [hR] at q2
        have q1 : q = -nI 1 := q1
        have q2 : w1.1 280 o.2.2.1.1 = nI R.2.1 ∧ ∀ j, j < R.2.1 → w1.1 279 (32 * o.2.2.1.1 + 2 * j) = nI (R.2.2.1 j) ∧ w1.1 279 (32 * o.2.2.1.1 + 2 * j + 1) = R.2.2.2 j := q2 eR
        have hx : RI fd z o w1 ∧ fR w w1 := h.rsg (Nat.le_refl _) q3
        obtain ⟨hI, hf⟩ := hx
        have g2 : (am_pi w1 271 2 (nI 0)).1 271 16 = nI o.2.2.1.1 := by rw [pi_k (by omega)]; exact hI.2.2.2.1.2.1
        generalize hw3 : am_pi (am_pi w1 271 2 (nI 0)) 271 16 (nI (o.2.2.1.1 + 1)) = w3
        have hi : ∀ q, q ≠ 271 → w3.1 q = w1.1 q := fun q a0 => by rw [← hw3, pi_p a0, pi_p a0]
        have hl : w3.2 = w1.2 := by rw [← hw3]; rfl
        have h0 : ∀ k, k ≠ 2 → k ≠ 16 → w3.1 271 k = w1.1 271 k := fun k k1 k2 => by rw [← hw3, pi_k k2, pi_k k1]
        refine ⟨(nI o.2.2.1.1, w3), ?_, rfl, ⟨hI.1.fr (h0 _ (by omega) (by omega)) (h0 _ (by omega) (by omega)) (fun q hq => hi q (by omega)) (by rw [hl]) (by rw [hl]), ⟨⟨Nat.zero_le _, fun i hi => absurd hi (Nat.not_lt_zero _)⟩, ?_, fun i hi => absurd hi (Nat.not_lt_zero _)⟩, ?_, ⟨by show _ + 1 ≤ 4; omega, ?_, fun n hn => ?_⟩, fun r hr => ?_⟩, fun q hq => ⟨(hi q (by omega)).trans (hf q hq).1, by rw [hl]; exact (hf q hq).2.1, by rw [hl]; exact (hf q hq).2.2⟩⟩
        · unfold f_X12_text f_X12_text_22
          have g3 : w3.1 271 16 = nI (o.2.2.1.1 + 1) := by rw [← hw3, pi_same]
          simp (disch := omega) only [pv_v, pv_b2, pv_b1, pv_x, pv_lit, pv_ofN, pu_chk, pu_cl, nI_add, pk_mul, nI_leI, nI_ltI, nI_eq, pu_nar0, pu_nar1, pu_narb, bI_0, bI_1, ↓reduceIte, pu_leT, pu_leF, pu_ltT, pu_ltF, pu_eqT, pu_eqF, pu_x1, pu_x2, pu_x3, pu_x4, pu_x5, pu_x6, pu_x7, pu_x8, Nat.zero_add, pu_m31I, pu_m31, pu_shlI, eq_self, Bool.false_eq_true, Bool.true_eq_false, h1, e1, q1, g2, hw3, g3, pk_sub, Nat.add_sub_cancel]
        · show w3.1 271 2 = nI 0
          rw [← hw3, pi_k (by omega), pi_same]
        · exact hI.2.2.1.fr (h0 29 (by omega) (by omega)) (hi 289 (by omega))
        · show w3.1 271 16 = nI (o.2.2.1.1 + 1)
          rw [← hw3, pi_same]
        · have hn : n < o.2.2.1.1 + 1 := hn
          show scW (ups2 _ _ _ n).1 (ups2 _ _ _ n).2.1 ∧ scR n (ups2 _ _ _ n).1 (ups2 _ _ _ n).2.1 (ups2 _ _ _ n).2.2 w3
          unfold ups2
          by_cases c : n = o.2.2.1.1
          · rw [if_pos c, c]
            refine ⟨hsW, by rw [hi _ (by omega)]; exact q2.1, fun j hj => ?_⟩
            rw [hi _ (by omega), show 2 * (16 * o.2.2.1.1 + j) = 32 * o.2.2.1.1 + 2 * j by omega]
            exact q2.2 j hj
          · rw [if_neg c]
            have hk := hI.2.2.2.1.2.2 n (by omega)
            exact ⟨hk.1, hk.2.fr (hi _ (by omega)) (hi _ (by omega))⟩
        · show w3.1 282 r = _
          rw [hi 282 (by omega)]; exact hI.2.2.2.2 r hr
theorem both_text (a : Int32) : Both j fd z o (fun a b => a = b) (f_X11_text a) (f_X12_text a) := by
  by_cases a0 : a = nI 0
  · subst a0; exact both_text0
  · by_cases a1 : a = nI 1
    · subst a1; exact both_text1
    · refine Both.val (-nI 1) rfl (fun w h => ?_) (fun w h => ?_)
      · unfold f_X11_text f_X11_text_22
        simp (disch := omega) only [pv_v, pv_b2, pv_b1, pv_x, pv_lit, pv_ofN, pu_chk, pu_cl, nI_add, pk_mul, nI_leI, nI_ltI, nI_eq, pu_nar0, pu_nar1, pu_narb, bI_0, bI_1, ↓reduceIte, pu_leT, pu_leF, pu_ltT, pu_ltF, pu_eqT, pu_eqF, pu_x1, pu_x2, pu_x3, pu_x4, pu_x5, pu_x6, pu_x7, pu_x8, Nat.zero_add, pu_m31I, pu_m31, pu_shlI, eq_self, Bool.false_eq_true, Bool.true_eq_false, a0, a1]
      · unfold f_X12_text f_X12_text_22 f_X12_text_69
        simp (disch := omega) only [pv_v, pv_b2, pv_b1, pv_x, pv_lit, pv_ofN, pu_chk, pu_cl, nI_add, pk_mul, nI_leI, nI_ltI, nI_eq, pu_nar0, pu_nar1, pu_narb, bI_0, bI_1, ↓reduceIte, pu_leT, pu_leF, pu_ltT, pu_ltF, pu_eqT, pu_eqF, pu_x1, pu_x2, pu_x3, pu_x4, pu_x5, pu_x6, pu_x7, pu_x8, Nat.zero_add, pu_m31I, pu_m31, pu_shlI, eq_self, Bool.false_eq_true, Bool.true_eq_false, a0, a1]
end TEXT2
