/-! pure part: END, FAULT, TEXT (wip/whole/pure/20.c.text.src) -/
section TEXT
variable {fd : Nat → Nat → Nat} {z z' : Zt} {o o' : Ot} {w w' w'' : am_S} {j : Nat}
theorem CI.read (h : CI fd z o w) (h1 : w'.1 1 1 = w.1 1 1) {A : List Nat} (hx : eqx A w w') (hA : ∀ q ∈ A, q = 1 ∨ (2 < q ∧ q < 11) ∨ (18 < q ∧ q < 22)) : CI fd z o w' ∧ fC w w' := by
  have hq : ∀ q, ¬ (q = 1 ∨ (2 < q ∧ q < 11) ∨ (18 < q ∧ q < 22)) → w'.1 q = w.1 q := fun q hq => hx.2 q (fun e => hq (hA q e))
  exact ⟨⟨h.1.fr (fun q h => hq q (by omega)) (fun q _ => by rw [hx.1]) (by rw [hx.1]) (by rw [hx.1]), h.2.fr1 h1 (fun q h => hq q (by omega)) (by rw [hx.1])⟩, hx.kC (fun q e => by have := hA q e; omega)⟩
theorem RI.r3 (h : RI fd z o w) (hx : r3 w w') : RI fd z o w' ∧ fR w w' := ⟨⟨h.1.fr (hx.1 _ (by omega) (by omega) (by omega) (by omega)) (hx.1 _ (by omega) (by omega) (by omega) (by omega)) (fun q hq => hx.2.2 q (by simp only [List.mem_cons, List.not_mem_nil, or_false]; omega)) (by rw [hx.2.1]) (by rw [hx.2.1]), h.2.fr (fun k hk => hx.1 _ (by omega) (by omega) (by omega) (by omega)) (fun q hq => hx.2.2 q (by simp only [List.mem_cons, List.not_mem_nil, or_false]; omega))⟩, hx.2.kR (by decide)⟩
theorem RI.rsg (h : RI fd z o w) {n : Nat} (hn : o.2.2.1.1 ≤ n) (hx : rsg n w w') : RI fd z o w' ∧ fR w w' := by
  obtain ⟨⟨g1, g2⟩, g3, ⟨g4, g5, g6⟩, g7⟩ := h.2
  refine ⟨⟨h.1.fr (hx.1 _ (by omega) (by omega)) (hx.1 _ (by omega) (by omega)) (fun q hq => hx.2.1.2 q (by simp only [List.mem_cons, List.not_mem_nil, or_false]; omega)) (by rw [hx.2.1.1]) (by rw [hx.2.1.1]), ⟨g1, hx.t g2⟩, g3.fr (hx.1 _ (by omega) (by omega)) (hx.2.1.r (by decide)), ⟨g4, by rw [hx.1 _ (by omega) (by omega)]; exact g5, fun m hm => ⟨(g6 m hm).1, ?_⟩⟩, fun r hr => by rw [hx.2.1.r (by decide)]; exact g7 r hr⟩, hx.2.1.kR (by decide)⟩
  obtain ⟨k1, k2⟩ := (g6 m hm).2
  have hW := (g6 m hm).1.1
  refine ⟨by rw [hx.2.2.2 m (by omega)]; exact k1, fun i hi => ?_⟩
  rw [hx.2.2.1 _ (by omega), hx.2.2.1 _ (by omega)]
  exact k2 i hi
theorem both_end (a : Int32) : Both j fd z o (fun a b => a = b) (f_X11_end a) (f_X12_end a) := by
  intro w hc hr hb hnf
  have hT : o.1.1 ≤ 240 := hc.2.1.1.1
  cases e : ix (o.1.1 + 1) a with
  | none =>
    refine Both.val (-nI 0) rfl (fun w h => ?_) (fun w h => ?_) w hc hr hb hnf
    · have h1 : w.1 1 1 = nI o.1.1 := h.2.1.2.1
      rcases ix_n e with g | g
      · unfold f_X11_end f_X11_end_15
        rw [if_pos (by rw [lt_ti]; exact g)]; rfl
      · unfold f_X11_end f_X11_end_15
        rw [if_neg (by rw [lt_ti, show (0 : Int32).toInt = 0 by decide]; omega), if_neg (by rw [h1, le_ti, nI_toInt (by omega)]; omega)]; rfl
    · have h1 : w.1 271 2 = nI o.1.1 := h.2.1.2.1
      unfold f_X12_end
      have := in_ix2 (w := w) a (m := o.1.1) (by omega)
      rw [e] at this
      simp (disch := omega) only [pv_v, pv_b2, pv_b1, pv_x, pv_lit, pv_ofN, pu_chk, pu_cl, nI_add, pk_mul, nI_leI, nI_ltI, nI_eq, pu_nar0, pu_nar1, pu_narb, bI_0, bI_1, ↓reduceIte, pu_leT, pu_leF, pu_ltT, pu_ltF, pu_eqT, pu_eqF, pu_x1, pu_x2, pu_x3, pu_x4, pu_x5, pu_x6, pu_x7, pu_x8, Nat.zero_add, pu_m31I, pu_m31, pu_shlI, eq_self, Bool.false_eq_true, Bool.true_eq_false, h1, this]
      rfl
  | some t =>
    obtain ⟨t1, t2, t3⟩ := ix_s e
    subst t2
    have hW : tW t o.1.2 := ⟨by omega, fun i hi => hc.2.1.1.2 i (by omega)⟩
    refine Both.mk (j := j) (fd := fd) (z := z) (o := o) (· = nI 1) (fun a b h1 h2 => by rw [h1, h2]) fd z ((t, o.1.2), o.2) (fun h => ⟨h.up.1, h.up.2⟩) (fun w h => ?_) (fun w h => ?_) (fun h => h) w hc hr hb hnf
    · have h1 : w.1 1 1 = nI o.1.1 := h.2.1.2.1
      refine ⟨(nI 1, am_pi w 1 1 (nI t)), ?_, rfl, ⟨h.1.fr (fun q hq => pi_p (by omega)) (fun _ _ => rfl) rfl rfl, ⟨hW, pi_same, fun i hi => ?_⟩, h.2.2.fr (fun q hq => pi_p (by omega)) rfl⟩, fun q hq => ⟨pi_p (by omega), rfl, rfl⟩⟩
      · unfold f_X11_end
        simp (disch := omega) only [pv_v, pv_b2, pv_b1, pv_x, pv_lit, pv_ofN, pu_chk, pu_cl, nI_add, pk_mul, nI_leI, nI_ltI, nI_eq, pu_nar0, pu_nar1, pu_narb, bI_0, bI_1, ↓reduceIte, pu_leT, pu_leF, pu_ltT, pu_ltF, pu_eqT, pu_eqF, pu_x1, pu_x2, pu_x3, pu_x4, pu_x5, pu_x6, pu_x7, pu_x8, Nat.zero_add, pu_m31I, pu_m31, pu_shlI, eq_self, Bool.false_eq_true, Bool.true_eq_false, h1]
      · rw [pi_p (by omega)]; exact h.2.1.2.2 i (by have : i < t := hi; omega)
    · have h1 : w.1 271 2 = nI o.1.1 := h.2.1.2.1
      have := in_ix2 (w := w) (nI t) (m := o.1.1) (by omega)
      rw [e] at this
      refine ⟨(nI 1, am_pi w 271 2 (nI t)), ?_, rfl, ⟨h.1.fr (pi_k (by omega)) (pi_k (by omega)) (fun q hq => pi_p (by omega)) rfl rfl, ⟨hW, pi_same, fun i hi => ?_⟩, h.2.2.fr (fun k hk => pi_k (by omega)) (fun q hq => pi_p (by omega))⟩, fun q hq => ⟨pi_p (by omega), rfl, rfl⟩⟩
      · unfold f_X12_end
        simp (disch := omega) only [pv_v, pv_b2, pv_b1, pv_x, pv_lit, pv_ofN, pu_chk, pu_cl, nI_add, pk_mul, nI_leI, nI_ltI, nI_eq, pu_nar0, pu_nar1, pu_narb, bI_0, bI_1, ↓reduceIte, pu_leT, pu_leF, pu_ltT, pu_ltF, pu_eqT, pu_eqF, pu_x1, pu_x2, pu_x3, pu_x4, pu_x5, pu_x6, pu_x7, pu_x8, Nat.zero_add, pu_m31I, pu_m31, pu_shlI, eq_self, Bool.false_eq_true, Bool.true_eq_false, h1, this, Option.isSome]
      · rw [pi_p (by omega)]; exact h.2.1.2.2 i (by have : i < t := hi; omega)
theorem both_feed (a b c d e : Int32) : Both j fd z o (fun a b => a = b) (f_X11_feed a b c d e) (f_X12_feed a b c d e) := by
  intro w hc hr hb hnf
  have hW := hc.2.1.1
  have hT := hW.1
  by_cases g : o.1.1 + yn (fdb a b c d e) 20 ≤ 240
  · refine Both.mk (j := j) (fd := fd) (z := z) (o := o) (· = nI (apn o.1 (fdb a b c d e) 20).1) (fun a b h1 h2 => by rw [h1, h2]) fd z (apn o.1 (fdb a b c d e) 20, o.2) (fun h => ⟨h.up.1, h.up.2⟩) (fun w h => ?_) (fun w h => ?_) (fun h => h) w hc hr hb hnf
    · obtain ⟨q, e1, q1, _⟩ := c_feed (p := o.1) a b c d e h.2.1.2 hT
      obtain ⟨q1, q2, q3⟩ := q1 g
      exact ⟨q, e1, q1, ⟨h.1.fr (fun q hq => q3.2 q (by simp only [List.mem_cons, List.not_mem_nil, or_false]; omega)) (fun q _ => by rw [q3.1]) (by rw [q3.1]) (by rw [q3.1]), ⟨tW_apn hW (fdb_lt a b c d e) g, q2⟩, h.2.2.fr (fun q hq => q3.2 q (by simp only [List.mem_cons, List.not_mem_nil, or_false]; omega)) (by rw [q3.1])⟩, q3.kC (by decide)⟩
    · obtain ⟨q, e1, q1, _⟩ := r_feed (p := o.1) a b c d e h.2.1.2 hT
      obtain ⟨q1, q2, q4, q3⟩ := q1 g
      exact ⟨q, e1, q1, ⟨h.1.fr (q4 _ (by omega)) (q4 _ (by omega)) (fun q hq => q3.2 q (by simp only [List.mem_cons, List.not_mem_nil, or_false]; omega)) (by rw [q3.1]) (by rw [q3.1]), ⟨tW_apn hW (fdb_lt a b c d e) g, q2⟩, h.2.2.fr (fun k hk => q4 k (by omega)) (fun q hq => q3.2 q (by simp only [List.mem_cons, List.not_mem_nil, or_false]; omega))⟩, q3.kR (by decide)⟩
  · refine Both.val (-nI 1) rfl (fun w h => ?_) (fun w h => ?_) w hc hr hb hnf
    · obtain ⟨⟨q, w'⟩, e1, _, q1⟩ := c_feed (p := o.1) a b c d e h.2.1.2 hT
      obtain ⟨q1, q2⟩ := q1 g
      have q1 : q = -nI 1 := q1
      have q2 : w' = w := q2
      rw [e1, q1, q2]
    · obtain ⟨⟨q, w'⟩, e1, _, q1⟩ := r_feed (p := o.1) a b c d e h.2.1.2 hT
      obtain ⟨q1, q2⟩ := q1 g
      have q1 : q = -nI 1 := q1
      have q2 : w' = w := q2
      rw [e1, q1, q2]
/-- the answer of reading a FIELD -/
def fA (T : Nat) (R : Option Nat × Pt) (v : Int32) : Prop := (∀ e, R.1 = some e → v = nI e) ∧ (R.1 = none → whP R.2 → v = -nI 1) ∧ (R.1 = none → ¬ whP R.2 → v = nI T)
theorem fA.u {T : Nat} {R : Option Nat × Pt} {a b : Int32} (h : fA T R a) (h2 : fA T R b) : a = b := by
  cases e : R.1 with
  | some i => rw [h.1 i e, h2.1 i e]
  | none =>
    rcases Classical.em (whP R.2) with c | c
    · rw [h.2.1 e c, h2.2.1 e c]
    · rw [h.2.2 e c, h2.2.2 e c]
theorem both_fault (a : Int32) : Both j fd z o (fun a b => a = b) (f_X11_fault a) (f_X12_fault a) := by
  intro w hc hr hb hnf
  have hW := hc.2.1.1
  by_cases a0 : a = nI 0
  · subst a0
    refine Both.mk (j := j) (fd := fd) (z := z) (o := o) (fA o.1.1 (cls o.1.1 o.1.2 241 p0 0)) (fun a b h1 h2 => h1.u h2) fd z o bn.up (fun w h => ?_) (fun w h => ?_) (fun h => h) w hc hr hb hnf
    · obtain ⟨⟨q, w'⟩, e1, q1, q2, q3, q4, q5⟩ := c_readFrom (o := 3) (by omega) hW h.2.1.2
      refine ⟨(q, w'), ?_, ⟨q1, fun g1 g2 => (q2 g1 g2).1, q3⟩, h.read q4 q5 (by decide)⟩
      unfold f_X11_fault
      simp (disch := omega) only [pv_v, pv_b2, pv_b1, pv_x, pv_lit, pv_ofN, pu_chk, pu_cl, nI_add, pk_mul, nI_leI, nI_ltI, nI_eq, pu_nar0, pu_nar1, pu_narb, bI_0, bI_1, ↓reduceIte, pu_leT, pu_leF, pu_ltT, pu_ltF, pu_eqT, pu_eqF, pu_x1, pu_x2, pu_x3, pu_x4, pu_x5, pu_x6, pu_x7, pu_x8, Nat.zero_add, pu_m31I, pu_m31, pu_shlI, eq_self, Bool.false_eq_true, Bool.true_eq_false, e1]
    · obtain ⟨⟨q, w'⟩, e1, q1, q2, q3, q4⟩ := r_readField hW h.2.1.2
      refine ⟨(q, w'), ?_, ⟨q1, fun g1 g2 => (q2 g1 g2).1, q3⟩, h.r3 q4⟩
      unfold f_X12_fault f_X12_fault_26
      simp (disch := omega) only [pv_v, pv_b2, pv_b1, pv_x, pv_lit, pv_ofN, pu_chk, pu_cl, nI_add, pk_mul, nI_leI, nI_ltI, nI_eq, pu_nar0, pu_nar1, pu_narb, bI_0, bI_1, ↓reduceIte, pu_leT, pu_leF, pu_ltT, pu_ltF, pu_eqT, pu_eqF, pu_x1, pu_x2, pu_x3, pu_x4, pu_x5, pu_x6, pu_x7, pu_x8, Nat.zero_add, pu_m31I, pu_m31, pu_shlI, eq_self, Bool.false_eq_true, Bool.true_eq_false, e1]
  · by_cases a1 : a = nI 1
    · subst a1
      refine Both.mk (j := j) (fd := fd) (z := z) (o := o) (· = eI (scl o.1.1 o.1.2 16 0 sk0 sn0 0).1) (fun a b h1 h2 => by rw [h1, h2]) fd z o bn.up (fun w h => ?_) (fun w h => ?_) (fun h => h) w hc hr hb hnf
      · obtain ⟨⟨q, w'⟩, e1, q1, q2, q3, q4⟩ := c_readScript (o := 19) (by omega) hW h.2.1.2
        refine ⟨(q, w'), ?_, q1, h.read q3 q4 (by decide)⟩
        unfold f_X11_fault f_X11_fault_37
        simp (disch := omega) only [pv_v, pv_b2, pv_b1, pv_x, pv_lit, pv_ofN, pu_chk, pu_cl, nI_add, pk_mul, nI_leI, nI_ltI, nI_eq, pu_nar0, pu_nar1, pu_narb, bI_0, bI_1, ↓reduceIte, pu_leT, pu_leF, pu_ltT, pu_ltF, pu_eqT, pu_eqF, pu_x1, pu_x2, pu_x3, pu_x4, pu_x5, pu_x6, pu_x7, pu_x8, Nat.zero_add, pu_m31I, pu_m31, pu_shlI, eq_self, Bool.false_eq_true, Bool.true_eq_false, e1]
      · obtain ⟨⟨q, w'⟩, e1, q1, q2, q3⟩ := r_readScript (n := 4) (by omega) hW h.2.1.2
        refine ⟨(q, w'), ?_, q1, h.rsg h.2.2.2.1.1 q3⟩
        unfold f_X12_fault f_X12_fault_26
        simp (disch := omega) only [pv_v, pv_b2, pv_b1, pv_x, pv_lit, pv_ofN, pu_chk, pu_cl, nI_add, pk_mul, nI_leI, nI_ltI, nI_eq, pu_nar0, pu_nar1, pu_narb, bI_0, bI_1, ↓reduceIte, pu_leT, pu_leF, pu_ltT, pu_ltF, pu_eqT, pu_eqF, pu_x1, pu_x2, pu_x3, pu_x4, pu_x5, pu_x6, pu_x7, pu_x8, Nat.zero_add, pu_m31I, pu_m31, pu_shlI, eq_self, Bool.false_eq_true, Bool.true_eq_false, e1]
    · refine Both.val (-nI 2) rfl (fun w h => ?_) (fun w h => ?_) w hc hr hb hnf
      · unfold f_X11_fault f_X11_fault_37
        simp (disch := omega) only [pv_v, pv_b2, pv_b1, pv_x, pv_lit, pv_ofN, pu_chk, pu_cl, nI_add, pk_mul, nI_leI, nI_ltI, nI_eq, pu_nar0, pu_nar1, pu_narb, bI_0, bI_1, ↓reduceIte, pu_leT, pu_leF, pu_ltT, pu_ltF, pu_eqT, pu_eqF, pu_x1, pu_x2, pu_x3, pu_x4, pu_x5, pu_x6, pu_x7, pu_x8, Nat.zero_add, pu_m31I, pu_m31, pu_shlI, eq_self, Bool.false_eq_true, Bool.true_eq_false, a0, a1]
      · unfold f_X12_fault f_X12_fault_26
        simp (disch := omega) only [pv_v, pv_b2, pv_b1, pv_x, pv_lit, pv_ofN, pu_chk, pu_cl, nI_add, pk_mul, nI_leI, nI_ltI, nI_eq, pu_nar0, pu_nar1, pu_narb, bI_0, bI_1, ↓reduceIte, pu_leT, pu_leF, pu_ltT, pu_ltF, pu_eqT, pu_eqF, pu_x1, pu_x2, pu_x3, pu_x4, pu_x5, pu_x6, pu_x7, pu_x8, Nat.zero_add, pu_m31I, pu_m31, pu_shlI, eq_self, Bool.false_eq_true, Bool.true_eq_false, a0, a1]
theorem scl_W {T : Nat} {tp : Nat → Nat} (hT : tW T tp) : ∀ {f n i : Nat} {sk : Nat → Nat} {sn : Nat → Int32}, i ≤ T → n + f ≤ 16 → (∀ j, j < n → sk j < 6) → (scl T tp f n sk sn i).1 = none → scW (scl T tp f n sk sn i).2.1 (scl T tp f n sk sn i).2.2.1 := by
  intro f
  induction f with
  | zero => intro n i sk sn _ _ _ h; cases h
  | succ f ih =>
    intro n i sk sn hi hn hs h
    have hle := stp_le (tp := tp) hT hi
    have hs1 : ∀ j, j < n + 1 → upn sk n (stp T tp i).2.2.1 j < 6 := fun j hj => by
      unfold upn
      by_cases c : j = n
      · rw [if_pos c]; exact hle.2
      · rw [if_neg c]; exact hs j (by omega)
    cases e : (stp T tp i).1 with
    | false => rw [scl_f e] at h; cases h
    | true =>
      by_cases s0 : sg T tp (nB T tp (stp T tp i).2.1) = 0
      · rw [scl_0 e s0]; exact ⟨by show n + 1 ≤ 16; omega, hs1⟩
      · by_cases s5 : sg T tp (nB T tp (stp T tp i).2.1) = 59 ∧ n + 1 ≠ 16
        · rw [scl_g e s5.1 s5.2] at h ⊢
          have hb := nB_le (tp := tp) hle.1
          have hbT : nB T tp (stp T tp i).2.1 < T := by
            rcases Nat.lt_or_ge (nB T tp (stp T tp i).2.1) T with c | c
            · exact c
            · exact absurd ((sg_0 hT).mpr c) s0
          exact ih hbT (by omega) hs1 h
        · rw [scl_b e s0 s5] at h; cases h
end TEXT
