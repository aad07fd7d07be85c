/-! pure part: RUN, both sides (wip/whole/pure/16.b.run.src) -/
section RUN
variable {fd st : Nat → Nat → Nat} {z : Zt} {w w' w'' : am_S} {p n sl : Nat} {sk : Nat → Nat} {sn : Nat → Int32}
theorem aS_34 {k a b : Nat} {x : Int64} (hk : k ≤ 8) (h : k ≠ 7) {j : Nat} : aS fd st k a b x 3 j = st 3 j ∧ aS fd st k a b x 4 j = st 4 j := by
  have hk' : k = 0 ∨ k = 1 ∨ k = 2 ∨ k = 3 ∨ k = 4 ∨ k = 5 ∨ k = 6 ∨ k = 8 := by omega
  rcases hk' with c | c | c | c | c | c | c | c
  · rw [aS_st.1 c]
    unfold aS
    rw [if_pos rfl]
    exact ⟨upw_a (by omega), upw_a (by omega)⟩
  · rw [aS_st.2.1 c]; exact ⟨pu_rd_a (by omega), pu_rd_a (by omega)⟩
  · rw [aS_st.2.2.1 c]; exact ⟨upw_a (by omega), upw_a (by omega)⟩
  · rw [aS_st.2.2.2.1 c]; exact ⟨upw_a (by omega), upw_a (by omega)⟩
  · rw [aS_st.2.2.2.2.1 c]; exact ⟨upk_a (by omega), upk_a (by omega)⟩
  · rw [aS_st.2.2.2.2.2.1 c]; unfold upc; exact ⟨if_neg (by omega), if_neg (by omega)⟩
  · rw [aS_st.2.2.2.2.2.2.1 c]; exact ⟨upk_a (by omega), upk_a (by omega)⟩
  · rw [aS_st.2.2.2.2.2.2.2.2 c]; exact ⟨by rw [upk_a (by omega), upk_a (by omega)], by rw [upk_a (by omega), upk_a (by omega)]⟩
/-- what the class's RUN leaves -/
def eqE (w w' : am_S) : Prop := eqy [28, 29, 31, 32, 250, 253, 254] [30, 256] w w'
theorem cZ.tr (h : cZ fd z w) (hx : eqE w w') (ht : cT fd w') : cZ fd z w' := by
  obtain ⟨hz, hX, hP, hJ⟩ := h
  exact ⟨hz, ⟨hX.1, hX.2.1, hX.2.2.1.fr (hx.1 _ (by decide)) (hx.1 _ (by decide)) (hx.1 _ (by decide)) (hx.1 _ (by decide)) (hx.1 _ (by decide)), ht, hX.2.2.2.2.fr (hx.1 _ (by decide)) (hx.1 _ (by decide)) (hx.2.1 _ (by decide)) (hx.1 _ (by decide)) (hx.1 _ (by decide))⟩, hP.fr (fun q h1 h2 => ⟨hx.1 q (by simp only [List.mem_cons, List.not_mem_nil, or_false]; omega), hx.2.1 q (by simp only [List.mem_cons, List.not_mem_nil, or_false]; omega)⟩), hJ.fr (hx.1 _ (by decide)) (hx.1 _ (by decide)) (hx.1 _ (by decide)) (hx.1 _ (by decide))⟩
theorem scC.E (h : scC n sl sk sn w) (hx : eqE w w') : scC n sl sk sn w' := h.fr (hx.1 _ (by simp only [List.mem_cons, List.not_mem_nil, or_false]; omega)) (hx.1 _ (by simp only [List.mem_cons, List.not_mem_nil, or_false]; omega)) (hx.1 _ (by simp only [List.mem_cons, List.not_mem_nil, or_false]; omega))
theorem c_tryOut (h : cX fd st 28 w) (hW : scW sl sk) (hs : scC n sl sk sn w) : Wp (f_X11_tryOut (259 + 3 * n) w) (fun q => q.1 = nI (gR fd sk sn sl 0 st).1 ∧ cX fd (gR fd sk sn sl 0 st).2 28 q.2 ∧ eqE w q.2) := by
  have h16 := hW.1
  unfold f_X11_tryOut f_X11_tryOut_2
  refine Wp.loop (fun i s => ∃ w' st', s = (nI i, w') ∧ i ≤ sl ∧ cX fd st' 28 w' ∧ eqE w w' ∧ gR fd sk sn (sl - i) i st' = gR fd sk sn sl 0 st) sl (by omega) ⟨w, st, rfl, Nat.zero_le _, h, eqy.rf, rfl⟩ ?_
  rintro i s hi ⟨w', st', rfl, hi2, i1, i2, i3⟩
  have hs' := hs.E i2
  unfold f_X11_tryOut_2b
  rcases Nat.lt_or_ge i sl with c | c
  · have hk := hW.2 i c
    obtain ⟨k1, k2, k3⟩ := ao_le hk
    have e2 := (hs'.2 i c).2
    have eg : sl - i = (sl - (i + 1)) + 1 := by omega
    rw [eg] at i3
    obtain ⟨⟨v, w1⟩, t1, t2, t3, t4⟩ := c_refusalOf i1 (by omega) (by omega) k1 (sn i) (-nI 1)
    rw [aW_e (.inr rfl) (by omega) (b' := nI 0)] at t2
    have hX1 : cX fd st' 28 w1 := i1.ex (by omega) t3 t4
    have ex1 : eqE w' w1 := (t3.up (by decide)).y
    cases e : aW fd st' (ao (sk i)) (sn i) (nI 0) with
    | none =>
      rw [gR_n e] at i3
      rw [e] at t2
      have t2 : v = -nI 1 := t2
      subst t2
      have ew : aW fd st' (ao (sk i)) (sn i) (-nI 1) = none := by rw [aW_e (.inr rfl) (by omega) (b' := nI 0)]; exact e
      obtain ⟨⟨r, w2⟩, u1, u2, u3, u4⟩ := c_carryOut hX1 (by omega) (by omega) k1 (sn i).toInt64 ew
      have u3 : cX fd (aS fd st' (ao (sk i)) (aN (sn i)) (aN (-nI 1)) (sn i).toInt64) 28 w2 := u3
      rw [aS_e (.inr rfl) (by omega) (b' := 0)] at u3
      simp (disch := omega) only [pv_v, pv_b2, pv_b1, pv_x, pv_lit, pv_ofN, pu_chk, pu_cl, nI_add, pk_mul, nI_leI, nI_ltI, nI_eq, pu_nar0, pu_nar1, pu_narb, bI_0, bI_1, ↓reduceIte, pu_leT, pu_leF, pu_ltT, pu_ltF, pu_eqT, pu_eqF, pu_x1, pu_x2, pu_x3, pu_x4, pu_x5, pu_x6, pu_x7, pu_x8, Nat.zero_add, pu_m31I, pu_m31, pu_shlI, eq_self, Bool.false_eq_true, Bool.true_eq_false, hs'.1, c_sortOf hW hs' c, e2, t1, u1]
      exact Wp.some ⟨trivial, w2, _, rfl, trivial, u3, (i2.on ex1).on u4, i3⟩
    | some r =>
      have hr := aW_lt e
      rw [gR_s e] at i3
      rw [e] at t2
      have t2 : v = nI r := t2
      subst t2
      simp (disch := omega) only [pv_v, pv_b2, pv_b1, pv_x, pv_lit, pv_ofN, pu_chk, pu_cl, nI_add, pk_mul, nI_leI, nI_ltI, nI_eq, pu_nar0, pu_nar1, pu_narb, bI_0, bI_1, ↓reduceIte, pu_leT, pu_leF, pu_ltT, pu_ltF, pu_eqT, pu_eqF, pu_x1, pu_x2, pu_x3, pu_x4, pu_x5, pu_x6, pu_x7, pu_x8, Nat.zero_add, pu_m31I, pu_m31, pu_shlI, eq_self, Bool.false_eq_true, Bool.true_eq_false, hs'.1, c_sortOf hW hs' c, e2, t1]
      rw [← i3]
      exact Wp.some ⟨rfl, hX1, i2.on ex1⟩
  · have : i = sl := by omega
    subst this
    rw [Nat.sub_self, gR] at i3
    simp (disch := omega) only [pv_v, pv_b2, pv_b1, pv_x, pv_lit, pv_ofN, pu_chk, pu_cl, nI_add, pk_mul, nI_leI, nI_ltI, nI_eq, pu_nar0, pu_nar1, pu_narb, bI_0, bI_1, ↓reduceIte, pu_leT, pu_leF, pu_ltT, pu_ltF, pu_eqT, pu_eqF, pu_x1, pu_x2, pu_x3, pu_x4, pu_x5, pu_x6, pu_x7, pu_x8, Nat.zero_add, pu_m31I, pu_m31, pu_shlI, eq_self, Bool.false_eq_true, Bool.true_eq_false, hs'.1]
    rw [← i3]
    exact Wp.some ⟨rfl, i1, i2⟩
theorem gR_le {f : Nat} : ∀ {i : Nat} {st : Nat → Nat → Nat}, (gR fd sk sn f i st).1 ≤ i + f := by
  induction f with
  | zero => intro i st; exact Nat.le_refl _
  | succ f ih =>
    intro i st
    cases e : aW fd st (ao (sk i)) (sn i) (nI 0) with
    | none =>
      rw [gR_n e]
      have := ih (i := i + 1) (st := aS fd st (ao (sk i)) (aN (sn i)) 0 (sn i).toInt64)
      omega
    | some r => rw [gR_s e]; exact Nat.le_add_right _ _
/-- what RUN answers -/
def gV (fd : Nat → Nat → Nat) (sk : Nat → Nat) (sn : Nat → Int32) (sl : Nat) (st : Nat → Nat → Nat) (t : Nat) : Int32 := if t = 1 then nI (kc (gR fd sk sn sl 0 st).2) else if (gR fd sk sn sl 0 st).1 = sl then -nI 1 else nI (gR fd sk sn sl 0 st).1
theorem c_run (h : cZ fd z w) (hn : n < 4) (hf : 0 < (fd 0 0)) (hW : scW sl sk) (hs : scC n sl sk sn w) (hno : f_X11_noScript (nI n) w = some (nI 0, w)) {t : Nat} (ht : t < 2) : Wp (f_X11_run (nI n) (nI t) w) (fun q => q.1 = gV fd sk sn sl z.1 t ∧ cZ fd z q.2 ∧ eqE w q.2) := by
  have hF := h.2.1.1
  have h10 := hF.1
  have h16 := hW.1
  have e1 := c_noField (w := w) h.2.1.2.2.1.1 h10
  rw [decide_eq_false (show ¬ (fd 0 0) = 0 by omega)] at e1
  obtain ⟨w1, t1, t2, t3⟩ := c_takeFrom (q := 28) (p := 23) h.2.1.2.1.2.2.2.2 h.2.1.2.2.2.2 (by omega)
  have hX : cX fd z.1 28 w1 := h.2.1.1 |> fun _ => ⟨h.2.1.1, h.2.1.2.1, h.2.1.2.2.1.fr (t3.1 _ (by decide)) (t3.1 _ (by decide)) (t3.1 _ (by decide)) (t3.1 _ (by decide)) (t3.1 _ (by decide)), h.2.1.2.2.2.1.fr (t3.1 _ (by decide)) (t3.1 _ (by decide)) t3.2.2, t2⟩
  have x1 : eqE w w1 := t3.up (by decide) (by decide)
  obtain ⟨⟨v, w2⟩, u1, u2, u3, u4⟩ := c_tryOut hX hW (hs.E x1)
  have u2 : v = nI (gR fd sk sn sl 0 z.1).1 := u2
  subst u2
  have u3 : cX fd (gR fd sk sn sl 0 z.1).2 28 w2 := u3
  have u4 : eqE w1 w2 := u4
  have hz := h.tr (x1.on u4) u3.2.2.2.1
  have hs2 := (hs.E (x1.on u4)).1
  have hkc := c_knownCount (p := 28) u3.2.1 u3.2.2.2.2.1
  have hle : (gR fd sk sn sl 0 z.1).1 ≤ 0 + sl := gR_le
  unfold f_X11_run f_X11_run_80 gV
  have ht' : t = 0 ∨ t = 1 := by omega
  rcases ht' with rfl | rfl
  · rw [if_neg (by omega)]
    by_cases c : (gR fd sk sn sl 0 z.1).1 = sl
    · rw [if_pos c]
      rw [c] at u1
      simp (disch := omega) only [pv_v, pv_b2, pv_b1, pv_x, pv_lit, pv_ofN, pu_chk, pu_cl, nI_add, pk_mul, nI_leI, nI_ltI, nI_eq, pu_nar0, pu_nar1, pu_narb, bI_0, bI_1, ↓reduceIte, pu_leT, pu_leF, pu_ltT, pu_ltF, pu_eqT, pu_eqF, pu_x1, pu_x2, pu_x3, pu_x4, pu_x5, pu_x6, pu_x7, pu_x8, Nat.zero_add, pu_m31I, pu_m31, pu_shlI, eq_self, Bool.false_eq_true, Bool.true_eq_false, hno, e1, t1, u1, hs2]
      exact Wp.some ⟨rfl, hz, x1.on u4⟩
    · rw [if_neg c]
      simp (disch := omega) only [pv_v, pv_b2, pv_b1, pv_x, pv_lit, pv_ofN, pu_chk, pu_cl, nI_add, pk_mul, nI_leI, nI_ltI, nI_eq, pu_nar0, pu_nar1, pu_narb, bI_0, bI_1, ↓reduceIte, pu_leT, pu_leF, pu_ltT, pu_ltF, pu_eqT, pu_eqF, pu_x1, pu_x2, pu_x3, pu_x4, pu_x5, pu_x6, pu_x7, pu_x8, Nat.zero_add, pu_m31I, pu_m31, pu_shlI, eq_self, Bool.false_eq_true, Bool.true_eq_false, hno, e1, t1, u1, hs2, c]
      exact Wp.some ⟨rfl, hz, x1.on u4⟩
  · rw [if_pos rfl]
    simp (disch := omega) only [pv_v, pv_b2, pv_b1, pv_x, pv_lit, pv_ofN, pu_chk, pu_cl, nI_add, pk_mul, nI_leI, nI_ltI, nI_eq, pu_nar0, pu_nar1, pu_narb, bI_0, bI_1, ↓reduceIte, pu_leT, pu_leF, pu_ltT, pu_ltF, pu_eqT, pu_eqF, pu_x1, pu_x2, pu_x3, pu_x4, pu_x5, pu_x6, pu_x7, pu_x8, Nat.zero_add, pu_m31I, pu_m31, pu_shlI, eq_self, Bool.false_eq_true, Bool.true_eq_false, hno, e1, t1, u1, hkc]
    exact Wp.some ⟨rfl, hz, x1.on u4⟩
theorem r_bb (w : am_S) : Wp (f_X12_bringBack w) (fun w' => (∀ k, w'.1 281 k = if k < 31 then w.1 286 k else w.1 281 k) ∧ eqx [281] w w') := by
  unfold f_X12_bringBack f_X12_bringBack_2
  refine Wp.for (fun i w => (nI i, w)) (fun i w' => (∀ k, w'.1 281 k = if k < i then w.1 286 k else w.1 281 k) ∧ eqx [281] w w') 31 (by decide) rfl ⟨fun k => by rw [if_neg (by omega)], eqx.rf⟩ (fun i w' hi hI => ?_) (fun w' hI => ?_)
  · obtain ⟨i1, i2⟩ := hI
    have e : w'.1 286 = w.1 286 := i2.r (by decide)
    unfold f_X12_bringBack_2b
    simp (disch := omega) only [pv_v, pv_b2, pv_b1, pv_x, pv_lit, pv_ofN, pu_chk, pu_cl, nI_add, pk_mul, nI_leI, nI_ltI, nI_eq, pu_nar0, pu_nar1, pu_narb, bI_0, bI_1, ↓reduceIte, pu_leT, pu_leF, pu_ltT, pu_ltF, pu_eqT, pu_eqF, pu_x1, pu_x2, pu_x3, pu_x4, pu_x5, pu_x6, pu_x7, pu_x8, Nat.zero_add, pu_m31I, pu_m31, pu_shlI, eq_self, Bool.false_eq_true, Bool.true_eq_false, e]
    refine Wp.some ⟨_, rfl, fun k => ?_, i2.on (eqx.pi (by simp))⟩
    rw [pi_ite, i1]
    by_cases c : k = i
    · subst c; rw [if_pos rfl, if_pos (by omega)]
    · rw [if_neg c]
      by_cases d : k < i
      · rw [if_pos d, if_pos (by omega)]
      · rw [if_neg d, if_neg (by omega)]
  · unfold f_X12_bringBack_2b
    simp (disch := omega) only [pv_v, pv_b2, pv_b1, pv_x, pv_lit, pv_ofN, pu_chk, pu_cl, nI_add, pk_mul, nI_leI, nI_ltI, nI_eq, pu_nar0, pu_nar1, pu_narb, bI_0, bI_1, ↓reduceIte, pu_leT, pu_leF, pu_ltT, pu_ltF, pu_eqT, pu_eqF, pu_x1, pu_x2, pu_x3, pu_x4, pu_x5, pu_x6, pu_x7, pu_x8, Nat.zero_add, pu_m31I, pu_m31, pu_shlI, eq_self, Bool.false_eq_true, Bool.true_eq_false]
    exact Wp.some hI
/-- what the reference's RUN leaves while it goes -/
def eqG (w w' : am_S) : Prop := eqy [281, 284] [271] w w' ∧ ∀ j, 64 ≤ j → w'.1 281 j = w.1 281 j
theorem r_goSteps0 (h : rQ fd st 0 w) (hn : n < 4) (hW : scW sl sk) (hs : scR n sl sk sn w) : Wp (f_X12_goSteps (nI n) (nI 0) w) (fun q => q.1 = nI (gR fd sk sn sl 0 st).1 ∧ rQ fd (gR fd sk sn sl 0 st).2 0 q.2 ∧ eqG w q.2 ∧ ∀ j, (gR fd sk sn sl 0 st).2 3 j = st 3 j ∧ (gR fd sk sn sl 0 st).2 4 j = st 4 j) := by
  have h16 := hW.1
  unfold f_X12_goSteps f_X12_goSteps_2
  refine Wp.loop (fun i s => ∃ w' st', s = (nI i, w') ∧ i ≤ sl ∧ rQ fd st' 0 w' ∧ eqG w w' ∧ gR fd sk sn (sl - i) i st' = gR fd sk sn sl 0 st ∧ ∀ j, st' 3 j = st 3 j ∧ st' 4 j = st 4 j) sl (by omega) ⟨w, st, rfl, Nat.zero_le _, h, ⟨eqy.rf, fun _ _ => rfl⟩, rfl, fun _ => ⟨rfl, rfl⟩⟩ ?_
  rintro i s hi ⟨w', st', rfl, hi2, i1, i2, i3, i4⟩
  have hs' : scR n sl sk sn w' := hs.fr (i2.1.1 _ (by decide)) (i2.1.1 _ (by decide))
  unfold f_X12_goSteps_2b f_X12_goSteps_95
  rcases Nat.lt_or_ge i sl with c | c
  · have hk := hW.2 i c
    obtain ⟨k1, k2, k3⟩ := ao_le hk
    obtain ⟨e1, e2⟩ := hs'.2 i c
    have ea := actOf_e (w := w') hk
    have eg : sl - i = (sl - (i + 1)) + 1 := by omega
    rw [eg] at i3
    have hw := r_whyNot i1 k1 (sn i) (nI 0)
    cases e : aW fd st' (ao (sk i)) (sn i) (nI 0) with
    | none =>
      rw [gR_n e] at i3
      rw [e, show oI none = -nI 1 from rfl] at hw
      obtain ⟨⟨r, w2⟩, t1, t2, t3, t4, t5, t6⟩ := r_doNow i1 k1 (sn i).toInt64 e
      have t3 : rQ fd (aS fd st' (ao (sk i)) (aN (sn i)) (aN (nI 0)) (sn i).toInt64) 0 w2 := t3
      rw [aN_nI (by omega)] at t3
      simp (disch := omega) only [pv_v, pv_b2, pv_b1, pv_x, pv_lit, pv_ofN, pu_chk, pu_cl, nI_add, pk_mul, nI_leI, nI_ltI, nI_eq, pu_nar0, pu_nar1, pu_narb, bI_0, bI_1, ↓reduceIte, pu_leT, pu_leF, pu_ltT, pu_ltF, pu_eqT, pu_eqF, pu_x1, pu_x2, pu_x3, pu_x4, pu_x5, pu_x6, pu_x7, pu_x8, Nat.zero_add, pu_m31I, pu_m31, pu_shlI, eq_self, Bool.false_eq_true, Bool.true_eq_false, hs'.1, e1, e2, ea, hw, t1]
      exact Wp.some ⟨trivial, w2, _, rfl, trivial, t3, ⟨i2.1.on t5, fun j hj => (t4 j hj).trans (i2.2 j hj)⟩, i3, fun j => ⟨(aS_34 k1 k2).1.trans (i4 j).1, (aS_34 k1 k2).2.trans (i4 j).2⟩⟩
    | some r =>
      have hr := aW_lt e
      rw [gR_s e] at i3
      rw [e, show oI (some r) = nI r from rfl] at hw
      simp (disch := omega) only [pv_v, pv_b2, pv_b1, pv_x, pv_lit, pv_ofN, pu_chk, pu_cl, nI_add, pk_mul, nI_leI, nI_ltI, nI_eq, pu_nar0, pu_nar1, pu_narb, bI_0, bI_1, ↓reduceIte, pu_leT, pu_leF, pu_ltT, pu_ltF, pu_eqT, pu_eqF, pu_x1, pu_x2, pu_x3, pu_x4, pu_x5, pu_x6, pu_x7, pu_x8, Nat.zero_add, pu_m31I, pu_m31, pu_shlI, eq_self, Bool.false_eq_true, Bool.true_eq_false, hs'.1, e1, e2, ea, hw]
      rw [← i3]
      exact Wp.some ⟨rfl, i1, i2, i4⟩
  · have : i = sl := by omega
    subst this
    rw [Nat.sub_self, gR] at i3
    simp (disch := omega) only [pv_v, pv_b2, pv_b1, pv_x, pv_lit, pv_ofN, pu_chk, pu_cl, nI_add, pk_mul, nI_leI, nI_ltI, nI_eq, pu_nar0, pu_nar1, pu_narb, bI_0, bI_1, ↓reduceIte, pu_leT, pu_leF, pu_ltT, pu_ltF, pu_eqT, pu_eqF, pu_x1, pu_x2, pu_x3, pu_x4, pu_x5, pu_x6, pu_x7, pu_x8, Nat.zero_add, pu_m31I, pu_m31, pu_shlI, eq_self, Bool.false_eq_true, Bool.true_eq_false, hs'.1]
    rw [← i3]
    exact Wp.some ⟨rfl, i1, i2, i4⟩
/-- what the reference's questions leave -/
def eqS (w w' : am_S) : Prop := (∀ q, q ∉ [281, 284, 286, 287, 288] → w'.1 q = w.1 q) ∧ (∀ q, q ≠ 271 → w'.2.1 q = w.2.1 q) ∧ w'.2.2 = w.2.2
theorem r_run (h : rZ fd z w) (hn : n < 4) (hf : 0 < (fd 0 0)) (hW : scW sl sk) (hs : scR n sl sk sn w) (hno : f_X12_isScript (nI n) w = some (nI 1, w)) {t : Nat} (ht : t < 2) : Wp (f_X12_run (nI n) (nI t) w) (fun q => q.1 = gV fd sk sn sl z.1 t ∧ rZ fd z q.2 ∧ eqS w q.2) := by
  have hF := h.2.1.1
  have h10 := hF.1
  have h16 := hW.1
  have e1 := r_isField (w := w) h.2.1.2.2.1.1 h10
  rw [decide_eq_true hf] at e1
  have e2 := r_in (w := w) (a := t) (b := 0) (c := 1) (by omega) (by omega) (by omega)
  rw [decide_eq_true (show 0 ≤ t ∧ t ≤ 1 by omega)] at e2
  obtain ⟨w1, t1, t2, t3⟩ := r_putAside w
  have hQ1 : rQ fd z.1 0 w1 := h.2.1.ex t3 (by decide)
  obtain ⟨⟨v, w2⟩, u1, u2, u3, u4, u5⟩ := r_goSteps0 hQ1 hn hW (hs.fr (t3.r (by decide)) (t3.r (by decide)))
  have u2 : v = nI (gR fd sk sn sl 0 z.1).1 := u2
  subst u2
  have u3 : rQ fd (gR fd sk sn sl 0 z.1).2 0 w2 := u3
  have u4 : eqG w1 w2 := u4
  have hkm := r_knownMany u3
  obtain ⟨w3, y1, y2, y3⟩ := r_bb w2
  have e286 : ∀ k, k < 31 → w2.1 286 k = w.1 281 k := fun k hk => by rw [u4.1.1 286 (by decide)]; exact t2 k hk
  have hlo : ∀ k, k < 31 → w3.1 281 k = w.1 281 k := fun k hk => by rw [y2, if_pos hk]; exact e286 k hk
  have hhi : ∀ k, 31 ≤ k → w3.1 281 k = w2.1 281 k := fun k hk => by rw [y2, if_neg (by omega)]
  have h64 : ∀ k, 64 ≤ k → w3.1 281 k = w.1 281 k := fun k hk => by rw [hhi k (by omega), u4.2 k hk, t3.r (by decide)]
  have hrS : rS z.1 (w3.1 281) := by
    obtain ⟨g1, g2, g3, g4, g5, g6⟩ := h.2.1.2.2.2.1
    obtain ⟨-, -, -, -, q5, q6⟩ := u3.2.2.2.1
    have f10 := h.2.1.2.1.2.2.2.2
    refine ⟨fun u hu => ?_, fun u hu => ?_, fun u hu => ?_, ?_, fun j hj => ?_, fun j i hj hi => ?_⟩
    · rw [hlo _ (by omega)]; exact g1 u hu
    · rw [hlo _ (by omega)]; exact g2 u hu
    · rw [hlo _ (by omega)]; exact g3 u hu
    · rw [hlo _ (by omega)]; exact g4
    · rw [hhi _ (by omega), q5 j hj, (u5 j).1]
    · rw [hhi _ (by omega), q6 j i hj (by rw [(u5 j).1]; exact hi), (u5 _).2]
  have hJ3 : rJ z.2.2.1 z.2.2.2.1 (w3.1 281) := h.2.2.2.hi (fun k hk _ => h64 k hk)
  have i0 : ∀ q, q ∉ [281, 284, 286] → w3.1 q = w.1 q := fun q hq => by
    simp only [List.mem_cons, List.not_mem_nil, or_false] at hq
    rw [y3.2 q (by simp only [List.mem_cons, List.not_mem_nil, or_false]; omega), u4.1.1 q (by simp only [List.mem_cons, List.not_mem_nil, or_false]; omega), t3.2 q (by simp only [List.mem_cons, List.not_mem_nil, or_false]; omega)]
  have l0 : w3.2.1 = w2.2.1 := y3.l
  have hQ3 : rQ fd z.1 0 w3 := h.2.1.mk3 h.2.1.2.1 hrS (by rw [i0 _ (by decide)]) (i0 _ (by decide)) (i0 _ (by decide)) (i0 _ (by decide)) (by rw [y3.f, u4.1.2.2, t3.f]) (by rw [l0, u3.2.2.2.2.1, h.2.1.2.2.2.2.1])
  have hz : rZ fd z w3 := ⟨h.1, hQ3, h.2.2.1.fr (by rw [i0 _ (by decide)]) (i0 _ (by decide)), hJ3⟩
  have hx : eqS w w3 := ⟨fun q hq => i0 q (by simp only [List.mem_cons, List.not_mem_nil, or_false] at hq ⊢; omega), fun q hq => by rw [l0, u4.1.2.1 q (by simpa using hq), t3.l], by rw [y3.f, u4.1.2.2, t3.f]⟩
  have hs3 : w3.1 280 n = nI sl := by rw [i0 _ (by decide)]; exact hs.1
  have hle : (gR fd sk sn sl 0 z.1).1 ≤ 0 + sl := gR_le
  unfold f_X12_run f_X12_run_74 gV
  have ht' : t = 0 ∨ t = 1 := by omega
  rcases ht' with rfl | rfl
  · rw [if_neg (by omega)]
    by_cases c : (gR fd sk sn sl 0 z.1).1 = sl
    · rw [if_pos c]
      rw [c] at u1
      simp (disch := omega) only [pv_v, pv_b2, pv_b1, pv_x, pv_lit, pv_ofN, pu_chk, pu_cl, nI_add, pk_mul, nI_leI, nI_ltI, nI_eq, pu_nar0, pu_nar1, pu_narb, bI_0, bI_1, ↓reduceIte, pu_leT, pu_leF, pu_ltT, pu_ltF, pu_eqT, pu_eqF, pu_x1, pu_x2, pu_x3, pu_x4, pu_x5, pu_x6, pu_x7, pu_x8, Nat.zero_add, pu_m31I, pu_m31, pu_shlI, eq_self, Bool.false_eq_true, Bool.true_eq_false, hno, e1, e2, t1, u1, hkm, y1, hs3]
      exact Wp.some ⟨rfl, hz, hx⟩
    · rw [if_neg c]
      simp (disch := omega) only [pv_v, pv_b2, pv_b1, pv_x, pv_lit, pv_ofN, pu_chk, pu_cl, nI_add, pk_mul, nI_leI, nI_ltI, nI_eq, pu_nar0, pu_nar1, pu_narb, bI_0, bI_1, ↓reduceIte, pu_leT, pu_leF, pu_ltT, pu_ltF, pu_eqT, pu_eqF, pu_x1, pu_x2, pu_x3, pu_x4, pu_x5, pu_x6, pu_x7, pu_x8, Nat.zero_add, pu_m31I, pu_m31, pu_shlI, eq_self, Bool.false_eq_true, Bool.true_eq_false, hno, e1, e2, t1, u1, hkm, y1, hs3, c]
      exact Wp.some ⟨rfl, hz, hx⟩
  · rw [if_pos rfl]
    simp (disch := omega) only [pv_v, pv_b2, pv_b1, pv_x, pv_lit, pv_ofN, pu_chk, pu_cl, nI_add, pk_mul, nI_leI, nI_ltI, nI_eq, pu_nar0, pu_nar1, pu_narb, bI_0, bI_1, ↓reduceIte, pu_leT, pu_leF, pu_ltT, pu_ltF, pu_eqT, pu_eqF, pu_x1, pu_x2, pu_x3, pu_x4, pu_x5, pu_x6, pu_x7, pu_x8, Nat.zero_add, pu_m31I, pu_m31, pu_shlI, eq_self, Bool.false_eq_true, Bool.true_eq_false, hno, e1, e2, t1, u1, hkm, y1]
    exact Wp.some ⟨rfl, hz, hx⟩
end RUN
