/-! pure part: the reference STEPS on; windows that slide (wip/whole/pure/13.e.peel.src) -/
/-- the first SLOT from a on, ahead of b, with a CLEAR COPY, and its lowest USER -/
def isS (f : Nat → Nat) (a b s u : Nat) : Prop := a ≤ s ∧ s < b ∧ f s ≠ 0 ∧ (∀ j, a ≤ j → j < s → f j = 0) ∧ isL (f s) u
/-- a USER known otherwise -/
def upw (st : Nat → Nat → Nat) (u v : Nat) : Nat → Nat → Nat := fun a b => if a = 0 ∧ b = u then v else st a b
theorem loop_r {σ β : Type} {B : σ → Option (β ⊕ σ)} {n : Nat} {s s' : σ} (h : B s = some (.inr s')) : am_loop B (n + 1) s = am_loop B n s' := by
  show (match B s with | none => none | some (.inl b) => some b | some (.inr s') => am_loop B n s') = _
  rw [h]
theorem Wp.and {α : Type} {x : Option α} {P Q : α → Prop} (h : Wp x P) (h2 : Wp x Q) : Wp x (fun a => P a ∧ Q a) := by
  obtain ⟨a, e, p⟩ := h
  obtain ⟨b, e2, q⟩ := h2
  rw [e] at e2
  obtain rfl := Option.some.inj e2
  exact ⟨a, e, p, q⟩
theorem r_bringBack1 (w : am_S) : Wp (f_X12_bringBack w) (fun w' => eqx [281] w w') := by
  unfold f_X12_bringBack f_X12_bringBack_2
  refine Wp.for (fun i w => (nI i, w)) (fun i w' => eqx [281] w w') 31 (by decide) rfl eqx.rf (fun i w' hi hI => ?_) (fun w' hI => ?_)
  · unfold f_X12_bringBack_2b
    simp (disch := omega) only [pv_v, pv_b2, pv_b1, pv_x, pv_lit, pv_ofN, pu_chk, pu_cl, nI_add, pk_mul, nI_leI, nI_ltI, nI_eq, pu_nar0, pu_nar1, pu_narb, bI_0, bI_1, ↓reduceIte, pu_leT, pu_leF, pu_ltT, pu_ltF, pu_eqT, pu_eqF, pu_x1, pu_x2, pu_x3, pu_x4, pu_x5, pu_x6, pu_x7, pu_x8, Nat.zero_add, pu_m31I, pu_m31, pu_shlI, eq_self, Bool.false_eq_true, Bool.true_eq_false]
    exact Wp.some ⟨_, rfl, hI.on (eqx.pi (by simp))⟩
  · unfold f_X12_bringBack_2b
    simp (disch := omega) only [pv_v, pv_b2, pv_b1, pv_x, pv_lit, pv_ofN, pu_chk, pu_cl, nI_add, pk_mul, nI_leI, nI_ltI, nI_eq, pu_nar0, pu_nar1, pu_narb, bI_0, bI_1, ↓reduceIte, pu_leT, pu_leF, pu_ltT, pu_ltF, pu_eqT, pu_eqF, pu_x1, pu_x2, pu_x3, pu_x4, pu_x5, pu_x6, pu_x7, pu_x8, Nat.zero_add, pu_m31I, pu_m31, pu_shlI, eq_self, Bool.false_eq_true, Bool.true_eq_false]
    exact Wp.some hI
section PEELR
variable {fd st : Nat → Nat → Nat} {jm : Nat} {w w0 : am_S}
theorem upw_same {u v : Nat} : upw st u v 0 u = v := by simp [upw]
theorem upw_ne {u v a b : Nat} (h : b ≠ u) : upw st u v a b = st a b := by simp [upw, h]
theorem upw_a {u v a b : Nat} (h : a ≠ 0) : upw st u v a b = st a b := by simp [upw, h]
theorem upw_o {u v s : Nat} : pu_o fd (upw st u v) s = pu_o fd st s := rfl
theorem upw_c {u v : Nat} : upw st u v 2 0 = (st 2 0) := rfl
theorem upw_w (hS : wS fd st) {u v : Nat} (hu : u < (fd 0 0)) (hv : v ≤ 3) : wS fd (upw st u v) := by
  refine ⟨hS.1, fun x => ?_, fun x hx => ⟨?_, (hS.2.2.1 x hx).2⟩, hS.2.2.2.1, hS.2.2.2.2⟩
  · by_cases e : x = u
    · subst e; rw [upw_same]; exact hv
    · rw [upw_ne e]; exact hS.2.1 x
  · rw [upw_ne (by omega)]; exact (hS.2.2.1 x hx).1
theorem upw_u {u v : Nat} (hv : v ≠ 0) : pu_u fd (upw st u v) = pu_sd (pu_u fd st) (2 ^ u) := by
  apply Nat.eq_of_testBit_eq
  intro i
  unfold pu_u
  rw [pu_sd_bit, pu_S_bit, pu_S_bit, pu_p_bit]
  by_cases e : i = u
  · subst e
    rw [upw_same, bq_f hv, decide_eq_true rfl]; simp
  · rw [upw_ne e, decide_eq_false (show ¬ u = i from fun q => e q.symm)]; simp
theorem rQ.way (h : rQ fd st jm w) {u v : Nat} (hu : u < (fd 0 0)) (hv : v ≤ 3) : rQ fd (upw st u v) jm (am_pi w 281 u (nI v)) := by
  have h10 := h.1.1
  obtain ⟨a1, a2, a3, ⟨g1, g2, g3, g4, g5, g6⟩, a5, a6⟩ := h
  refine ⟨a1, upw_w a2 hu hv, a3, ⟨fun x hx => ?_, fun x hx => ?_, fun x hx => ?_, ?_, fun j hj => ?_, fun j i hj hi => ?_⟩, a5, a6⟩
  · by_cases e : x = u
    · subst e; rw [pi_same, upw_same]
    · rw [pi_k e, upw_ne e]; exact g1 x hx
  · rw [pi_k (by omega)]; exact g2 x hx
  · rw [pi_k (by omega)]; exact g3 x hx
  · rw [pi_k (by omega)]; exact g4
  · rw [pi_k (by omega)]; exact g5 j hj
  · rw [pi_k (by omega)]; exact g6 j i hj hi
theorem r_firstClear (h : rQ fd st jm w) {a b : Nat} (hab : a ≤ b) (hb : b ≤ 48) : (∃ s, a ≤ s ∧ s < b ∧ pu_K fd st jm s ≠ 0 ∧ (∀ j, a ≤ j → j < s → pu_K fd st jm j = 0) ∧ f_X12_firstClear (nI a) (nI b) w = some (nI s, w)) ∨ ((∀ j, a ≤ j → j < b → pu_K fd st jm j = 0) ∧ f_X12_firstClear (nI a) (nI b) w = some (-nI 1, w)) := by
  have h10 := h.1.1
  have hw : Wp (f_X12_firstClear (nI a) (nI b) w) (fun p => (∃ s, a ≤ s ∧ s < b ∧ pu_K fd st jm s ≠ 0 ∧ (∀ j, a ≤ j → j < s → pu_K fd st jm j = 0) ∧ p = (nI s, w)) ∨ ((∀ j, a ≤ j → j < b → pu_K fd st jm j = 0) ∧ p = (-nI 1, w))) := by
    unfold f_X12_firstClear f_X12_firstClear_2
    refine Wp.lp (fun i s => s = (nI (a + i), w) ∧ ∀ j, a ≤ j → j < a + i → pu_K fd st jm j = 0) (b - a) (by omega) ⟨rfl, fun j h1 h2 => by omega⟩ ?_
    rintro i _ hi ⟨rfl, hj⟩
    have hk := pu_k10 (pu_K_lt (fd := fd) (st := st) (jm := jm) (s := a + i)) h10
    unfold f_X12_firstClear_2b
    by_cases e : i = b - a
    · subst e
      simp (disch := omega) only [pv_v, pv_b2, pv_b1, pv_x, pv_lit, pv_ofN, pu_chk, pu_cl, nI_add, pk_mul, nI_leI, nI_ltI, nI_eq, pu_nar0, pu_nar1, pu_narb, bI_0, bI_1, ↓reduceIte, pu_leT, pu_leF, pu_ltT, pu_ltF, pu_eqT, pu_eqF, pu_x1, pu_x2, pu_x3, pu_x4, pu_x5, pu_x6, pu_x7, pu_x8, Nat.zero_add, pu_m31I, pu_m31, pu_shlI, eq_self, Bool.false_eq_true, Bool.true_eq_false]
      exact Wp.some (.inr ⟨fun j h1 h2 => hj j h1 (by omega), rfl⟩)
    · by_cases e2 : pu_K fd st jm (a + i) = 0
      · simp (disch := omega) only [pv_v, pv_b2, pv_b1, pv_x, pv_lit, pv_ofN, pu_chk, pu_cl, nI_add, pk_mul, nI_leI, nI_ltI, nI_eq, pu_nar0, pu_nar1, pu_narb, bI_0, bI_1, ↓reduceIte, pu_leT, pu_leF, pu_ltT, pu_ltF, pu_eqT, pu_eqF, pu_x1, pu_x2, pu_x3, pu_x4, pu_x5, pu_x6, pu_x7, pu_x8, Nat.zero_add, pu_m31I, pu_m31, pu_shlI, eq_self, Bool.false_eq_true, Bool.true_eq_false, r_clearIn h (s := a + i) (by omega), e2]
        refine Wp.some ⟨.mk (by omega), rfl, fun j h1 h2 => ?_⟩
        by_cases q : j = a + i
        · rw [q]; exact e2
        · exact hj j h1 (by omega)
      · simp (disch := omega) only [pv_v, pv_b2, pv_b1, pv_x, pv_lit, pv_ofN, pu_chk, pu_cl, nI_add, pk_mul, nI_leI, nI_ltI, nI_eq, pu_nar0, pu_nar1, pu_narb, bI_0, bI_1, ↓reduceIte, pu_leT, pu_leF, pu_ltT, pu_ltF, pu_eqT, pu_eqF, pu_x1, pu_x2, pu_x3, pu_x4, pu_x5, pu_x6, pu_x7, pu_x8, Nat.zero_add, pu_m31I, pu_m31, pu_shlI, eq_self, Bool.false_eq_true, Bool.true_eq_false, r_clearIn h (s := a + i) (by omega), e2]
        exact Wp.some (.inl ⟨a + i, by omega, by omega, e2, hj, rfl⟩)
  obtain ⟨p, e, (⟨s, h1, h2, h3, h4, rfl⟩ | ⟨h1, rfl⟩)⟩ := hw
  · exact .inl ⟨s, h1, h2, h3, h4, e⟩
  · exact .inr ⟨h1, e⟩
theorem r_lowestOf {m : Nat} (hm : m < 1024) (h0 : m ≠ 0) : ∃ u, isL m u ∧ f_X12_lowestOf (nI m) w = some (nI u, w) := by
  obtain ⟨u, h1, h2, h3, h4⟩ := tz_all m hm h0
  refine ⟨u, ⟨h3, h4⟩, ?_⟩
  unfold f_X12_lowestOf f_X12_lowestOf_2
  refine pu_tr (fun i => (nI i, w)) u rfl (by omega) (fun i hi => ?_) ?_
  · unfold f_X12_lowestOf_2b
    simp (disch := omega) only [pv_v, pv_b2, pv_b1, pv_x, pv_lit, pv_ofN, pu_chk, pu_cl, nI_add, pk_mul, nI_leI, nI_ltI, nI_eq, pu_nar0, pu_nar1, pu_narb, bI_0, bI_1, ↓reduceIte, pu_leT, pu_leF, pu_ltT, pu_ltF, pu_eqT, pu_eqF, pu_x1, pu_x2, pu_x3, pu_x4, pu_x5, pu_x6, pu_x7, pu_x8, Nat.zero_add, pu_m31I, pu_m31, pu_shlI, eq_self, Bool.false_eq_true, Bool.true_eq_false, r_has, h4 i hi]
  · unfold f_X12_lowestOf_2b
    simp (disch := omega) only [pv_v, pv_b2, pv_b1, pv_x, pv_lit, pv_ofN, pu_chk, pu_cl, nI_add, pk_mul, nI_leI, nI_ltI, nI_eq, pu_nar0, pu_nar1, pu_narb, bI_0, bI_1, ↓reduceIte, pu_leT, pu_leF, pu_ltT, pu_ltF, pu_eqT, pu_eqF, pu_x1, pu_x2, pu_x3, pu_x4, pu_x5, pu_x6, pu_x7, pu_x8, Nat.zero_add, pu_m31I, pu_m31, pu_shlI, eq_self, Bool.false_eq_true, Bool.true_eq_false, r_has, h3]
/-- how it is known by a SLOT -/
def pu_wy (fd st : Nat → Nat → Nat) (s u : Nat) : Nat := if pu_o fd st s &&& pu_u fd st = 2 ^ u then 1 else 2
theorem pu_wy_le {s u : Nat} : 1 ≤ pu_wy fd st s u ∧ pu_wy fd st s u ≤ 2 := by
  unfold pu_wy
  split <;> omega
theorem r_peelNow (h : rQ fd st jm w) {a b : Nat} (hab : a ≤ b) (hb : b ≤ 48) : (∃ s u, isS (pu_K fd st jm) a b s u ∧ u < (fd 0 0) ∧ f_X12_peelNow (nI a) (nI b) w = some (nI u, am_pi w 281 u (nI (pu_wy fd st s u)))) ∨ ((∀ j, a ≤ j → j < b → pu_K fd st jm j = 0) ∧ f_X12_peelNow (nI a) (nI b) w = some (-nI 1, w)) := by
  have h10 := h.1.1
  rcases r_firstClear h hab hb with ⟨s, h1, h2, h3, h4, h5⟩ | ⟨h1, h5⟩
  · left
    have hk := pu_k10 (pu_K_lt (fd := fd) (st := st) (jm := jm) (s := s)) h10
    obtain ⟨u, hu, hlo⟩ := r_lowestOf (w := w) hk h3
    have hun := bit_n (pu_K_lt (fd := fd) (st := st) (jm := jm) (s := s)) hu.1
    refine ⟨s, u, ⟨h1, h2, h3, h4, hu⟩, hun, ?_⟩
    unfold f_X12_peelNow
    simp (disch := omega) only [pv_v, pv_b2, pv_b1, pv_x, pv_lit, pv_ofN, pu_chk, pu_cl, nI_add, pk_mul, nI_leI, nI_ltI, nI_eq, pu_nar0, pu_nar1, pu_narb, bI_0, bI_1, ↓reduceIte, pu_leT, pu_leF, pu_ltT, pu_ltF, pu_eqT, pu_eqF, pu_x1, pu_x2, pu_x3, pu_x4, pu_x5, pu_x6, pu_x7, pu_x8, Nat.zero_add, pu_m31I, pu_m31, pu_shlI, eq_self, Bool.false_eq_true, Bool.true_eq_false, h5, r_clearIn h (s := s) (by omega), hlo, r_wayIn h (u := u) (s := s) hun (by omega)]
    rfl
  · right
    refine ⟨h1, ?_⟩
    unfold f_X12_peelNow
    simp (disch := omega) only [pv_v, pv_b2, pv_b1, pv_x, pv_lit, pv_ofN, pu_chk, pu_cl, nI_add, pk_mul, nI_leI, nI_ltI, nI_eq, pu_nar0, pu_nar1, pu_narb, bI_0, bI_1, ↓reduceIte, pu_leT, pu_leF, pu_ltT, pu_ltF, pu_eqT, pu_eqF, pu_x1, pu_x2, pu_x3, pu_x4, pu_x5, pu_x6, pu_x7, pu_x8, Nat.zero_add, pu_m31I, pu_m31, pu_shlI, eq_self, Bool.false_eq_true, Bool.true_eq_false, h5]
theorem pu_K_0 {s : Nat} : pu_K fd st 0 s = pu_k fd (st 2 0) (pu_o fd st s &&& pu_u fd st) := by
  unfold pu_K
  rw [Nat.zero_testBit]; rfl
/-- the row of places: where U0 was UNKNOWN, UU is now, in place p -/
def isW (f : Nat → Nat) (n U0 UU p : Nat) (g : Nat → Int32) : Prop := ∀ v, v < n → (U0.testBit v = false → g v = -nI 2) ∧ (UU.testBit v = true → g v = -nI 1) ∧ (U0.testBit v = true → UU.testBit v = false → ∃ q, q ≤ p ∧ g v = nI q ∧ (f q).testBit v = true ∧ (q < p → (f (q + 1)).testBit v = false))
theorem r_slide77 {v p : Nat} {st0 : Nat → Nat → Nat} (hF : wF fd) (hv : 1 ≤ v) (hp : p + v ≤ (fd 0 2)) (hst0 : rQ fd st0 0 w0) : ∀ (k : Nat) (st : Nat → Nat → Nat) (w : am_S), cn (pu_u fd st) ≤ k → rQ fd st 0 w → (∀ s, pu_o fd st s = pu_o fd st0 s) → (st 2 0) = st0 2 0 → rB w0 w → isP (pu_k fd (st0 2 0)) (pu_o fd st0) (pu_sel (p * (fd 0 1)) ((p + v) * (fd 0 1)) 0) ((fd 0 1) * (fd 0 2)) (pu_wd (pu_k fd (st0 2 0)) (pu_o fd st0) ((fd 0 1) * (fd 0 2)) (fd 0 1) v (pu_u fd st0) p) (pu_u fd st) → isW (pu_wd (pu_k fd (st0 2 0)) (pu_o fd st0) ((fd 0 1) * (fd 0 2)) (fd 0 1) v (pu_u fd st0)) (fd 0 0) (pu_u fd st0) (pu_u fd st) p (w.1 288) → ∀ d, k < d → Wp (am_b2 (f_X12_peelNow (nI ((fd 0 1) * p)) (nI ((fd 0 1) * (p + v))) w) fun r w => am_loop (fun st => f_X12_slide_77b (nI v) (nI p) st.1 st.2) d (r, w)) (Sum.elim (fun _ => False) (fun s => ∃ w' st', s = (nI (p + 1), w') ∧ rQ fd st' 0 w' ∧ (∀ s, pu_o fd st' s = pu_o fd st0 s) ∧ st' 2 0 = st0 2 0 ∧ rB w0 w' ∧ pu_u fd st' = pu_wd (pu_k fd (st0 2 0)) (pu_o fd st0) ((fd 0 1) * (fd 0 2)) (fd 0 1) v (pu_u fd st0) (p + 1) ∧ isW (pu_wd (pu_k fd (st0 2 0)) (pu_o fd st0) ((fd 0 1) * (fd 0 2)) (fd 0 1) v (pu_u fd st0)) (fd 0 0) (pu_u fd st0) (pu_u fd st') p (w'.1 288))) := by
  have h10 := hF.1
  have hT := pu_T48 hF
  have h4 := hF.2.2.1
  have hK := pu_k_M hF hst0.2.1.1
  have hU0 := pu_u_lt (fd := fd) (st := st0)
  have hle : p * (fd 0 1) ≤ (p + v) * (fd 0 1) := Nat.mul_le_mul_right _ (by omega)
  have hle2 : (p + v) * (fd 0 1) ≤ (fd 0 1) * (fd 0 2) := by rw [Nat.mul_comm (fd 0 1)]; exact Nat.mul_le_mul_right _ hp
  have hwd := pu_wd_lt (occ := pu_o fd st0) (T := (fd 0 1) * (fd 0 2)) (S := (fd 0 1)) (v := v) hK hU0 p
  have hwd10 := pu_k10 hwd h10
  intro k
  induction k with
  | zero =>
    intro st w hcn hq ho hc hb hP hW d hd
    obtain ⟨d, rfl⟩ : ∃ e, d = e + 1 := ⟨d - 1, by omega⟩
    have hz : pu_u fd st = 0 := cn_0 (pu_k10 pu_u_lt h10) (by omega)
    rcases r_peelNow hq hle (show (p + v) * (fd 0 1) ≤ 48 by omega) with ⟨s, u, hs, hu, -⟩ | ⟨hj, he⟩
    · exfalso
      have := hs.2.2.1
      rw [pu_K_0, hz, Nat.and_zero] at this
      exact this (pu_k_0 rfl)
    · rw [Nat.mul_comm p, Nat.mul_comm (p + v)] at he
      rw [he, pu_b2]
      unfold am_loop f_X12_slide_77b
      simp (disch := omega) only [pv_v, pv_b2, pv_b1, pv_x, pv_lit, pv_ofN, pu_chk, pu_cl, nI_add, pk_mul, nI_leI, nI_ltI, nI_eq, pu_nar0, pu_nar1, pu_narb, bI_0, bI_1, ↓reduceIte, pu_leT, pu_leF, pu_ltT, pu_ltF, pu_eqT, pu_eqF, pu_x1, pu_x2, pu_x3, pu_x4, pu_x5, pu_x6, pu_x7, pu_x8, Nat.zero_add, pu_m31I, pu_m31, pu_shlI, eq_self, Bool.false_eq_true, Bool.true_eq_false]
      refine Wp.some ⟨w, st, rfl, hq, ho, hc, hb, ?_, hW⟩
      refine sRR_uq hK hwd10 ⟨hP, sA_zero.mpr (fun s h1 h2 => ?_)⟩
      rw [hz, Nat.and_zero]
      exact pu_k_0 rfl
  | succ k ih =>
    intro st w hcn hq ho hc hb hP hW d hd
    obtain ⟨d, rfl⟩ : ∃ e, d = e + 1 := ⟨d - 1, by omega⟩
    rcases r_peelNow hq hle (show (p + v) * (fd 0 1) ≤ 48 by omega) with ⟨s, u, hs, hu, he⟩ | ⟨hj, he⟩
    · obtain ⟨s1, s2, s3, s4, s5⟩ := hs
      have hwy := pu_wy_le (fd := fd) (st := st) (s := s) (u := u)
      have hku : (pu_k fd (st0 2 0) (pu_o fd st0 s &&& pu_u fd st)).testBit u = true := by
        have := s5.1
        rw [pu_K_0, hc, ho] at this
        exact this
      have huU : (pu_u fd st).testBit u = true := sb_ar u (hK.1 _ u hku)
      have hq1 := hq.way (u := u) (v := pu_wy fd st s u) hu (by omega)
      have hx1 : eqx [281] w (am_pi w 281 u (nI (pu_wy fd st s u))) := eqx.pi (by simp)
      have hx2 : eqx [288] (am_pi w 281 u (nI (pu_wy fd st s u))) (am_pi (am_pi w 281 u (nI (pu_wy fd st s u))) 288 u (nI p)) := eqx.pi (by simp)
      have hq2 := hq1.ex hx2 (by decide)
      have hb2 : rB w0 (am_pi (am_pi w 281 u (nI (pu_wy fd st s u))) 288 u (nI p)) := hb.go (fun k hk => by rw [pi_p (by decide), pi_k (by omega)]) ((hx1.up (by decide)).on (hx2.up (by decide)))
      have hu2 := upw_u (fd := fd) (st := st) (u := u) (v := pu_wy fd st s u) (by omega)
      have hcn2 : cn (pu_u fd (upw st u (pu_wy fd st s u))) ≤ k := by
        have := cn_sd (sb_p huU)
        rw [cn_p (by omega)] at this
        rw [hu2]
        omega
      have hsel : pu_sel (p * (fd 0 1)) ((p + v) * (fd 0 1)) 0 s = true := by
        unfold pu_sel
        rw [decide_eq_true s1, decide_eq_true s2, Nat.zero_testBit]; rfl
      have hP2 : isP (pu_k fd (st0 2 0)) (pu_o fd st0) (pu_sel (p * (fd 0 1)) ((p + v) * (fd 0 1)) 0) ((fd 0 1) * (fd 0 2)) (pu_wd (pu_k fd (st0 2 0)) (pu_o fd st0) ((fd 0 1) * (fd 0 2)) (fd 0 1) v (pu_u fd st0) p) (pu_u fd (upw st u (pu_wy fd st s u))) := by
        rw [hu2]
        exact hP.st hK (fun i hi => by
          rw [pu_p_bit, decide_eq_true_iff] at hi
          subst hi
          exact sA_bit.mpr ⟨s, by omega, hsel, hku⟩)
      have hW2 : isW (pu_wd (pu_k fd (st0 2 0)) (pu_o fd st0) ((fd 0 1) * (fd 0 2)) (fd 0 1) v (pu_u fd st0)) (fd 0 0) (pu_u fd st0) (pu_u fd (upw st u (pu_wy fd st s u))) p ((am_pi (am_pi w 281 u (nI (pu_wy fd st s u))) 288 u (nI p)).1 288) := by
        intro x hx
        obtain ⟨b1, b2, b3⟩ := hW x hx
        rw [pi_ite, pi_p (by decide), hu2]
        have huw : (pu_wd (pu_k fd (st0 2 0)) (pu_o fd st0) ((fd 0 1) * (fd 0 2)) (fd 0 1) v (pu_u fd st0) p).testBit u = true := hP.1 u huU
        have hmono : ∀ q, sb (pu_wd (pu_k fd (st0 2 0)) (pu_o fd st0) ((fd 0 1) * (fd 0 2)) (fd 0 1) v (pu_u fd st0) q) (pu_u fd st0) := by
          intro q
          induction q with
          | zero => exact sb.rf
          | succ q ihq => exact (sRR_sb hK).tr ihq
        by_cases e : x = u
        · subst e
          rw [if_pos rfl]
          refine ⟨fun h => ?_, fun h => ?_, fun _ _ => ⟨p, Nat.le_refl _, rfl, huw, fun q => absurd q (by omega)⟩⟩
          · rw [hmono p x huw] at h; cases h
          · rw [pu_sd_bit, pu_p_bit, decide_eq_true rfl, Bool.not_true, Bool.and_false] at h; cases h
        · rw [if_neg e]
          refine ⟨b1, fun h => b2 (sb_sd x h), fun h1 h2 => b3 h1 ?_⟩
          rw [pu_sd_bit, pu_p_bit, decide_eq_false (fun q => e q.symm), Bool.not_false, Bool.and_true] at h2
          exact h2
      have hrec := ih (upw st u (pu_wy fd st s u)) _ hcn2 hq2 (fun s => by rw [upw_o]; exact ho s) (by rw [upw_c]; exact hc) hb2 hP2 hW2 d (by omega)
      rw [Nat.mul_comm p, Nat.mul_comm (p + v)] at he
      rw [he, pu_b2]
      obtain ⟨a, ha1, ha2⟩ := hrec
      obtain ⟨x, y, hxy, hk2⟩ := am_b2_some ha1
      have e2 := hq2.2.2.1.2.1
      have hB : f_X12_slide_77b (nI v) (nI p) (nI u) (am_pi w 281 u (nI (pu_wy fd st s u))) = some (.inr (x, y)) := by
        unfold f_X12_slide_77b
        simp (disch := omega) only [pv_v, pv_b2, pv_b1, pv_x, pv_lit, pv_ofN, pu_chk, pu_cl, nI_add, pk_mul, nI_leI, nI_ltI, nI_eq, pu_nar0, pu_nar1, pu_narb, bI_0, bI_1, ↓reduceIte, pu_leT, pu_leF, pu_ltT, pu_ltF, pu_eqT, pu_eqF, pu_x1, pu_x2, pu_x3, pu_x4, pu_x5, pu_x6, pu_x7, pu_x8, Nat.zero_add, pu_m31I, pu_m31, pu_shlI, eq_self, Bool.false_eq_true, Bool.true_eq_false, e2, hxy]
      exact ⟨a, (loop_r (B := fun st : Int32 × am_S => f_X12_slide_77b (nI v) (nI p) st.1 st.2) hB).trans hk2, ha2⟩
    · rw [Nat.mul_comm p, Nat.mul_comm (p + v)] at he
      rw [he, pu_b2]
      unfold am_loop f_X12_slide_77b
      simp (disch := omega) only [pv_v, pv_b2, pv_b1, pv_x, pv_lit, pv_ofN, pu_chk, pu_cl, nI_add, pk_mul, nI_leI, nI_ltI, nI_eq, pu_nar0, pu_nar1, pu_narb, bI_0, bI_1, ↓reduceIte, pu_leT, pu_leF, pu_ltT, pu_ltF, pu_eqT, pu_eqF, pu_x1, pu_x2, pu_x3, pu_x4, pu_x5, pu_x6, pu_x7, pu_x8, Nat.zero_add, pu_m31I, pu_m31, pu_shlI, eq_self, Bool.false_eq_true, Bool.true_eq_false]
      refine Wp.some ⟨w, st, rfl, hq, ho, hc, hb, ?_, hW⟩
      refine sRR_uq hK hwd10 ⟨hP, sA_zero.mpr (fun s h1 h2 => ?_)⟩
      unfold pu_sel at h2
      simp only [Bool.and_eq_true, decide_eq_true_iff] at h2
      have := hj s h2.1.1 h2.1.2
      rw [pu_K_0, hc, ho] at this
      exact this
theorem r_slide {v : Nat} (h : rQ fd st 0 w) (hn : 0 < (fd 0 0)) (h1 : 1 ≤ v) (hv : v ≤ (fd 0 2)) : Wp (f_X12_slide (nI v) w) (fun p => p.1 = nI (pu_sd (2 ^ (fd 0 0) - 1) (pu_wd (pu_k fd (st 2 0)) (pu_o fd st) ((fd 0 1) * (fd 0 2)) (fd 0 1) v (pu_u fd st) ((fd 0 2) - v + 1))) ∧ (∀ u, u < (fd 0 0) → (st 0 u ≠ 0 → p.2.1 288 u = -nI 2) ∧ (st 0 u = 0 → isO (pu_wd (pu_k fd (st 2 0)) (pu_o fd st) ((fd 0 1) * (fd 0 2)) (fd 0 1) v (pu_u fd st)) u ((fd 0 2) - v + 1) (p.2.1 288 u))) ∧ eqx [284, 286, 288] w p.2) := by
  have hF := h.1
  have h10 := hF.1
  have h4 := hF.2.2.1
  have hK := pu_k_M hF h.2.1.1
  unfold f_X12_slide
  refine Wp.b1 ((r_putAside w).mono ?_)
  rintro w1 ⟨p1, p2⟩
  unfold f_X12_slide_6
  refine Wp.for (fun i w => (nI i, w)) (fun i w' => (∀ u, u < i → w'.1 288 u = if st 0 u = 0 then -nI 1 else -nI 2) ∧ rB w w' ∧ rQ fd st 0 w') (fd 0 0) (by omega) rfl ⟨fun u hu => absurd hu (by omega), rB.of p1 p2, h.ex p2 (by decide)⟩ (fun i w2 hi hI => ?_) (fun w2 hI => ?_)
  · obtain ⟨i1, i2, i3⟩ := hI
    have fin : ∀ x, x = (if st 0 i = 0 then -nI 1 else -nI 2) → (∀ u, u < i + 1 → (am_pi w2 288 i x).1 288 u = if st 0 u = 0 then -nI 1 else -nI 2) ∧ rB w (am_pi w2 288 i x) ∧ rQ fd st 0 (am_pi w2 288 i x) := by
      intro x hx
      refine ⟨fun u hu => ?_, i2.go (fun k _ => by rw [pi_p (by decide)]) (eqx.pi (by simp)), i3.ex (eqx.pi (A := [288]) (by simp)) (by decide)⟩
      rw [pi_ite]
      by_cases e : u = i
      · subst e; rw [if_pos rfl, hx]
      · rw [if_neg e]; exact i1 u (by omega)
    unfold f_X12_slide_6b f_X12_slide_33
    simp (disch := omega) only [pv_v, pv_b2, pv_b1, pv_x, pv_lit, pv_ofN, pu_chk, pu_cl, nI_add, pk_mul, nI_leI, nI_ltI, nI_eq, pu_nar0, pu_nar1, pu_narb, bI_0, bI_1, ↓reduceIte, pu_leT, pu_leF, pu_ltT, pu_ltF, pu_eqT, pu_eqF, pu_x1, pu_x2, pu_x3, pu_x4, pu_x5, pu_x6, pu_x7, pu_x8, Nat.zero_add, pu_m31I, pu_m31, pu_shlI, eq_self, Bool.false_eq_true, Bool.true_eq_false, i3.2.2.1.1, r_isUnknown i3 (u := i) (by omega)]
    by_cases e : st 0 i = 0
    · simp (disch := omega) only [pv_v, pv_b2, pv_b1, pv_x, pv_lit, pv_ofN, pu_chk, pu_cl, nI_add, pk_mul, nI_leI, nI_ltI, nI_eq, pu_nar0, pu_nar1, pu_narb, bI_0, bI_1, ↓reduceIte, pu_leT, pu_leF, pu_ltT, pu_ltF, pu_eqT, pu_eqF, pu_x1, pu_x2, pu_x3, pu_x4, pu_x5, pu_x6, pu_x7, pu_x8, Nat.zero_add, pu_m31I, pu_m31, pu_shlI, eq_self, Bool.false_eq_true, Bool.true_eq_false, bq_t e]
      exact Wp.some ⟨_, rfl, fin _ (by rw [if_pos e])⟩
    · simp (disch := omega) only [pv_v, pv_b2, pv_b1, pv_x, pv_lit, pv_ofN, pu_chk, pu_cl, nI_add, pk_mul, nI_leI, nI_ltI, nI_eq, pu_nar0, pu_nar1, pu_narb, bI_0, bI_1, ↓reduceIte, pu_leT, pu_leF, pu_ltT, pu_ltF, pu_eqT, pu_eqF, pu_x1, pu_x2, pu_x3, pu_x4, pu_x5, pu_x6, pu_x7, pu_x8, Nat.zero_add, pu_m31I, pu_m31, pu_shlI, eq_self, Bool.false_eq_true, Bool.true_eq_false, bq_f e]
      exact Wp.some ⟨_, rfl, fin _ (by rw [if_neg e])⟩
  · obtain ⟨i1, i2, i3⟩ := hI
    unfold f_X12_slide_6b
    simp (disch := omega) only [pv_v, pv_b2, pv_b1, pv_x, pv_lit, pv_ofN, pu_chk, pu_cl, nI_add, pk_mul, nI_leI, nI_ltI, nI_eq, pu_nar0, pu_nar1, pu_narb, bI_0, bI_1, ↓reduceIte, pu_leT, pu_leF, pu_ltT, pu_ltF, pu_eqT, pu_eqF, pu_x1, pu_x2, pu_x3, pu_x4, pu_x5, pu_x6, pu_x7, pu_x8, Nat.zero_add, pu_m31I, pu_m31, pu_shlI, eq_self, Bool.false_eq_true, Bool.true_eq_false, i3.2.2.1.1]
    refine Wp.x ?_
    unfold f_X12_slide_42
    have hbit : ∀ u, u < (fd 0 0) → (pu_u fd st).testBit u = (st 0 u == 0) := fun u hu => by
      unfold pu_u
      rw [pu_S_bit, decide_eq_true hu, Bool.true_and]
    refine Wp.for (fun i w => (nI i, w)) (fun p w' => ∃ st', rQ fd st' 0 w' ∧ (∀ s, pu_o fd st' s = pu_o fd st s) ∧ st' 2 0 = (st 2 0) ∧ rB w w' ∧ pu_u fd st' = pu_wd (pu_k fd (st 2 0)) (pu_o fd st) ((fd 0 1) * (fd 0 2)) (fd 0 1) v (pu_u fd st) p ∧ isW (pu_wd (pu_k fd (st 2 0)) (pu_o fd st) ((fd 0 1) * (fd 0 2)) (fd 0 1) v (pu_u fd st)) (fd 0 0) (pu_u fd st) (pu_u fd st') p (w'.1 288)) ((fd 0 2) - v + 1) (by omega) rfl ⟨st, i3, fun _ => rfl, rfl, i2, rfl, fun x hx => ⟨fun hz => ?_, fun hz => ?_, fun h1 h2 => ?_⟩⟩ (fun p w3 hp hI => ?_) (fun w3 hI => ?_)
    · rw [hbit x hx] at hz
      rw [i1 x hx, if_neg (by simpa using hz)]
    · rw [hbit x hx] at hz
      rw [i1 x hx, if_pos (by simpa using hz)]
    · rw [h1] at h2; cases h2
    · obtain ⟨st', j1, j2, j3, j4, j5, j6⟩ := hI
      have e2 := j1.2.2.1.2.1
      have e3 := j1.2.2.1.2.2.1
      have hs := r_slide77 (fd := fd) (w0 := w) (p := p) hF h1 (by omega) h 10 st' w3 (cn_le _) j1 j2 j3 j4 (by rw [j5]; exact isP.rf) j6 am_fuel (by decide)
      unfold f_X12_slide_42b
      simp (disch := omega) only [pv_v, pv_b2, pv_b1, pv_x, pv_lit, pv_ofN, pu_chk, pu_cl, nI_add, pk_mul, nI_leI, nI_ltI, nI_eq, pu_nar0, pu_nar1, pu_narb, bI_0, bI_1, ↓reduceIte, pu_leT, pu_leF, pu_ltT, pu_ltF, pu_eqT, pu_eqF, pu_x1, pu_x2, pu_x3, pu_x4, pu_x5, pu_x6, pu_x7, pu_x8, Nat.zero_add, pu_m31I, pu_m31, pu_shlI, eq_self, Bool.false_eq_true, Bool.true_eq_false, e2, e3]
      unfold f_X12_slide_77
      refine hs.mono ?_
      rintro (b | s) hq
      · exact absurd hq id
      · obtain ⟨w4, st4, rfl, k1, k2, k3, k4, k5, k6⟩ := hq
        refine ⟨w4, rfl, st4, k1, k2, k3, k4, k5, fun x hx => ?_⟩
        obtain ⟨b1, b2, b3⟩ := k6 x hx
        refine ⟨b1, b2, fun h1 h2 => ?_⟩
        obtain ⟨q, c1, c2, c3, c4⟩ := b3 h1 h2
        refine ⟨q, by omega, c2, c3, fun _ => ?_⟩
        rcases Nat.lt_or_ge q p with z | z
        · exact c4 z
        · have : q = p := by omega
          subst this
          rw [← k5]; exact h2
    · obtain ⟨st', j1, j2, j3, j4, j5, j6⟩ := hI
      have e3 := j1.2.2.1.2.2.1
      have hk := r_knownSet j1
      rw [j5] at hk
      unfold f_X12_slide_42b
      simp (disch := omega) only [pv_v, pv_b2, pv_b1, pv_x, pv_lit, pv_ofN, pu_chk, pu_cl, nI_add, pk_mul, nI_leI, nI_ltI, nI_eq, pu_nar0, pu_nar1, pu_narb, bI_0, bI_1, ↓reduceIte, pu_leT, pu_leF, pu_ltT, pu_ltF, pu_eqT, pu_eqF, pu_x1, pu_x2, pu_x3, pu_x4, pu_x5, pu_x6, pu_x7, pu_x8, Nat.zero_add, pu_m31I, pu_m31, pu_shlI, eq_self, Bool.false_eq_true, Bool.true_eq_false, e3, hk]
      refine Wp.x (Wp.b1 (((r_bringBack j4).and (r_bringBack1 w3)).mono ?_))
      rintro w4 ⟨hx, hx1⟩
      have h288 : w4.1 288 = w3.1 288 := hx1.r (by decide)
      refine Wp.some ⟨rfl, fun u hu => ?_, hx⟩
      obtain ⟨b1, b2, b3⟩ := j6 u hu
      show (_ → w4.1 288 u = _) ∧ (_ → isO _ _ _ (w4.1 288 u))
      rw [h288]
      refine ⟨fun hz => b1 (by rw [hbit u hu]; simpa using hz), fun hz => ?_⟩
      have hub : (pu_u fd st).testBit u = true := by rw [hbit u hu]; simpa using hz
      have hdown : ∀ q d, sb (pu_wd (pu_k fd (st 2 0)) (pu_o fd st) ((fd 0 1) * (fd 0 2)) (fd 0 1) v (pu_u fd st) (q + d)) (pu_wd (pu_k fd (st 2 0)) (pu_o fd st) ((fd 0 1) * (fd 0 2)) (fd 0 1) v (pu_u fd st) q) := by
        intro q d
        induction d with
        | zero => exact sb.rf
        | succ d ihd => exact (sRR_sb hK).tr ihd
      rw [j5] at b2 b3
      cases e : (pu_wd (pu_k fd (st 2 0)) (pu_o fd st) ((fd 0 1) * (fd 0 2)) (fd 0 1) v (pu_u fd st) ((fd 0 2) - v + 1)).testBit u
      · obtain ⟨q, c1, c2, c3, c4⟩ := b3 hub e
        have hq : q < (fd 0 2) - v + 1 := by
          rcases Nat.lt_or_ge q ((fd 0 2) - v + 1) with z | z
          · exact z
          · have : q = (fd 0 2) - v + 1 := by omega
            rw [this, e] at c3; cases c3
        refine .inl ⟨q, hq, c2, c4 hq, fun j hj => ?_⟩
        have := hdown (j + 1) (q - (j + 1))
        rw [show j + 1 + (q - (j + 1)) = q by omega] at this
        exact this u c3
      · refine .inr ⟨b2 e, fun j hj => ?_⟩
        have := hdown (j + 1) ((fd 0 2) - v + 1 - (j + 1))
        rw [show j + 1 + ((fd 0 2) - v + 1 - (j + 1)) = (fd 0 2) - v + 1 by omega] at this
        exact this u e
end PEELR
