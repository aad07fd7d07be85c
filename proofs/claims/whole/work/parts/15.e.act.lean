/-! pure part: ACTS with LOG and history, both sides (wip/whole/pure/15.e.act.src) -/
/-- state, states of before, LOG, its length, how many can be UNDONE -/
abbrev Zt := (Nat → Nat → Nat) × (Nat → Nat → Nat → Nat) × (Nat → Nat → Int32) × Nat × Nat
def wZ (fd : Nat → Nat → Nat) (z : Zt) : Prop := z.2.2.2.2 ≤ 40 ∧ z.2.2.2.2 ≤ z.2.2.2.1 ∧ ∀ d, 1 ≤ d → d ≤ z.2.2.2.2 → wS fd (z.2.1 (z.2.2.2.1 - d))
def cZ (fd : Nat → Nat → Nat) (z : Zt) (w : am_S) : Prop := wZ fd z ∧ cX fd z.1 23 w ∧ cPa z.2.1 z.2.2.2.1 z.2.2.2.2 w ∧ cJ z.2.2.1 z.2.2.2.1 (z.2.2.2.1 - z.2.2.2.2 - 60) 38 w
def rZ (fd : Nat → Nat → Nat) (z : Zt) (w : am_S) : Prop := wZ fd z ∧ rQ fd z.1 0 w ∧ rPa z.2.1 z.2.2.1 z.2.2.2.1 z.2.2.2.2 w ∧ rJ z.2.2.1 z.2.2.2.1 (w.1 281)
/-- who is noted -/
def lu (k : Nat) (a b r : Int32) : Int32 := if k = 0 then r else if k = 1 ∨ k = 5 then -nI 1 else if k = 7 then b else a
def zA (fd : Nat → Nat → Nat) (z : Zt) (k : Nat) (a b : Int32) (x : Int64) : Zt := (aS fd z.1 k (aN a) (aN b) x, ups z.2.1 z.2.2.2.1 z.1, upl z.2.2.1 z.2.2.2.1 (nI k) (lu k a b (nI (aR fd z.1 k (aN a) (aN b) x))) (nI (kc (aS fd z.1 k (aN a) (aN b) x))), z.2.2.2.1 + 1, min (z.2.2.2.2 + 1) 40)
/-- what the class's ACTS leave -/
def eqC (w w' : am_S) : Prop := (∀ q, (q < 23 ∨ (27 < q ∧ q < 38) ∨ (41 < q ∧ q < 46) ∨ q = 248 ∨ q = 249 ∨ 254 < q) → w'.1 q = w.1 q) ∧ (∀ q, (q < 23 ∨ (27 < q ∧ q < 46) ∨ q = 248 ∨ q = 249 ∨ 256 < q) → w'.2.1 q = w.2.1 q) ∧ w'.2.2 = w.2.2
/-- what the reference's ACTS leave -/
def eqR (w w' : am_S) : Prop := (∀ q, q ∉ [271, 281, 284, 285] → w'.1 q = w.1 q) ∧ (∀ k, k ≠ 23 → w'.1 271 k = w.1 271 k) ∧ (∀ q, q ≠ 271 → w'.2.1 q = w.2.1 q) ∧ w'.2.2 = w.2.2
section ACT
variable {fd st : Nat → Nat → Nat} {z : Zt} {w w' w'' : am_S} {p : Nat}
theorem eqC.on (h : eqC w w') (h2 : eqC w' w'') : eqC w w'' := ⟨fun q hq => (h2.1 q hq).trans (h.1 q hq), fun q hq => (h2.2.1 q hq).trans (h.2.1 q hq), h2.2.2.trans h.2.2⟩
theorem eqR.on (h : eqR w w') (h2 : eqR w' w'') : eqR w w'' := ⟨fun q hq => (h2.1 q hq).trans (h.1 q hq), fun k hk => (h2.2.1 k hk).trans (h.2.1 k hk), fun q hq => (h2.2.2.1 q hq).trans (h.2.2.1 q hq), h2.2.2.2.trans h.2.2.2⟩
theorem eqC.rf : eqC w w := ⟨fun _ _ => rfl, fun _ _ => rfl, rfl⟩
theorem eqR.rf : eqR w w := ⟨fun _ _ => rfl, fun _ _ => rfl, fun _ _ => rfl, rfl⟩
theorem eqx.C (h : eqx [250, 253, 254] w w') : eqC w w' := ⟨fun q hq => h.2 q (by simp only [List.mem_cons, List.not_mem_nil, or_false]; omega), fun q _ => by rw [h.l], h.f⟩
theorem cF.fr (h : cF fd w) (h1 : w'.1 11 = w.1 11) (h2 : w'.1 13 = w.1 13) (h3 : w'.1 14 = w.1 14) (h4 : w'.1 15 = w.1 15) (h5 : w'.1 18 = w.1 18) : cF fd w' := by
  unfold cF
  rw [h1, h2, h3, h4, h5]; exact h
theorem cT.fr (h : cT fd w) (h1 : w'.1 250 = w.1 250) (h2 : w'.1 253 = w.1 253) (h3 : w'.2.2 = w.2.2) : cT fd w' := by
  unfold cT
  rw [h1, h2, h3]; exact h
theorem cX.fr {st' : Nat → Nat → Nat} (h : cX fd st p w) (hS : wS fd st') (h1 : w'.1 11 = w.1 11) (h2 : w'.1 13 = w.1 13) (h3 : w'.1 14 = w.1 14) (h4 : w'.1 15 = w.1 15) (h5 : w'.1 18 = w.1 18) (h6 : w'.1 250 = w.1 250) (h7 : w'.1 253 = w.1 253) (h8 : w'.2.2 = w.2.2) (hs : cS st' p w') : cX fd st' p w' := ⟨h.1, hS, h.2.2.1.fr h1 h2 h3 h4 h5, h.2.2.2.1.fr h6 h7 h8, hs⟩
theorem cX.lo (h : cX fd st 23 w) (hq : ∀ q, q < 46 ∨ 247 < q → w'.1 q = w.1 q ∧ w'.2.1 q = w.2.1 q) (hf : w'.2.2 = w.2.2) : cX fd st 23 w' :=
  h.fr h.2.1 (hq _ (by omega)).1 (hq _ (by omega)).1 (hq _ (by omega)).1 (hq _ (by omega)).1 (hq _ (by omega)).1 (hq _ (by omega)).1 (hq _ (by omega)).1 hf (h.2.2.2.2.fr (hq _ (by omega)).1 (hq _ (by omega)).1 (hq _ (by omega)).2 (hq _ (by omega)).1 (hq _ (by omega)).1)
theorem c_loggedUser {k : Nat} (hk : k ≤ 8) {a b r : Int32} : f_X2_loggedUser (nI k) a b r w = some (lu k a b r, w) := by
  have hk' : k = 0 ∨ k = 1 ∨ k = 2 ∨ k = 3 ∨ k = 4 ∨ k = 5 ∨ k = 6 ∨ k = 7 ∨ k = 8 := by omega
  unfold f_X2_loggedUser f_X2_loggedUser_56 lu
  rcases hk' with rfl | rfl | rfl | rfl | rfl | rfl | rfl | rfl | rfl <;> simp (disch := omega) only [pv_v, pv_b2, pv_b1, pv_x, pv_lit, pv_ofN, pu_chk, pu_cl, nI_add, pk_mul, nI_leI, nI_ltI, nI_eq, pu_nar0, pu_nar1, pu_narb, bI_0, bI_1, ↓reduceIte, pu_leT, pu_leF, pu_ltT, pu_ltF, pu_eqT, pu_eqF, pu_x1, pu_x2, pu_x3, pu_x4, pu_x5, pu_x6, pu_x7, pu_x8, Nat.zero_add, pu_m31I, pu_m31, pu_shlI, eq_self, Bool.false_eq_true, Bool.true_eq_false] <;> rfl
theorem aW_lt {k : Nat} {a b : Int32} {r : Nat} (h : aW fd st k a b = some r) : r < 4 := by
  unfold aW at h
  repeat' split at h
  all_goals first | (cases h; decide) | cases h
theorem wZ.act (h : wZ fd z) (hS : wS fd z.1) {k : Nat} {a b : Int32} {x : Int64} : wZ fd (zA fd z k a b x) := by
  obtain ⟨h1, h2, h3⟩ := h
  refine ⟨show min (z.2.2.2.2 + 1) 40 ≤ 40 by omega, show min (z.2.2.2.2 + 1) 40 ≤ z.2.2.2.1 + 1 by omega, fun d d1 d2 => ?_⟩
  have d2 : d ≤ min (z.2.2.2.2 + 1) 40 := d2
  show wS fd (ups z.2.1 z.2.2.2.1 z.1 (z.2.2.2.1 + 1 - d))
  by_cases c : d = 1
  · subst c
    rw [show z.2.2.2.1 + 1 - 1 = z.2.2.2.1 by omega, ups_L]; exact hS
  · rw [ups_ne (by omega), show z.2.2.2.1 + 1 - d = z.2.2.2.1 - (d - 1) by omega]
    exact h3 (d - 1) (by omega) (by omega)
theorem cZ.ask (h : cZ fd z w) (hx : eqx [250, 253, 254] w w') (ht : cT fd w') : cZ fd z w' := ⟨h.1, h.2.1.ex (by omega) hx ht, h.2.2.1.fr (fun q h1 h2 => ⟨hx.2 q (by simp only [List.mem_cons, List.not_mem_nil, or_false]; omega), by rw [hx.l]⟩), h.2.2.2.fr (hx.r (by decide)) (hx.r (by decide)) (hx.r (by decide)) (hx.r (by decide))⟩
theorem c_attempt_s (h : cZ fd z w) {k : Nat} (hk : k ≤ 8) {a b : Int32} {x : Int64} {r : Nat} (ha : aW fd z.1 k a b = some r) : Wp (f_X11_attempt (nI k) a b x w) (fun q => q.1 = -nI 1 - nI r ∧ cZ fd z q.2 ∧ eqC w q.2) := by
  have hr := aW_lt ha
  obtain ⟨⟨v, w1⟩, t1, t2, t3, t4⟩ := c_refusalOf h.2.1 (by omega) (by omega) hk a b
  rw [ha] at t2
  have t2 : v = nI r := t2
  subst t2
  unfold f_X11_attempt
  simp (disch := omega) only [pv_v, pv_b2, pv_b1, pv_x, pv_lit, pv_ofN, pu_chk, pu_cl, nI_add, pk_mul, nI_leI, nI_ltI, nI_eq, pu_nar0, pu_nar1, pu_narb, bI_0, bI_1, ↓reduceIte, pu_leT, pu_leF, pu_ltT, pu_ltF, pu_eqT, pu_eqF, pu_x1, pu_x2, pu_x3, pu_x4, pu_x5, pu_x6, pu_x7, pu_x8, Nat.zero_add, pu_m31I, pu_m31, pu_shlI, eq_self, Bool.false_eq_true, Bool.true_eq_false, t1]
  exact Wp.some ⟨rfl, h.ask t3 t4, t3.C⟩
theorem c_attempt_n (h : cZ fd z w) (hL : z.2.2.2.1 < 2 ^ 30) {k : Nat} (hk : k ≤ 8) {a b : Int32} {x : Int64} (ha : aW fd z.1 k a b = none) : Wp (f_X11_attempt (nI k) a b x w) (fun q => q.1 = nI (aR fd z.1 k (aN a) (aN b) x) ∧ cZ fd (zA fd z k a b x) q.2 ∧ eqC w q.2) := by
  obtain ⟨⟨v, w1⟩, t1, t2, t3, t4⟩ := c_refusalOf h.2.1 (by omega) (by omega) hk a b
  rw [ha] at t2
  have t2 : v = -nI 1 := t2
  subst t2
  obtain ⟨hz, hX, hP, hJ⟩ := h.ask t3 t4
  obtain ⟨w2, s1, s2, s3, s4⟩ := c_keep hX.2.1.2.2.2.2 hX.2.2.2.2 hP hz.1 hz.2.1
  have hX2 := hX.lo s3 s4
  obtain ⟨⟨v3, w3⟩, u1, u2, u3, u4⟩ := c_carryOut hX2 (by omega) (by omega) hk x ha
  have u2 : v3 = nI (aR fd z.1 k (aN a) (aN b) x) := u2
  subst u2
  have u3 : cX fd (aS fd z.1 k (aN a) (aN b) x) 23 w3 := u3
  have u4 : eqy [23, 24, 26, 27, 250, 253, 254] [25, 256] w2 w3 := u4
  have hkc := c_knownCount (p := 23) u3.2.1 u3.2.2.2.2.1
  have hz1 := hz.1
  have hz2 := hz.2.1
  have hJ3 : cJ z.2.2.1 z.2.2.2.1 (z.2.2.2.1 + 1 - min (z.2.2.2.2 + 1) 40 - 60) 38 w3 := (hJ.up (by omega)).fr (by rw [u4.1 _ (by decide), (s3 _ (by omega)).1]) (by rw [u4.1 _ (by decide), (s3 _ (by omega)).1]) (by rw [u4.1 _ (by decide), (s3 _ (by omega)).1]) (by rw [u4.1 _ (by decide), (s3 _ (by omega)).1])
  obtain ⟨w4, y1, y2, y3⟩ := c_note hJ3 hL (by omega) (a := nI k) (b := lu k a b (nI (aR fd z.1 k (aN a) (aN b) x))) (c := nI (kc (aS fd z.1 k (aN a) (aN b) x)))
  unfold f_X11_attempt
  simp (disch := omega) only [pv_v, pv_b2, pv_b1, pv_x, pv_lit, pv_ofN, pu_chk, pu_cl, nI_add, pk_mul, nI_leI, nI_ltI, nI_eq, pu_nar0, pu_nar1, pu_narb, bI_0, bI_1, ↓reduceIte, pu_leT, pu_leF, pu_ltT, pu_ltF, pu_eqT, pu_eqF, pu_x1, pu_x2, pu_x3, pu_x4, pu_x5, pu_x6, pu_x7, pu_x8, Nat.zero_add, pu_m31I, pu_m31, pu_shlI, eq_self, Bool.false_eq_true, Bool.true_eq_false, t1, s1, u1, c_loggedUser, hkc]
  rw [show pu_C (fun u => !(aS fd z.1 k (aN a) (aN b) x 0 u == 0)) 10 = kc (aS fd z.1 k (aN a) (aN b) x) from rfl, y1, pv_b1]
  refine Wp.some ⟨rfl, ⟨hz.act hX.2.1, ?_, ?_, y2⟩, ?_⟩
  · exact u3.fr u3.2.1 (y3.r (by decide)) (y3.r (by decide)) (y3.r (by decide)) (y3.r (by decide)) (y3.r (by decide)) (y3.r (by decide)) (y3.r (by decide)) y3.f (u3.2.2.2.2.fr (y3.r (by decide)) (y3.r (by decide)) (by rw [y3.l]) (y3.r (by decide)) (y3.r (by decide)))
  · exact s2.fr (fun q h1 h2 => ⟨by rw [y3.2 q (by simp only [List.mem_cons, List.not_mem_nil, or_false]; omega), u4.1 q (by simp only [List.mem_cons, List.not_mem_nil, or_false]; omega)], by rw [y3.l, u4.2.1 q (by simp only [List.mem_cons, List.not_mem_nil, or_false]; omega)]⟩)
  · refine (t3.C).on ⟨fun q hq => ?_, fun q hq => ?_, ?_⟩
    · rw [y3.2 q (by simp only [List.mem_cons, List.not_mem_nil, or_false]; omega), u4.1 q (by simp only [List.mem_cons, List.not_mem_nil, or_false]; omega)]; exact (s3 q (by omega)).1
    · rw [y3.l, u4.2.1 q (by simp only [List.mem_cons, List.not_mem_nil, or_false]; omega)]; exact (s3 q (by omega)).2
    · rw [y3.f, u4.2.2]; exact s4
/-- a try -/
def zT (fd : Nat → Nat → Nat) (z : Zt) (k : Nat) (a b : Int32) (x : Int64) : Zt := if (aW fd z.1 k a b).isNone then zA fd z k a b x else z
theorem zT_n {k : Nat} {a b : Int32} {x : Int64} (h : aW fd z.1 k a b = none) : zT fd z k a b x = zA fd z k a b x := by unfold zT; rw [h]; rfl
theorem zT_s {k : Nat} {a b : Int32} {x : Int64} {r : Nat} (h : aW fd z.1 k a b = some r) : zT fd z k a b x = z := by unfold zT; rw [h]; rfl
theorem c_attempt (h : cZ fd z w) (hL : z.2.2.2.1 < 2 ^ 30) {k : Nat} (hk : k ≤ 8) (a b : Int32) (x : Int64) : Wp (f_X11_attempt (nI k) a b x w) (fun q => cZ fd (zT fd z k a b x) q.2 ∧ eqC w q.2 ∧ (q.1 < nI 0 ↔ aW fd z.1 k a b ≠ none)) := by
  cases e : aW fd z.1 k a b with
  | none =>
    rw [zT_n e]
    refine (c_attempt_n h hL hk e).mono (fun q hq => ⟨hq.2.1, hq.2.2, ?_⟩)
    rw [hq.1]
    have := aR_le h.2.1.2.1 (k := k) (a := aN a) (b := aN b) (x := x)
    exact ⟨fun c => absurd c (pu_neg0 (by omega)), fun c => absurd rfl c⟩
  | some r =>
    rw [zT_s e]
    refine (c_attempt_s h hk e).mono (fun q hq => ⟨hq.2.1, hq.2.2, ?_⟩)
    rw [hq.1]
    have : ∀ r, r < 4 → (-nI 1 - nI r) < nI 0 := by decide
    exact ⟨fun _ => by simp, fun _ => this r (aW_lt e)⟩
theorem c_act_n (h : cZ fd z w) (hL : z.2.2.2.1 < 2 ^ 30) {k : Nat} (hk : k ≤ 8) {a b : Int32} {x : Int64} (ha : aW fd z.1 k a b = none) : Wp (f_X11_act (nI k) a b x w) (fun q => q.1 = nI (aR fd z.1 k (aN a) (aN b) x) ∧ cZ fd (zA fd z k a b x) q.2 ∧ eqC w q.2) := by
  obtain ⟨⟨v, w1⟩, t1, t2, t3, t4⟩ := c_attempt_n h hL hk ha (x := x)
  have t2 : v = nI (aR fd z.1 k (aN a) (aN b) x) := t2
  subst t2
  have := aR_le h.2.1.2.1 (k := k) (a := aN a) (b := aN b) (x := x)
  unfold f_X11_act
  simp (disch := omega) only [pv_v, pv_b2, pv_b1, pv_x, pv_lit, pv_ofN, pu_chk, pu_cl, nI_add, pk_mul, nI_leI, nI_ltI, nI_eq, pu_nar0, pu_nar1, pu_narb, bI_0, bI_1, ↓reduceIte, pu_leT, pu_leF, pu_ltT, pu_ltF, pu_eqT, pu_eqF, pu_x1, pu_x2, pu_x3, pu_x4, pu_x5, pu_x6, pu_x7, pu_x8, Nat.zero_add, pu_m31I, pu_m31, pu_shlI, eq_self, Bool.false_eq_true, Bool.true_eq_false, t1]
  exact Wp.some ⟨rfl, t3, t4⟩
theorem c_act_s (h : cZ fd z w) {k : Nat} (hk : k ≤ 8) {a b : Int32} {x : Int64} {r : Nat} (ha : aW fd z.1 k a b = some r) : Wp (f_X11_act (nI k) a b x w) (fun q => q.1 = -nI 1 ∧ ∃ w1, cZ fd z w1 ∧ eqC w w1 ∧ q.2 = am_pi w1 248 r (w.1 248 r + nI 1)) := by
  have hr := aW_lt ha
  obtain ⟨⟨v, w1⟩, t1, t2, t3, t4⟩ := c_attempt_s h hk ha (x := x)
  have t2 : v = -nI 1 - nI r := t2
  subst t2
  have t4 : eqC w w1 := t4
  have e1 : ∀ r, r < 4 → (-nI 1 - nI r) < nI 0 := by decide
  have e2 : ∀ r, r < 4 → -nI 1 - (-nI 1 - nI r) = nI r := by decide
  have e3 : w1.1 248 r = w.1 248 r := by rw [t4.1 248 (by omega)]
  unfold f_X11_act f_X11_act_42
  simp (disch := omega) only [pv_v, pv_b2, pv_b1, pv_x, pv_lit, pv_ofN, pu_chk, pu_cl, nI_add, pk_mul, nI_leI, nI_ltI, nI_eq, pu_nar0, pu_nar1, pu_narb, bI_0, bI_1, ↓reduceIte, pu_leT, pu_leF, pu_ltT, pu_ltF, pu_eqT, pu_eqF, pu_x1, pu_x2, pu_x3, pu_x4, pu_x5, pu_x6, pu_x7, pu_x8, Nat.zero_add, pu_m31I, pu_m31, pu_shlI, eq_self, Bool.false_eq_true, Bool.true_eq_false, t1, e1 r hr, e2 r hr, e3]
  exact Wp.some ⟨rfl, w1, t3, t4, rfl⟩
theorem cZ.fr (h : cZ fd z w) (hi : ∀ q, (q = 11 ∨ q = 13 ∨ q = 14 ∨ q = 15 ∨ q = 18 ∨ (22 < q ∧ q < 28) ∨ (37 < q ∧ q < 42) ∨ (45 < q ∧ q < 248) ∨ q = 250 ∨ q = 253) → w'.1 q = w.1 q) (hl : ∀ q, (q = 25 ∨ (45 < q ∧ q < 248)) → w'.2.1 q = w.2.1 q) (hf : w'.2.2 251 = w.2.2 251) (hf2 : w'.2.2 252 = w.2.2 252) : cZ fd z w' := by
  obtain ⟨hz, hX, hP, hJ⟩ := h
  refine ⟨hz, ⟨hX.1, hX.2.1, hX.2.2.1.fr (hi _ (by omega)) (hi _ (by omega)) (hi _ (by omega)) (hi _ (by omega)) (hi _ (by omega)), ?_, hX.2.2.2.2.fr (hi _ (by omega)) (hi _ (by omega)) (hl _ (by omega)) (hi _ (by omega)) (hi _ (by omega))⟩, hP.fr (fun q h1 h2 => ⟨hi q (by omega), hl q (by omega)⟩), hJ.fr (hi _ (by omega)) (hi _ (by omega)) (hi _ (by omega)) (hi _ (by omega))⟩
  have := hX.2.2.2.1
  unfold cT
  rw [hi 250 (by omega), hi 253 (by omega), hf, hf2]; exact this
end ACT
